/-! dealt: one order tried by the reference -/
def ML (s : Nat) (c : Int) (h f : Int → Int) (τ0 τ : Mem) : Prop := (∀ q, q ≠ 0 → q ≠ 2 → q ≠ 4 → q ≠ 12 → q ≠ 13 → q ≠ 14 → τ q = τ0 q) ∧ (∀ j, j ≠ 18 → j ≠ 19 → j ≠ 20 → τ 0 j = τ0 0 j) ∧ (τ 2 c = 0 ∧ ∀ i, i ≠ c → τ 2 i = τ0 2 i) ∧ (∀ i, (i < 4 * c ∨ 4 * c + s ≤ i) → τ 4 i = τ0 4 i) ∧ (∀ j : Int, 0 ≤ j → j < s → τ 12 j = f j) ∧ ∀ j : Int, 0 ≤ j → j < s → τ 14 j = h j
theorem ML.st {s : Nat} {c : Int} {h f f' : Int → Int} {τ0 τ τ' : Mem} (hM : ML s c h f τ0 τ) (a : ∀ q, q ≠ 0 → q ≠ 4 → q ≠ 12 → q ≠ 13 → τ' q = τ q) (b : ∀ j, j ≠ 18 → j ≠ 19 → j ≠ 20 → τ' 0 j = τ 0 j) (d : ∀ i, (i < 4 * c ∨ 4 * c + s ≤ i) → τ' 4 i = τ 4 i) (e : ∀ j : Int, 0 ≤ j → j < s → τ' 12 j = f' j) : ML s c h f' τ0 τ' := by
  refine ⟨fun q q1 q2 q3 q4 q5 q6 => by rw [a q q1 q3 q4 q5, hM.1 q q1 q2 q3 q4 q5 q6], fun j j1 j2 j3 => by rw [b j j1 j2 j3, hM.2.1 j j1 j2 j3], ?_, fun i hi => by rw [d i hi, hM.2.2.2.1 i hi], e, fun j j0 j1 => by rw [a 14 (by decide) (by decide) (by decide) (by decide)]; exact hM.2.2.2.2.2 j j0 j1⟩
  rw [a 2 (by decide) (by decide) (by decide) (by decide)]
  exact hM.2.2.1
theorem ML.mk {n : Nat} {z u ho : Int → Int} {bo : Int → Int → Int} {c : Int} {s : Nat} {h f : Int → Int} {τ0 τ : Mem} (hs4 : s ≤ 4) (hG : CFG n z u ho bo) (hs : (s : Int) = z c) (hO : MKo n z u ho bo τ0) (hM : ML s c h f τ0 τ) (e4 : ∀ j : Int, 0 ≤ j → j < s → τ 4 (4 * c + j) = f j) : MKo n z (upF u c 0) ho (rb bo c f) τ := by
  refine ⟨by rw [hM.2.1 4 (by decide) (by decide) (by decide)]; exact hO.1, fun d d0 d1 => ?_⟩
  have g := hO.2 d d0 d1
  have hz := (hG.2 d d0 d1).1
  rw [hM.1 1 (by decide) (by decide) (by decide) (by decide) (by decide) (by decide), hM.1 3 (by decide) (by decide) (by decide) (by decide) (by decide) (by decide)]
  refine ⟨g.1, ?_, g.2.2.1, fun j j0 j1 => ?_⟩
  · unfold upF
    by_cases e : d = c
    · rw [if_pos e, e]; exact hM.2.2.1.1
    · rw [if_neg e, hM.2.2.1.2 d e]; exact g.2.1
  · by_cases e : d = c
    · subst e
      rw [rb_at]; exact e4 j j0 (by omega)
    · rw [rb_ne e, hM.2.2.2.1 (4 * d + j) (by omega)]
      exact g.2.2.2 j j0 j1
theorem l_wr {c x2 x3 x4 x6 x7 : Int} {s : Nat} {h f B : Int → Int} {τ0 : Mem} {Q : Int → Mem → Prop} (hs : s ≤ 4) (hc : 0 ≤ c ∧ c < 4) (hQ : ∀ τ', ML s c h f τ0 τ' → (∀ j : Int, 0 ≤ j → j < s → τ' 4 (4 * c + j) = f j) → τ' 13 = B → WP GM M_X9_dealt 175 [some (mr 0), some (mi c), some (mi x2), some (mi x3), some (mi x4), some (mi (s : Int)), some (mi x6), some (mi x7), none, some (mi (s : Int)), none] [] τ' Q) : ∀ (m i : Nat) (τ : Mem), i + m = s → ML s c h f τ0 τ → (∀ j : Int, 0 ≤ j → j < i → τ 4 (4 * c + j) = f j) → τ 13 = B → WP GM M_X9_dealt 175 [some (mr 0), some (mi c), some (mi x2), some (mi x3), some (mi x4), some (mi (s : Int)), some (mi x6), some (mi x7), none, some (mi (i : Int)), none] [] τ Q
  | 0, i, τ, hi, hM, a, b => by
    obtain rfl : i = s := by omega
    exact hQ τ hM a b
  | m + 1, i, τ, hi, hM, a, b => by
    apply b_X9_dealt_0_175
    rw [jmul_eq (by omega) (by omega), jadd_eq (by omega) (by omega), jadd_eq (by omega) (by omega), hM.2.2.2.2.1 i (by omega) (by omega)]
    refine bf (by omega) ⟨by omega, by omega, ?_⟩
    have h2 := l_wr hs hc hQ m (i + 1) (mupd τ 4 (4 * c + i) (f i)) (by omega) (hM.st (fun q _ q2 _ _ => mupd_ne _ q2) (fun j _ _ _ => by rw [mupd_rp (by decide)]) (fun k hk => by rw [mupd_ri (by omega)]) (fun j j0 j1 => by rw [mupd_rp (by decide)]; exact hM.2.2.2.2.1 j j0 j1)) (fun j j0 j1 => by
      rw [mupd_ap]
      by_cases e : j = i
      · rw [if_pos (by omega), e]
      · rw [if_neg (by omega)]; exact a j j0 (by omega)) (by rw [mupd_ne _ (by decide)]; exact b)
    exact h2
theorem l_bst {c x2 x3 x4 x6 x7 : Int} {s : Nat} {h f : Int → Int} {τ0 : Mem} {Q : Int → Mem → Prop} (hs : s ≤ 4) (hQ : ∀ τ', ML s c h f τ0 τ' → (∀ j : Int, 0 ≤ j → j < s → τ' 13 j = f j) → WP GM M_X9_dealt 266 [some (mr 0), some (mi c), some (mi x2), some (mi x3), some (mi x4), some (mi (s : Int)), some (mi x6), some (mi x7), none, none, none] [] τ' Q) : ∀ (m i : Nat) (τ : Mem), i + m = s → ML s c h f τ0 τ → (∀ j : Int, 0 ≤ j → j < i → τ 13 j = f j) → WP GM M_X9_dealt 239 [some (mr 0), some (mi c), some (mi x2), some (mi x3), some (mi x4), some (mi (s : Int)), some (mi x6), some (mi x7), none, none, some (mi (i : Int))] [] τ Q
  | 0, i, τ, hi, hM, a => by
    obtain rfl : i = s := by omega
    apply b_X9_dealt_0_239
    exact bt (Int.le_refl _) (hQ τ hM a)
  | m + 1, i, τ, hi, hM, a => by
    apply b_X9_dealt_0_239
    rw [jadd_eq (by omega) (by omega), hM.2.2.2.2.1 i (by omega) (by omega)]
    refine bf (by omega) ⟨by omega, by omega, ?_⟩
    have h2 := l_bst (x2 := x2) (x3 := x3) (x4 := x4) (x6 := x6) (x7 := x7) hs hQ m (i + 1) (mupd τ 13 i (f i)) (by omega) (hM.st (fun q _ _ _ q4 => mupd_ne _ q4) (fun j _ _ _ => by rw [mupd_rp (by decide)]) (fun k hk => by rw [mupd_rp (by decide)]) (fun j j0 j1 => by rw [mupd_rp (by decide)]; exact hM.2.2.2.2.1 j j0 j1)) (fun j j0 j1 => by
      rw [mupd_ap]
      by_cases e : j = i
      · rw [if_pos e, e]
      · rw [if_neg e]; exact a j j0 (by omega))
    exact h2
theorem m_one {n : Nat} {z u ho : Int → Int} {bo : Int → Int → Int} {c a t L x4 x6 : Int} {s : Nat} {h f : Int → Int} {τ0 τ : Mem} {Q : Int → Mem → Prop} (hG : CFG n z u ho bo) (hc : 0 ≤ c ∧ c < n) (hs : (s : Int) = z c) (hf : RG s f) (ha : 0 ≤ a ∧ a < 8) (ht : 0 ≤ t ∧ t < 8) (hO : MKo n z u ho bo τ0) (hL : L = -4 ∨ (0 ≤ L ∧ L ≤ 24)) (hM : ML s c h f τ0 τ) (h1 : ∀ kf : Nat, kf ≤ 24 → hitW n z (upF u c 0) ho (rb bo c f) (jand 0 (jxor (jshl 1 a) (-1))) a t kf → (∀ j, j < kf → ¬ hitW n z (upF u c 0) ho (rb bo c f) (jand 0 (jxor (jshl 1 a) (-1))) a t j) → (L = -4 ∨ (kf : Int) < L) → ∀ τ', ML s c h (nxF s f).2 τ0 τ' → (∀ j : Int, 0 ≤ j → j < s → τ' 13 j = f j) → WP GM M_X9_dealt 167 [some (mr 0), some (mi c), some (mi a), some (mi t), some (mi x4), some (mi (s : Int)), some (mi x6), some (mi (kf : Int)), some (mi ((nxF s f).1 : Int)), none, none] [] τ' Q) (h0 : (∀ kf : Nat, kf ≤ 24 → hitW n z (upF u c 0) ho (rb bo c f) (jand 0 (jxor (jshl 1 a) (-1))) a t kf → (∀ j, j < kf → ¬ hitW n z (upF u c 0) ho (rb bo c f) (jand 0 (jxor (jshl 1 a) (-1))) a t j) → L ≠ -4 ∧ L ≤ (kf : Int)) → ∀ τ', ML s c h (nxF s f).2 τ0 τ' → τ' 13 = τ 13 → WP GM M_X9_dealt 167 [some (mr 0), some (mi c), some (mi a), some (mi t), some (mi x4), some (mi (s : Int)), some (mi x6), some (mi L), some (mi ((nxF s f).1 : Int)), none, none] [] τ' Q) : WP GM M_X9_dealt 167 [some (mr 0), some (mi c), some (mi a), some (mi t), some (mi x4), some (mi (s : Int)), some (mi x6), some (mi L), some (mi 1), none, none] [] τ Q := by
  have hn := hG.1
  have hG2 := CFG.rb (f := f) hG hs hf
  have hzc := (hG.2 c hc.1 hc.2).1
  have after : ∀ (v : Int) (τ3 : Mem), ML s c h f τ0 τ3 → (∀ τ', ML s c h (nxF s f).2 τ0 τ' → τ' 13 = τ3 13 → WP GM M_X9_dealt 167 [some (mr 0), some (mi c), some (mi a), some (mi t), some (mi x4), some (mi (s : Int)), some (mi x6), some (mi v), some (mi ((nxF s f).1 : Int)), none, none] [] τ' Q) → WP GM M_X9_dealt 266 [some (mr 0), some (mi c), some (mi a), some (mi t), some (mi x4), some (mi (s : Int)), some (mi x6), some (mi v), none, none, none] [] τ3 Q := by
    intro v τ3 g h
    apply b_X9_dealt_0_266
    refine m_nextO (z := s) (f := f) (τ0 := τ3) (by omega) ⟨fun _ _ => rfl, g.2.2.2.2.1⟩ (fun τ' hA => ?_)
    exact h τ' (g.st (fun q _ _ q3 _ => hA.1 q q3) (fun j _ _ _ => by rw [hA.1 0 (by decide)]) (fun i _ => by rw [hA.1 4 (by decide)]) hA.2) (hA.1 13 (by decide))
  apply b_X9_dealt_0_167
  refine bf (by decide) ?_
  refine l_wr (h := h) (f := f) (τ0 := τ0) (s := s) (B := τ 13) (by omega) (by omega) (fun τ1 g1 g2 g3 => ?_) s 0 τ (by omega) hM (fun j j0 j1 => by omega) rfl
  apply b_X9_dealt_0_175
  refine bt (Int.le_refl _) ?_
  have M2 : ∀ τ2, FV3 τ1 τ2 → ML s c h f τ0 τ2 := fun τ2 f2 => g1.st (fun q q0 _ _ _ => f2.1 q q0) f2.2 (fun i _ => by rw [f2.1 4 (by decide)]) (fun j j0 j1 => by rw [f2.1 12 (by decide)]; exact g1.2.2.2.2.1 j j0 j1)
  refine m_find (x := 0) hG2 (ML.mk (by omega) hG hs hO g1 g2) (by omega) ha ht (fun kf k1 k2 k3 τ2 f2 _ => ?_) (fun k1 τ2 f2 => ?_)
  · refine bf (by omega) ?_
    have up : (L = -4 ∨ (kf : Int) < L) → WP GM M_X9_dealt 232 [some (mr 0), some (mi c), some (mi a), some (mi t), some (mi x4), some (mi (s : Int)), some (mi x6), none, none, some (mi (kf : Int)), none] [] τ2 Q := by
      intro e
      apply b_X9_dealt_0_232
      exact l_bst (h := h) (f := f) (τ0 := τ0) (by omega) (fun τ3 q1 q2 => after _ τ3 q1 (fun τ' y1 y2 => h1 kf k1 k2 k3 e τ' y1 (fun j j0 j1 => by rw [y2]; exact q2 j j0 j1))) s 0 τ2 (by omega) (M2 τ2 f2) (fun j j0 j1 => by omega)
    have no : ¬ (L = -4 ∨ (kf : Int) < L) → WP GM M_X9_dealt 266 [some (mr 0), some (mi c), some (mi a), some (mi t), some (mi x4), some (mi (s : Int)), some (mi x6), some (mi L), none, none, none] [] τ2 Q := by
      intro e
      refine after _ τ2 (M2 τ2 f2) (fun τ' y1 y2 => h0 (fun kf2 j1 j2 j3 => ?_) τ' y1 (by rw [y2, f2.1 13 (by decide), g3]))
      have := first_eq k2 k3 j2 j3
      omega
    exact ⟨fun e => up (by omega), fun e => ⟨fun e2 => no (by omega), fun e2 => up (by omega)⟩⟩
  · exact bt (by decide) (after _ τ2 (M2 τ2 f2) (fun τ' y1 y2 => h0 (fun kf2 j1 j2 _ => absurd j2 (k1 kf2 j1)) τ' y1 (by rw [y2, f2.1 13 (by decide), g3])))
