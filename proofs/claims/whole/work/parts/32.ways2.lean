/-! a bell, in both; what closes -/
theorem mod_s {z x : Int} (hz : 1 ≤ z ∧ z ≤ 4) : nxt z (x % z) = (x + 1) % z := by
  unfold nxt
  rcases (by omega : z = 1 ∨ z = 2 ∨ z = 3 ∨ z = 4) with e | e | e | e <;> subst e <;> split <;> omega
theorem c_turnW {n : Nat} {z u ho : Int → Int} {bo : Int → Int → Int} {k : Nat} {σ0 : Mem} {Q : Int → Mem → Prop} (hG : CFG n z u ho bo) (hC : CK n z u ho bo k σ0) (hQ : ∀ σ', CK n z u ho bo (k + 1) σ' → (∀ q, q ≠ 38 → σ' q = σ0 q) → Q 0 σ') : HT GC M_X0_turnAll [mr 35] σ0 Q := by
  have hn := hG.1
  have key : ∀ (m i : Nat) (σ : Mem), i + m = n → (∀ q, q ≠ 38 → σ q = σ0 q) → (∀ c : Int, 0 ≤ c → c < i → σ 38 c = (u c + (k + 1 : Nat)) % z c) → (∀ c : Int, (i : Int) ≤ c → σ 38 c = σ0 38 c) → WP GC M_X0_turnAll 2 [some (mr 35), some (mi (i : Int))] [] σ Q := by
    intro m
    induction m with
    | zero =>
      intro i σ hi f a b
      obtain rfl : i = n := by omega
      apply b_X0_turnAll_35_2
      rw [f 35 (by decide), hC.1]
      refine bt (by omega) (hQ σ ⟨by rw [f 35 (by decide)]; exact hC.1, fun c c0 c1 => ?_⟩ f)
      have e := hC.2 c c0 c1
      rw [f 36 (by decide), f 37 (by decide), f 39 (by decide)]
      exact ⟨e.1, a c c0 c1, e.2.2⟩
    | succ m ih =>
      intro i σ hi f a b
      have hci : 0 ≤ (i : Int) ∧ (i : Int) < n := by omega
      have e := hC.2 i hci.1 hci.2
      have g := hG.2 i hci.1 hci.2
      have m1 := Int.emod_nonneg (u i + k) (show z i ≠ 0 by omega)
      have m2 := Int.emod_lt_of_pos (u i + k) (show 0 < z i by omega)
      have ms := mod_s (x := u i + k) g.1
      have e38 : σ 38 i = (u i + k) % z i := by rw [b i (Int.le_refl _), e.2.1]
      have nx : ∀ v, v = nxt (z i) ((u i + k) % z i) → WP GC M_X0_turnAll 44 [some (mr 35), some (mi (i : Int))] [mi v, mi (i : Int), mr 38] σ Q := by
        intro v hv
        apply b_X0_turnAll_35_44
        rw [jadd_eq (by omega) (by omega)]
        refine ⟨by omega, ih (i + 1) _ (by omega) (fun q hq => by rw [mupd_ne _ hq, f q hq]) (fun c c0 c1 => ?_) (fun c hc => by rw [mupd_ri (by omega), b c (by omega)])⟩
        rw [mupd_ap]
        by_cases q : c = i
        · rw [if_pos q, hv, ms, q]
          congr 1; omega
        · rw [if_neg q]; exact a c c0 (by omega)
      apply b_X0_turnAll_35_2
      rw [f 35 (by decide), hC.1, f 37 (by decide), e.1, e38, jadd_eq (by omega) (by omega)]
      refine bf (by omega) ⟨by omega, by omega, fun q => nx _ ?_, fun q => ⟨by omega, nx _ ?_⟩⟩
      · unfold nxt; rw [if_pos q]
      · unfold nxt; rw [if_neg q]
  apply e_X0_turnAll_35
  exact key n 0 σ0 (by omega) (fun _ _ => rfl) (fun c a b => by omega) (fun _ _ => rfl)
def FW (σ σ' : Mem) : Prop := ∀ q, q < 33 ∨ q = 34 ∨ 39 < q → σ' q = σ q
theorem FW.tr {a b c : Mem} (h : FW a b) (g : FW b c) : FW a c := fun q hq => by rw [g q hq, h q hq]
theorem c_ring {n : Nat} {z u ho : Int → Int} {bo : Int → Int → Int} {k : Nat} {T H P : Int} {σ0 : Mem} {Q : Int → Mem → Prop} (hG : CFG n z u ho bo) (hW : CW n z u ho bo k T H P σ0) (hT : 0 ≤ T ∧ T < 256) (hH : 0 ≤ H ∧ H < 256) (hP : 0 ≤ P ∧ P < 16) (hQ : ∀ σ', CW n z u ho bo (k + 1) T (hS (wk z u bo (k + 1)) H (pF (wk z u bo (k + 1)) T P n) n) (pS (wk z u bo (k + 1)) ho (hS (wk z u bo (k + 1)) H (pF (wk z u bo (k + 1)) T P n) n) (pF (wk z u bo (k + 1)) T P n) n) σ' → FW σ0 σ' → σ' 33 5 = pF (wk z u bo (k + 1)) T P n → Q 0 σ') : HT GC M_X7_ring [mr 33] σ0 Q := by
  have hn := hG.1
  have hw := hG.w (k + 1)
  apply e_X7_ring_33
  refine c_turnW hG hW.1 (fun σ1 c1 f1 => ?_)
  have key : ∀ (m i : Nat) (σ : Mem), i + m = n → CW n z u ho bo (k + 1) T H (pF (wk z u bo (k + 1)) T P i) σ → FW σ0 σ → WP GC M_X7_ring 9 [some (mr 33), some (mi (i : Int))] [] σ Q := by
    intro m
    induction m with
    | zero =>
      intro i σ hi hC f
      obtain rfl : i = n := by omega
      apply b_X7_ring_33_9
      rw [hC.1.1, hC.2.2.2]
      have hp := (pF_in (w := wk z u bo (k + 1)) (T := T) hP i hn).1
      refine bt (by omega) (c_spread hG ⟨hC.1.p, by rw [mupd_ri (by decide)]; exact hC.2.1, by rw [mupd_ri (by decide)]; exact hC.2.2.1, by rw [mupd_ri (by decide)]; exact hC.2.2.2⟩ hH hp (fun σ' a b c => hQ σ' a (f.tr (fun q hq => by rw [b q (by omega), mupd_ne _ (by omega)])) (by rw [c, mupd_at])))
    | succ m ih =>
      intro i σ hi hC f
      have hci : 0 ≤ (i : Int) ∧ (i : Int) < n := by omega
      have hwi := hw i hci.1 hci.2
      apply b_X7_ring_33_9
      rw [hC.1.1]
      refine bf (by omega) (CK.wr hG hC.1 hci ?_)
      rw [hC.2.1, bit_test ⟨hT.1, by omega⟩ (by omega)]
      by_cases q : tb T (wk z u bo (k + 1) i) = true
      · rw [if_pos q]
        refine bf (by decide) ?_
        apply b_X7_ring_33_52
        rw [jadd_eq (by omega) (by omega), hC.2.2.2]
        refine ih (i + 1) _ (by omega) ⟨hC.1.p, by rw [mupd_ri (by decide)]; exact hC.2.1, by rw [mupd_ri (by decide)]; exact hC.2.2.1, ?_⟩ (f.tr (fun q hq => by rw [mupd_ne _ (by omega)]))
        simp only [pF]
        rw [if_pos q, mupd_at]
      · rw [if_neg q]
        refine bt rfl ?_
        apply b_X7_ring_33_52
        rw [jadd_eq (by omega) (by omega)]
        refine ih (i + 1) σ (by omega) ?_ f
        simp only [pF]
        rw [if_neg q]; exact hC
  exact key n 0 σ1 (by omega) ⟨c1, by rw [f1 33 (by decide)]; exact hW.2.1, by rw [f1 33 (by decide)]; exact hW.2.2.1, by rw [f1 33 (by decide)]; exact hW.2.2.2⟩ (fun q hq => f1 q (by omega))
/-! the reference's pass over the coats -/
def FV (τ τ' : Mem) : Prop := (∀ q, q ≠ 0 → τ' q = τ q) ∧ ∀ j, j ≠ 18 → j ≠ 19 → τ' 0 j = τ 0 j
theorem FV.rf {τ : Mem} : FV τ τ := ⟨fun _ _ => rfl, fun _ _ _ => rfl⟩
theorem FV.tr {a b c : Mem} (h : FV a b) (g : FV b c) : FV a c := ⟨fun q hq => by rw [g.1 q hq, h.1 q hq], fun j h1 h2 => by rw [g.2 j h1 h2, h.2 j h1 h2]⟩
theorem FV.p {τ : Mem} {j v : Int} (hj : j = 18 ∨ j = 19) : FV τ (mupd τ 0 j v) := ⟨fun q hq => mupd_ne _ hq, fun i a b => mupd_ri (by omega)⟩
theorem FV.mk {n : Nat} {z u ho : Int → Int} {bo : Int → Int → Int} {τ τ' : Mem} (h : MKo n z u ho bo τ) (f : FV τ τ') : MKo n z u ho bo τ' := h.fr (fun q a b => f.1 q (by omega)) (f.2 4 (by decide) (by decide))
theorem m_pass {n : Nat} {z u ho : Int → Int} {bo : Int → Int → Int} {k : Nat} {T H P : Int} {τ0 : Mem} {Q : Int → Mem → Prop} (hG : CFG n z u ho bo) (hM : MKo n z u ho bo τ0) (hk : k < 1000) (hT : 0 ≤ T ∧ T < 256) (hH : 0 ≤ H ∧ H < 256) (hP : 0 ≤ P ∧ P < 16) (e1 : τ0 0 18 = H) (e2 : τ0 0 19 = P) (hQ : ∀ τ' H' P', FV τ0 τ' → τ' 0 18 = H' → τ' 0 19 = P' → (0 ≤ H' ∧ H' < 256) → (0 ≤ P' ∧ P' < 16) → (∀ b : Int, 0 ≤ b → (tb H' b = true ↔ tb H b = true ∨ ∃ c : Int, 0 ≤ c ∧ c < n ∧ tb P c = true ∧ ¬ tb T (wk z u bo k c) = true ∧ wk z u bo k c = b)) → (∀ c : Int, 0 ≤ c → tb P' c = true → tb P c = true ∨ (c < n ∧ ¬ tb T (wk z u bo k c) = true ∧ tb H' (wk z u bo k c) = true)) → (∀ c : Int, 0 ≤ c → tb P c = true ∨ (c < n ∧ ¬ tb T (wk z u bo k c) = true ∧ tb H (wk z u bo k c) = true) → tb P' c = true) → Q 0 τ') : HT GM M_X9_close [mr 0, mi (k : Int), mi T] τ0 Q := by
  have hn := hG.1
  have hw := hG.w k
  have key : ∀ (m i : Nat) (τ : Mem) (H' P' : Int), i + m = n → FV τ0 τ → τ 0 18 = H' → τ 0 19 = P' → (0 ≤ H' ∧ H' < 256) → (0 ≤ P' ∧ P' < 16) → (∀ b : Int, 0 ≤ b → (tb H' b = true ↔ tb H b = true ∨ ∃ c : Int, 0 ≤ c ∧ c < i ∧ tb P c = true ∧ ¬ tb T (wk z u bo k c) = true ∧ wk z u bo k c = b)) → (∀ c : Int, 0 ≤ c → tb P' c = true → tb P c = true ∨ (c < i ∧ ¬ tb T (wk z u bo k c) = true ∧ tb H' (wk z u bo k c) = true)) → (∀ c : Int, 0 ≤ c → tb P c = true ∨ (c < i ∧ ¬ tb T (wk z u bo k c) = true ∧ tb H (wk z u bo k c) = true) → tb P' c = true) → WP GM M_X9_close 2 [some (mr 0), some (mi (k : Int)), some (mi T), some (mi (i : Int)), none] [] τ Q := by
    intro m
    induction m with
    | zero =>
      intro i τ H' P' hi f a1 a2 r1 r2 s1 s2 s3
      obtain rfl : i = n := by omega
      apply b_X9_close_0_2
      rw [(f.mk hM).1]
      exact bt (by omega) (hQ τ H' P' f a1 a2 r1 r2 s1 s2 s3)
    | succ m ih =>
      intro i τ H' P' hi f a1 a2 r1 r2 s1 s2 s3
      have hci : 0 ≤ (i : Int) ∧ (i : Int) < n := by omega
      have hwi := hw i hci.1 hci.2
      have next : ∀ (τ1 : Mem) (H1 P1 : Int), FV τ0 τ1 → τ1 0 18 = H1 → τ1 0 19 = P1 → (0 ≤ H1 ∧ H1 < 256) → (0 ≤ P1 ∧ P1 < 16) → (∀ b : Int, 0 ≤ b → (tb H1 b = true ↔ tb H b = true ∨ ∃ c : Int, 0 ≤ c ∧ c < ((i + 1 : Nat) : Int) ∧ tb P c = true ∧ ¬ tb T (wk z u bo k c) = true ∧ wk z u bo k c = b)) → (∀ c : Int, 0 ≤ c → tb P1 c = true → tb P c = true ∨ (c < ((i + 1 : Nat) : Int) ∧ ¬ tb T (wk z u bo k c) = true ∧ tb H1 (wk z u bo k c) = true)) → (∀ c : Int, 0 ≤ c → tb P c = true ∨ (c < ((i + 1 : Nat) : Int) ∧ ¬ tb T (wk z u bo k c) = true ∧ tb H (wk z u bo k c) = true) → tb P1 c = true) → WP GM M_X9_close 75 [some (mr 0), some (mi (k : Int)), some (mi T), some (mi (i : Int)), none] [] τ1 Q := by
        intro τ1 H1 P1 g1 g2 g3 g4 g5 g6 g7 g8
        apply b_X9_close_0_75
        rw [jadd_eq (by omega) (by omega)]
        exact ih (i + 1) τ1 H1 P1 (by omega) g1 g2 g3 g4 g5 g6 g7 g8
      -- nothing is added
      have stay : (tb T (wk z u bo k i) = true ∨ (¬ tb P i = true ∧ ¬ tb H (wk z u bo k i) = true)) → WP GM M_X9_close 75 [some (mr 0), some (mi (k : Int)), some (mi T), some (mi (i : Int)), none] [] τ Q := by
        intro hh
        refine next τ H' P' f a1 a2 r1 r2 (fun b hb => ?_) (fun c c0 hc => ?_) (fun c c0 hc => ?_)
        · rw [s1 b hb]
          constructor
          · rintro (y | ⟨c, d0, d1, d2⟩)
            · exact Or.inl y
            · exact Or.inr ⟨c, d0, by omega, d2⟩
          · rintro (y | ⟨c, d0, d1, d2, d3, d4⟩)
            · exact Or.inl y
            · by_cases e : c = i
              · subst e
                rcases hh with hh | hh
                · exact absurd hh d3
                · exact absurd d2 hh.1
              · exact Or.inr ⟨c, d0, by omega, d2, d3, d4⟩
        · rcases s2 c c0 hc with y | ⟨d1, d2⟩
          · exact Or.inl y
          · exact Or.inr ⟨by omega, d2⟩
        · refine s3 c c0 ?_
          rcases hc with y | ⟨d1, d2, d3⟩
          · exact Or.inl y
          · by_cases e : c = i
            · subst e
              rcases hh with hh | hh
              · exact absurd hh d2
              · exact absurd d3 hh.2
            · exact Or.inr ⟨by omega, d2, d3⟩
      -- the wearer and the pocket are added
      have add : ¬ tb T (wk z u bo k i) = true → (tb H' (wk z u bo k i) = true ∨ tb P' i = true) → WP GM M_X9_close 50 [some (mr 0), some (mi (k : Int)), some (mi T), some (mi (i : Int)), some (mi (wk z u bo k i))] [] τ Q := by
        intro hh h2
        have hs := shl1_256 hwi
        have hs2 := shl1_16 (k := (i : Int)) (by omega)
        have hb1 : ∀ b : Int, 0 ≤ b → (tb (jor H' (jshl 1 (wk z u bo k i))) b = true ↔ tb H' b = true ∨ wk z u bo k i = b) := fun b hb => by
          rw [tb_or ⟨r1.1, by omega⟩ ⟨hs.1, by omega⟩, tb_shl1 (by omega) hb, Bool.or_eq_true, decide_eq_true_eq]
        have hb2 : ∀ b : Int, 0 ≤ b → (tb (jor P' (jshl 1 i)) b = true ↔ tb P' b = true ∨ (i : Int) = b) := fun b hb => by
          rw [tb_or ⟨r2.1, by omega⟩ ⟨hs2.1, by omega⟩, tb_shl1 (by omega) hb, Bool.or_eq_true, decide_eq_true_eq]
        -- whether it was in P or not, the hands are what they should be
        have inP : tb P' i = true → tb P i = true := fun y => by
          rcases s2 i hci.1 y with q | ⟨q, _⟩
          · exact q
          · omega
        apply b_X9_close_0_50
        rw [a1, a2]
        refine next _ (jor H' (jshl 1 (wk z u bo k i))) (jor P' (jshl 1 i)) ((f.tr (FV.p (Or.inl rfl))).tr (FV.p (Or.inr rfl))) (by rw [mupd_ri (by decide), mupd_at]) (by rw [mupd_at]) (jor_256 r1 hs) (jor_16 r2 hs2) (fun b hb => ?_) (fun c c0 hc => ?_) (fun c c0 hc => ?_)
        · rw [hb1 b hb, s1 b hb]
          constructor
          · rintro ((y | ⟨c, d0, d1, d2⟩) | y)
            · exact Or.inl y
            · exact Or.inr ⟨c, d0, by omega, d2⟩
            · rcases h2 with h2 | h2
              · rw [y, s1 b hb] at h2
                rcases h2 with q | ⟨c, d0, d1, d2⟩
                · exact Or.inl q
                · exact Or.inr ⟨c, d0, by omega, d2⟩
              · exact Or.inr ⟨i, hci.1, by omega, inP h2, hh, y⟩
          · rintro (y | ⟨c, d0, d1, d2, d3, d4⟩)
            · exact Or.inl (Or.inl y)
            · by_cases e : c = i
              · subst e; exact Or.inr d4
              · exact Or.inl (Or.inr ⟨c, d0, by omega, d2, d3, d4⟩)
        · have hwc : c < (n : Int) → 0 ≤ wk z u bo k c := fun q => (hw c c0 q).1
          rw [hb2 c c0] at hc
          rcases hc with y | y
          · rcases s2 c c0 y with q | ⟨d1, d2, d3⟩
            · exact Or.inl q
            · exact Or.inr ⟨by omega, d2, by rw [hb1 _ (hwc (by omega))]; exact Or.inl d3⟩
          · subst y
            exact Or.inr ⟨by omega, hh, by rw [hb1 _ hwi.1]; exact Or.inr rfl⟩
        · rw [hb2 c c0]
          rcases hc with y | ⟨d1, d2, d3⟩
          · exact Or.inl (s3 c c0 (Or.inl y))
          · by_cases e : c = i
            · exact Or.inr e.symm
            · exact Or.inl (s3 c c0 (Or.inr ⟨by omega, d2, d3⟩))
      apply b_X9_close_0_2
      rw [(f.mk hM).1]
      refine bf (by omega) (MKo.wr hG (f.mk hM) hk hci (m_has ⟨hT.1, by omega⟩ (by omega) (fun y => bn1 (stay (Or.inl y))) (fun y => bn0 ?_)))
      rw [a1]
      refine m_has ⟨r1.1, by omega⟩ (by omega) (fun y2 => bn1 (add y (Or.inl y2))) (fun y2 => bn0 ?_)
      rw [a2]
      refine m_has ⟨r2.1, by omega⟩ (by omega) (fun y3 => br1 (add y (Or.inr y3))) (fun y3 => br0 (stay (Or.inr ⟨fun q => y3 (s3 i hci.1 (Or.inl q)), fun q => y2 ((s1 _ hwi.1).mpr (Or.inl q))⟩)))
  apply e_X9_close_0
  refine key n 0 τ0 H P (by omega) FV.rf e1 e2 hH hP (fun b hb => ⟨fun y => Or.inl y, fun y => ?_⟩) (fun c c0 y => Or.inl y) (fun c c0 y => ?_)
  · rcases y with y | ⟨c, d0, d1, _⟩
    · exact y
    · omega
  · rcases y with y | ⟨d1, _⟩
    · exact y
    · omega
