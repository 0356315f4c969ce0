/-! dealt in step -/
theorem RR.wx {σ σ' τ τ' : Mem} (hR : RR σ τ) (f : FX σ σ') (g : ∀ q, q ≠ 0 → q < 12 ∨ 15 < q → τ' q = τ q) (g0 : ∀ j, j ≠ 18 → j ≠ 19 → j ≠ 20 → τ' 0 j = τ 0 j) : RR σ' τ' :=
  hR.fr (fun k a b => f k (by omega)) (fun k a b => f k (by omega)) (by rw [f 0 (by omega)]) (by rw [f 25 (by omega)]) (f 26 (by omega)) (fun k a b => g k (by omega) (by omega)) (fun k a b => g k (by omega) (by omega)) (fun j a => g0 j (by omega) (by omega) (by omega))
theorem dl_one {n : Nat} {z u ho : Int → Int} {bo : Int → Int → Int} {c a t x4 x6 : Int} {s : Nat} {h : Int → Int} {σ0 τ0 : Mem} (hG : CFG n z u ho bo) (hc : 0 ≤ c ∧ c < n) (hs : (s : Int) = z c) (ha : 0 ≤ a ∧ a < 8) (ht : 0 ≤ t ∧ t < 8) (hu : ∀ d : Int, 0 ≤ d → d < n → σ0 6 d = u d) (hO : MKo n z u ho bo τ0) (f : Int → Int) (L : Int) (g : Int → Int) (hf : RG s f) (hL : L = -4 ∨ (0 ≤ L ∧ L ≤ 24)) : ∃ (L1 : Int) (g1 : Int → Int), (L1 = -4 ∨ (0 ≤ L1 ∧ L1 ≤ 24)) ∧ (∀ (k : Nat) (σ : Mem) (Q : Int → Mem → Prop), k < 24 → CL n z ho bo c f σ0 σ → (L = -4 ∨ ∀ j : Int, 0 ≤ j → j < s → σ 34 j = g j) → (∀ σ', CL n z ho bo c (nxF s f).2 σ0 σ' → (L1 = -4 ∨ ∀ j : Int, 0 ≤ j → j < s → σ' 34 j = g1 j) → WP GC M_X7_dealBest 26 [some (mr 33), some (mr 3), some (mi c), some (mi a), some (mi t), some (mi L1), some (mi ((nxF s f).1 : Int)), some (mi ((k + 1 : Nat) : Int)), none] [] σ' Q) → WP GC M_X7_dealBest 26 [some (mr 33), some (mr 3), some (mi c), some (mi a), some (mi t), some (mi L), some (mi 1), some (mi (k : Int)), none] [] σ Q) ∧ (∀ (τ : Mem) (Q : Int → Mem → Prop), ML s c h f τ0 τ → (L = -4 ∨ ∀ j : Int, 0 ≤ j → j < s → τ 13 j = g j) → (∀ τ', ML s c h (nxF s f).2 τ0 τ' → (L1 = -4 ∨ ∀ j : Int, 0 ≤ j → j < s → τ' 13 j = g1 j) → WP GM M_X9_dealt 167 [some (mr 0), some (mi c), some (mi a), some (mi t), some (mi x4), some (mi (s : Int)), some (mi x6), some (mi L1), some (mi ((nxF s f).1 : Int)), none, none] [] τ' Q) → WP GM M_X9_dealt 167 [some (mr 0), some (mi c), some (mi a), some (mi t), some (mi x4), some (mi (s : Int)), some (mi x6), some (mi L), some (mi 1), none, none] [] τ Q) := by
  by_cases hb : ∃ kf : Nat, kf ≤ 24 ∧ hitW n z (upF u c 0) ho (rb bo c f) (jand 0 (jxor (jshl 1 a) (-1))) a t kf ∧ (∀ j, j < kf → ¬ hitW n z (upF u c 0) ho (rb bo c f) (jand 0 (jxor (jshl 1 a) (-1))) a t j) ∧ (L = -4 ∨ (kf : Int) < L)
  · obtain ⟨kb, b1, b2, b3, b4⟩ := hb
    refine ⟨kb, f, Or.inr (by omega), fun k σ Q hk hC _ hq => c_one hG hc hs hf ha ht hu hk hL hC (fun kf k1 k2 k3 k4 σ' y1 y2 => ?_) (fun k1 σ' _ _ => ?_), fun τ Q hM _ hq => m_one hG hc hs hf ha ht hO hL hM (fun kf k1 k2 k3 k4 τ' y1 y2 => ?_) (fun k1 τ' _ _ => ?_)⟩
    · obtain rfl := first_eq b2 b3 k2 k3
      exact hq σ' y1 (Or.inr y2)
    · have := k1 kb b1 b2 b3
      exact absurd b4 (by omega)
    · obtain rfl := first_eq b2 b3 k2 k3
      exact hq τ' y1 (Or.inr y2)
    · have := k1 kb b1 b2 b3
      exact absurd b4 (by omega)
  · refine ⟨L, g, hL, fun k σ Q hk hC hg hq => c_one hG hc hs hf ha ht hu hk hL hC (fun kf k1 k2 k3 k4 σ' y1 y2 => ?_) (fun k1 σ' y1 y2 => ?_), fun τ Q hM hg hq => m_one hG hc hs hf ha ht hO hL hM (fun kf k1 k2 k3 k4 τ' y1 y2 => ?_) (fun k1 τ' y1 y2 => ?_)⟩
    · exact absurd ⟨kf, k1, k2, k3, k4⟩ hb
    · exact hq σ' y1 (hg.imp id (fun w j j0 j1 => by rw [y2]; exact w j j0 j1))
    · exact absurd ⟨kf, k1, k2, k3, k4⟩ hb
    · exact hq τ' y1 (hg.imp id (fun w j j0 j1 => by rw [y2]; exact w j j0 j1))
theorem dl_all {n : Nat} {z u ho : Int → Int} {bo : Int → Int → Int} {c a t x4 x6 : Int} {s : Nat} {h : Int → Int} {σ0 τ0 : Mem} (hG : CFG n z u ho bo) (hc : 0 ≤ c ∧ c < n) (hs : (s : Int) = z c) (ha : 0 ≤ a ∧ a < 8) (ht : 0 ≤ t ∧ t < 8) (hu : ∀ d : Int, 0 ≤ d → d < n → σ0 6 d = u d) (hO : MKo n z u ho bo τ0) : ∀ (m : Nat) (f : Int → Int) (L : Int) (g : Int → Int), rdF s m f = true → RG s f → (L = -4 ∨ (0 ≤ L ∧ L ≤ 24)) → ∃ (L' : Int) (g' : Int → Int), (L' = -4 ∨ (0 ≤ L' ∧ L' ≤ 24)) ∧ (∀ (k : Nat) (σ : Mem) (Q : Int → Mem → Prop), k + m ≤ 24 → CL n z ho bo c f σ0 σ → (L = -4 ∨ ∀ j : Int, 0 ≤ j → j < s → σ 34 j = g j) → (∀ σ', FX σ0 σ' → (L' = -4 ∨ ∀ j : Int, 0 ≤ j → j < s → σ' 34 j = g' j) → Q L' σ') → WP GC M_X7_dealBest 26 [some (mr 33), some (mr 3), some (mi c), some (mi a), some (mi t), some (mi L), some (mi 1), some (mi (k : Int)), none] [] σ Q) ∧ (∀ (τ : Mem) (Q : Int → Mem → Prop), ML s c h f τ0 τ → (L = -4 ∨ ∀ j : Int, 0 ≤ j → j < s → τ 13 j = g j) → (∀ τ', (∃ f', ML s c h f' τ0 τ') → (L' = -4 ∨ ∀ j : Int, 0 ≤ j → j < s → τ' 13 j = g' j) → WP GM M_X9_dealt 167 [some (mr 0), some (mi c), some (mi a), some (mi t), some (mi x4), some (mi (s : Int)), some (mi x6), some (mi L'), some (mi 0), none, none] [] τ' Q) → WP GM M_X9_dealt 167 [some (mr 0), some (mi c), some (mi a), some (mi t), some (mi x4), some (mi (s : Int)), some (mi x6), some (mi L), some (mi 1), none, none] [] τ Q)
  | 0, f, L, g, hr, hf, hL => by simp [rdF] at hr
  | m + 1, f, L, g, hr, hf, hL => by
    have hzc := (hG.2 c hc.1 hc.2).1
    obtain ⟨L1, g1, p1, p2, p3⟩ := dl_one (h := h) (x4 := x4) (x6 := x6) hG hc hs ha ht hu hO f L g hf hL
    simp only [rdF] at hr
    by_cases e : (nxF s f).1 = 0
    · refine ⟨L1, g1, p1, fun k σ Q hk hC hg hq => p2 k σ Q (by omega) hC hg (fun σ' y1 y2 => ?_), fun τ Q hM hg hq => p3 τ Q hM hg (fun τ' y1 y2 => ?_)⟩
      · rw [e]
        apply b_X7_dealBest_33_3_26
        exact ⟨fun _ => hq σ' y1.1 y2, fun _ => bt rfl (hq σ' y1.1 y2)⟩
      · rw [e]
        exact hq τ' ⟨_, y1⟩ y2
    · have e1 : (nxF s f).1 = 1 := by
        have := nx_01 s f
        omega
      rw [if_neg e] at hr
      obtain ⟨L2, g2, q1, q2, q3⟩ := dl_all hG hc hs ha ht hu hO m (nxF s f).2 L1 g1 hr (nx_rg (by omega) hf) p1
      refine ⟨L2, g2, q1, fun k σ Q hk hC hg hq => p2 k σ Q (by omega) hC hg (fun σ' y1 y2 => ?_), fun τ Q hM hg hq => p3 τ Q hM hg (fun τ' y1 y2 => ?_)⟩
      · rw [e1]
        exact q2 (k + 1) σ' Q (by omega) y1 y2 hq
      · rw [e1]
        exact q3 τ' Q y1 y2 hq
theorem m_fin {c x2 x3 x4 x6 L : Int} {s : Nat} {h f : Int → Int} {τ0 τ : Mem} {Q : Int → Mem → Prop} (hs : s ≤ 4) (hc : 0 ≤ c ∧ c < 4) (e4 : ∀ j : Int, 0 ≤ j → j < s → τ0 4 (4 * c + j) = h j) (e6 : τ0 2 c = x6) (hM : ML s c h f τ0 τ) (hL : L = -4 ∨ (0 ≤ L ∧ L ≤ 24)) (hx4 : -1 ≤ x4 ∧ x4 ≤ 3) (hQ : ∀ τ', (∀ q, q ≠ 0 → q < 12 ∨ 15 < q → τ' q = τ0 q) → (∀ j, j ≠ 18 → j ≠ 19 → j ≠ 20 → τ' 0 j = τ0 0 j) → Q (if L = -4 then -4 else if x4 < s then (if 0 ≤ x4 then τ 13 x4 else L) else -4) τ') : WP GM M_X9_dealt 167 [some (mr 0), some (mi c), some (mi x2), some (mi x3), some (mi x4), some (mi (s : Int)), some (mi x6), some (mi L), some (mi 0), none, none] [] τ Q := by
  have key : ∀ (m i : Nat) (τ1 : Mem), i + m = s → (∀ q, q ≠ 4 → τ1 q = mupd τ 2 c x6 q) → (∀ i, (i < 4 * c ∨ 4 * c + s ≤ i) → τ1 4 i = τ0 4 i) → (∀ j : Int, 0 ≤ j → j < i → τ1 4 (4 * c + j) = h j) → WP GM M_X9_dealt 288 [some (mr 0), some (mi c), none, none, some (mi x4), some (mi (s : Int)), none, some (mi L), none, some (mi (i : Int)), none] [] τ1 Q := by
    intro m
    induction m with
    | zero =>
      intro i τ1 hi a b d
      obtain rfl : i = s := by omega
      apply b_X9_dealt_0_288
      refine bt (Int.le_refl _) ?_
      have e13 : τ1 13 = τ 13 := by rw [a 13 (by decide), mupd_ne _ (by decide)]
      have fin := hQ τ1 (fun q q0 q1 => by
        by_cases k4 : q = 4
        · subst k4
          funext i'
          by_cases r : i' < 4 * c ∨ 4 * c + i ≤ i'
          · exact b i' r
          · have := d (i' - 4 * c) (by omega) (by omega)
            have w := e4 (i' - 4 * c) (by omega) (by omega)
            rw [show 4 * c + (i' - 4 * c) = i' by omega] at this w
            rw [this, w]
        · rw [a q k4]
          by_cases k2 : q = 2
          · subst k2
            funext i'
            by_cases r : i' = c
            · subst r; rw [mupd_at, e6]
            · rw [mupd_ri r]; exact hM.2.2.1.2 i' r
          · rw [mupd_ne _ k2]
            exact hM.1 q q0 k2 k4 (by omega) (by omega) (by omega)) (fun j j1 j2 j3 => by rw [a 0 (by decide), mupd_ne _ (by decide)]; exact hM.2.1 j j1 j2 j3)
      refine ⟨fun l0 => ?_, fun l0 => ?_⟩
      · rw [if_neg (by omega)] at fin
        refine ⟨fun p0 => ⟨fun p1 => ?_, fun p1 => ⟨by omega, ?_⟩⟩, fun p0 => ?_⟩
        · rw [if_neg (by omega)] at fin; exact fin
        · rw [if_pos (by omega), if_pos p0] at fin
          rw [e13]; exact fin
        · rw [if_pos (by omega), if_neg p0] at fin; exact fin
      · rw [if_pos (by omega)] at fin; exact fin
    | succ m ih =>
      intro i τ1 hi a b d
      apply b_X9_dealt_0_288
      have e14 : τ1 14 i = h i := by rw [a 14 (by decide), mupd_ne _ (by decide)]; exact hM.2.2.2.2.2 i (by omega) (by omega)
      rw [jmul_eq (by omega) (by omega), jadd_eq (by omega) (by omega), jadd_eq (by omega) (by omega), e14]
      refine bf (by omega) ⟨by omega, by omega, ?_⟩
      refine ih (i + 1) _ (by omega) (fun q hq => by rw [mupd_ne _ hq]; exact a q hq) (fun i' hi' => by rw [mupd_ri (by omega)]; exact b i' hi') (fun j j0 j1 => ?_)
      rw [mupd_ap]
      by_cases e : j = i
      · rw [if_pos (by omega), e]
      · rw [if_neg (by omega)]; exact d j j0 (by omega)
  apply b_X9_dealt_0_167
  exact bt rfl ⟨hc, key s 0 _ (by omega) (fun _ _ => rfl) (fun i hi => by rw [mupd_ne _ (by decide)]; exact hM.2.2.2.1 i hi) (fun j j0 j1 => by omega)⟩
theorem sim_dealt {c a t v : Int} {σ τ : Mem} (hR : RR σ τ) : SIM M_X8_dealt M_X9_dealt [mr 0, mi c, mi a, mi t, mi v] σ τ RR := by
  have hn := hR.nc
  by_cases hc : 0 ≤ c ∧ c < τ 0 4
  · by_cases ha : 0 ≤ a ∧ a < 8
    · by_cases ht : 0 ≤ t ∧ t < 8
      · by_cases hv : -1 ≤ v ∧ v ≤ 3
        · obtain ⟨hG, hO, hne⟩ := hR.cfg
          have hco := hR.co hc
          have hz := hco.1.1
          obtain ⟨s, hs⟩ : ∃ s : Nat, (s : Int) = τ 1 c := ⟨(τ 1 c).toNat, by omega⟩
          have hh : RG s (fun j => τ 4 (4 * c + j)) := fun j j0 j1 => hco.1.2.2.2.1 j j0 (by omega)
          have hso := so_rd (z := s) (h := fun j => τ 4 (4 * c + j)) (by omega) hh (fun i j i0 ij j1 => hco.1.2.2.2.2 i j i0 ij (by omega))
          have hf : RG s (isM (fun j => τ 4 (4 * c + j)) s 0 (fun _ => 0)) := fun j j0 j1 => by
            rw [← hso.1 j j0 j1]; exact si_rg s 0 _ (by omega) hh j j0 j1
          obtain ⟨L, g, hL, cl, ml⟩ := dl_all (σ0 := σ) (τ0 := τ) (h := fun j => τ 4 (4 * c + j)) (x4 := v) (x6 := τ 2 c) hG ⟨hc.1, by omega⟩ hs ha ht (fun d d0 d1 => (hR.co (c := d) ⟨d0, by omega⟩).2.2.1) hO 24 (isM (fun j => τ 4 (4 * c + j)) s 0 (fun _ => 0)) (-4) (fun _ => 0) hso.2 hf (Or.inl rfl)
          refine ⟨if L = -4 then -4 else if v < s then (if 0 ≤ v then g v else L) else -4, FX σ, fun τ' => (∀ q, q ≠ 0 → q < 12 ∨ 15 < q → τ' q = τ q) ∧ ∀ j, j ≠ 18 → j ≠ 19 → j ≠ 20 → τ' 0 j = τ 0 j, ?_, ?_, fun σ' τ' _ _ f1 f2 => hR.wx f1 f2.1 f2.2⟩
          · apply e_X8_dealt_0
            refine c_hasC (fun _ => bf (by decide) (c_within (fun _ => bf (by decide) (c_within (fun _ => bf (by decide) (bf (by omega) (bt (by omega) ?_))) (fun y => absurd ht y))) (fun y => absurd ha y))) (fun y => absurd (by rw [hn.2]; exact hc) y)
            apply e_X7_dealBest_33_3
            refine c_copy hR (fun σ1 c1 f1 => ?_)
            have k1 := c1.2 c hc.1 (by omega)
            refine c_sort (z := s) (f0 := fun j => τ 4 (4 * c + j)) (by omega) (by omega) (by rw [k1.1, hs]) ⟨fun _ _ => rfl, fun j j0 j1 => k1.2.2.2 j j0 (by omega), fun _ _ => rfl⟩ (fun σ2 hA => ?_)
            refine cl 0 σ2 _ (by omega) ⟨f1.x.tr (fun q hq => hA.1 q (by omega)), by rw [hA.1 35 (by decide)]; exact c1.1, fun d d0 d1 => ?_⟩ (Or.inl rfl) (fun σ3 f3 g3 => ?_)
            · have kd := c1.2 d d0 d1
              have hzd := (hG.2 d d0 d1).1
              rw [hA.1 37 (by decide), hA.1 39 (by decide)]
              refine ⟨kd.1, kd.2.2.1, fun j j0 j1 => ?_⟩
              by_cases e : d = c
              · subst e
                rw [rb_at, hA.2.1 j j0 (by omega)]; exact hso.1 j j0 (by omega)
              · rw [rb_ne e, hA.2.2 (4 * d + j) (by omega)]; exact kd.2.2.2 j j0 j1
            · have e5 : σ3 5 c = s := by rw [f3 5 (by omega), hco.2.1, hs]
              rw [e5]
              refine ⟨fun e => ⟨by rw [if_pos e], f3⟩, fun e => ⟨by omega, fun q1 => ⟨fun q2 => ⟨by omega, ?_, f3⟩, fun q2 => ⟨by rw [if_neg e, if_pos q1, if_neg q2], f3⟩⟩, fun q1 => ⟨by rw [if_neg e, if_neg q1], f3⟩⟩⟩
              rw [if_neg e, if_pos q1, if_pos q2]
              exact (g3.resolve_left e) v q2 q1
          · apply e_X9_dealt_0
            refine c_isCoat hn.1 (fun _ => bf (by decide) (c_isBoy (fun _ => bf (by decide) (c_isBoy (fun _ => bf (by decide) (c_in (fun _ => bn1 ⟨by omega, by omega, ?_⟩) (fun y => absurd (by omega) y))) (fun y => absurd ht y))) (fun y => absurd ha y))) (fun y => absurd hc y)
            rw [← hs]
            refine m_sort (z := s) (h := fun j => τ 4 (4 * c + j)) (by omega) (by omega) (fun _ _ _ => rfl) (fun τ1 a1 a2 a3 => ?_)
            refine ml (mupd τ1 2 c 0) _ ⟨fun q q1 q2 q3 q4 q5 q6 => by rw [mupd_ne _ q2, a1 q q4 q6], fun j _ _ _ => by rw [mupd_ne _ (by decide), a1 0 (by decide) (by decide)], ⟨mupd_at, fun i hi => by rw [mupd_ri hi, a1 2 (by decide) (by decide)]⟩, fun i _ => by rw [mupd_ne _ (by decide), a1 4 (by decide) (by decide)], fun j j0 j1 => by rw [mupd_ne _ (by decide)]; exact a2 j j0 j1, fun j j0 j1 => by rw [mupd_ne _ (by decide)]; exact a3 j j0 j1⟩ (Or.inl rfl) (fun τ2 ⟨f', M2⟩ g2 => ?_)
            refine m_fin (by omega) (by omega) (fun _ _ _ => rfl) rfl M2 hL hv (fun τ3 b1 b2 => ⟨?_, b1, b2⟩)
            by_cases e : L = -4
            · rw [if_pos e, if_pos e]
            · rw [if_neg e, if_neg e]
              by_cases q1 : v < s
              · rw [if_pos q1, if_pos q1]
                by_cases q2 : 0 ≤ v
                · rw [if_pos q2, if_pos q2]; exact (g2.resolve_left e) v q2 q1
                · rw [if_neg q2, if_neg q2]
              · rw [if_neg q1, if_neg q1]
        · refine sim_same hR (-1) ?_ ?_
          · apply e_X8_dealt_0
            refine c_hasC (fun _ => bf (by decide) (c_within (fun _ => bf (by decide) (c_within (fun _ => bf (by decide) ⟨fun _ => ⟨rfl, rfl⟩, fun q => bf (by omega) ⟨rfl, rfl⟩⟩) (fun y => absurd ht y))) (fun y => absurd ha y))) (fun y => absurd (by rw [hn.2]; exact hc) y)
          · apply e_X9_dealt_0
            exact c_isCoat hn.1 (fun _ => bf (by decide) (c_isBoy (fun _ => bf (by decide) (c_isBoy (fun _ => bf (by decide) (c_in (fun y => absurd y hv) (fun _ => bn0 ⟨rfl, rfl⟩))) (fun y => absurd ht y))) (fun y => absurd ha y))) (fun y => absurd hc y)
      · refine sim_same hR (-1) ?_ ?_
        · apply e_X8_dealt_0
          exact c_hasC (fun _ => bf (by decide) (c_within (fun _ => bf (by decide) (c_within (fun y => absurd y ht) (fun _ => bt rfl ⟨rfl, rfl⟩))) (fun y => absurd ha y))) (fun y => absurd (by rw [hn.2]; exact hc) y)
        · apply e_X9_dealt_0
          exact c_isCoat hn.1 (fun _ => bf (by decide) (c_isBoy (fun _ => bf (by decide) (c_isBoy (fun y => absurd y ht) (fun _ => bt rfl ⟨rfl, rfl⟩))) (fun y => absurd ha y))) (fun y => absurd hc y)
    · refine sim_same hR (-1) ?_ ?_
      · apply e_X8_dealt_0
        exact c_hasC (fun _ => bf (by decide) (c_within (fun y => absurd y ha) (fun _ => bt rfl ⟨rfl, rfl⟩))) (fun y => absurd (by rw [hn.2]; exact hc) y)
      · apply e_X9_dealt_0
        exact c_isCoat hn.1 (fun _ => bf (by decide) (c_isBoy (fun y => absurd y ha) (fun _ => bt rfl ⟨rfl, rfl⟩))) (fun y => absurd hc y)
  · refine sim_same hR (-1) ?_ ?_
    · apply e_X8_dealt_0
      exact c_hasC (fun y => absurd (by rw [hn.2] at y; exact y) hc) (fun _ => bt rfl ⟨rfl, rfl⟩)
    · apply e_X9_dealt_0
      exact c_isCoat hn.1 (fun y => absurd y hc) (fun _ => bt rfl ⟨rfl, rfl⟩)
