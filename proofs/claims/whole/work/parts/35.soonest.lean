/-! soonest in step -/
def hitW (n : Nat) (z u ho : Int → Int) (bo : Int → Int → Int) (T a t : Int) (k : Nat) : Prop := tb (stW n z u ho bo T a k).1 t = true
theorem l_bells {n : Nat} {z u ho : Int → Int} {bo : Int → Int → Int} {T a t : Int} {σ0 : Mem} {Q : Int → Mem → Prop} {B : Nat} (hG : CFG n z u ho bo) (hT : 0 ≤ T ∧ T < 256) (ha : 0 ≤ a ∧ a < 8) (ht : 0 ≤ t ∧ t < 8) (hB : B < 1000) (h1 : ∀ kf, kf ≤ B → hitW n z u ho bo T a t kf → (∀ j, j < kf → ¬ hitW n z u ho bo T a t j) → ∀ σ', CS n z u ho bo T a kf σ' → FW σ0 σ' → Q (kf : Int) σ') (h0 : (∀ j, j ≤ B → ¬ hitW n z u ho bo T a t j) → ∀ σ', CS n z u ho bo T a B σ' → FW σ0 σ' → Q (-4) σ') : ∀ (m k : Nat) (σ : Mem), k + m = B → CS n z u ho bo T a k σ → FW σ0 σ → (∀ j, j < k → ¬ hitW n z u ho bo T a t j) → WP GC M_X7_bellsTo 2 [some (mr 33), some (mi t), some (mi (B : Int)), some (mi (k : Int))] [] σ Q
  | 0, k, σ, hk, hC, f, hj => by
    obtain rfl : k = B := by omega
    have hi := (stW_in (T := T) hG ha k).1
    apply b_X7_bellsTo_33_2
    rw [hC.1.2.2.1, bit_test ⟨hi.1, by omega⟩ (by omega)]
    refine bf (by omega) ?_
    by_cases q : tb (stW n z u ho bo T a k).1 t = true
    · rw [if_pos q]
      exact bf (by decide) (h1 k (Nat.le_refl _) q hj σ hC f)
    · rw [if_neg q]
      refine bt rfl (bt (Int.le_refl _) ?_)
      apply b_X7_bellsTo_33_29
      rw [jadd_eq (by omega) (by omega)]
      apply b_X7_bellsTo_33_2
      refine bt (by omega) (h0 (fun j hjk => ?_) σ hC f)
      by_cases e : j = k
      · rw [e]; exact q
      · exact hj j (by omega)
  | m + 1, k, σ, hk, hC, f, hj => by
    have hi := (stW_in (T := T) hG ha k).1
    apply b_X7_bellsTo_33_2
    rw [hC.1.2.2.1, bit_test ⟨hi.1, by omega⟩ (by omega)]
    refine bf (by omega) ?_
    by_cases q : tb (stW n z u ho bo T a k).1 t = true
    · rw [if_pos q]
      exact bf (by decide) (h1 k (by omega) q hj σ hC f)
    · rw [if_neg q]
      refine bt rfl (bf (by omega) (c_bell hG hT ha hC (fun σ' c1 c2 => ?_)))
      apply b_X7_bellsTo_33_29
      rw [jadd_eq (by omega) (by omega)]
      refine l_bells hG hT ha ht hB h1 h0 m (k + 1) σ' (by omega) c1 (f.tr c2) (fun j hjk => ?_)
      by_cases e : j = k
      · rw [e]; exact q
      · exact hj j (by omega)
/-- the coats through whose pockets it comes to x -/
def cS (w : Int → Int) (P x : Int) : Nat → Int
  | 0 => 0
  | i + 1 => if tb P i = true ∧ w i = x then jor (cS w P x i) (jshl 1 i) else cS w P x i
theorem cS_in {w : Int → Int} {P x : Int} : ∀ m : Nat, m ≤ 4 → 0 ≤ cS w P x m ∧ cS w P x m < 16
  | 0, _ => by simp [cS]
  | m + 1, h => by
    have ih := cS_in (w := w) (P := P) (x := x) m (by omega)
    simp only [cS]
    split
    · exact jor_16 ih (shl1_16 (by omega))
    · exact ih
theorem arW_in {n : Nat} {z u ho : Int → Int} {bo : Int → Int → Int} {T a : Int} (hG : CFG n z u ho bo) (ha : 0 ≤ a ∧ a < 8) : ∀ k, 0 ≤ arW n z u ho bo T a k ∧ arW n z u ho bo T a k < 16
  | 0 => by simp [arW]
  | k + 1 => (pF_in (stW_in (T := T) hG ha k).2 n hG.1).1
theorem c_coming {n : Nat} {z u ho : Int → Int} {bo : Int → Int → Int} {T a t : Int} {k : Nat} {σ : Mem} {Q : Int → Mem → Prop} (hG : CFG n z u ho bo) (ha : 0 ≤ a ∧ a < 8) (hC : CS n z u ho bo T a k σ) (hQ : Q (cS (wk z u bo k) (arW n z u ho bo T a k) t n) σ) : HT GC M_X7_comingTo [mr 33, mi t] σ Q := by
  have hn := hG.1
  have har := arW_in (T := T) hG ha k
  have key : ∀ (m i : Nat), i + m = n → WP GC M_X7_comingTo 4 [some (mr 33), some (mi t), some (mi (cS (wk z u bo k) (arW n z u ho bo T a k) t i)), some (mi (i : Int))] [] σ Q := by
    intro m
    induction m with
    | zero =>
      intro i hi
      obtain rfl : i = n := by omega
      apply b_X7_comingTo_33_4
      rw [hC.1.1.1]
      exact bt (Int.le_refl _) hQ
    | succ m ih =>
      intro i hi
      have ih2 := ih (i + 1) (by omega)
      simp only [cS] at ih2
      have nx : ∀ v, WP GC M_X7_comingTo 4 [some (mr 33), some (mi t), some (mi v), some (mi ((i + 1 : Nat) : Int))] [] σ Q → WP GC M_X7_comingTo 44 [some (mr 33), some (mi t), some (mi v), some (mi (i : Int))] [] σ Q := by
        intro v h
        apply b_X7_comingTo_33_44
        rw [jadd_eq (by omega) (by omega)]
        exact h
      apply b_X7_comingTo_33_4
      rw [hC.1.1.1, hC.2, bit_test ⟨har.1, by omega⟩ (by omega)]
      refine bf (by omega) ?_
      by_cases q : tb (arW n z u ho bo T a k) i = true
      · rw [if_pos q]
        refine bf (by decide) (CK.wr hG hC.1.1 (by omega) ⟨fun e => nx _ ?_, fun e => nx _ ?_⟩)
        · rw [if_neg (fun y => e y.2)] at ih2; exact ih2
        · rw [if_pos ⟨q, e⟩] at ih2; exact ih2
      · rw [if_neg q]
        refine bt rfl (nx _ ?_)
        rw [if_neg (fun y => q y.1)] at ih2; exact ih2
  apply e_X7_comingTo_33
  exact key n 0 (by omega)
def FV3 (τ τ' : Mem) : Prop := (∀ q, q ≠ 0 → τ' q = τ q) ∧ ∀ j, j ≠ 18 → j ≠ 19 → j ≠ 20 → τ' 0 j = τ 0 j
theorem FV.v3 {τ τ' : Mem} (h : FV τ τ') : FV3 τ τ' := ⟨h.1, fun j a b _ => h.2 j a b⟩
theorem FV3.tr {a b c : Mem} (h : FV3 a b) (g : FV3 b c) : FV3 a c := ⟨fun q hq => by rw [g.1 q hq, h.1 q hq], fun j h1 h2 h3 => by rw [g.2 j h1 h2 h3, h.2 j h1 h2 h3]⟩
theorem FV3.p {τ : Mem} {v : Int} : FV3 τ (mupd τ 0 20 v) := ⟨fun q hq => mupd_ne _ hq, fun i _ _ a => mupd_ri a⟩
theorem FV3.mk {n : Nat} {z u ho : Int → Int} {bo : Int → Int → Int} {τ τ' : Mem} (h : MKo n z u ho bo τ) (f : FV3 τ τ') : MKo n z u ho bo τ' := h.fr (fun q a b => f.1 q (by omega)) (f.2 4 (by decide) (by decide) (by decide))
theorem m_coming {n : Nat} {z u ho : Int → Int} {bo : Int → Int → Int} {P t : Int} {k : Nat} {τ0 : Mem} {Q : Int → Mem → Prop} (hG : CFG n z u ho bo) (hM : MKo n z u ho bo τ0) (hk : k < 1000) (hP : 0 ≤ P ∧ P < 16) (e : τ0 0 20 = 0) (hQ : ∀ τ', FV3 τ0 τ' → τ' 0 20 = cS (wk z u bo k) P t n → Q (k : Int) τ') : WP GM M_X9_findSoonest 85 [some (mr 0), none, some (mi t), none, none, some (mi (k : Int)), some (mi P), some (mi 0)] [] τ0 Q := by
  have hn := hG.1
  have key : ∀ (m i : Nat) (τ : Mem), i + m = n → FV3 τ0 τ → τ 0 20 = cS (wk z u bo k) P t i → WP GM M_X9_findSoonest 85 [some (mr 0), none, some (mi t), none, none, some (mi (k : Int)), some (mi P), some (mi (i : Int))] [] τ Q := by
    intro m
    induction m with
    | zero =>
      intro i τ hi f a
      obtain rfl : i = n := by omega
      apply b_X9_findSoonest_0_85
      rw [(f.mk hM).1]
      exact bt (Int.le_refl _) (hQ τ f a)
    | succ m ih =>
      intro i τ hi f a
      have hin := cS_in (w := wk z u bo k) (P := P) (x := t) i (by omega)
      have nx : ∀ s0, jor (cS (wk z u bo k) P t i) s0 = cS (wk z u bo k) P t (i + 1) → WP GM M_X9_findSoonest 129 [some (mr 0), none, some (mi t), none, none, some (mi (k : Int)), some (mi P), some (mi (i : Int))] [mi s0, mi (cS (wk z u bo k) P t i), mr 0] τ Q := by
        intro s0 h
        apply b_X9_findSoonest_0_129
        rw [jadd_eq (by omega) (by omega), h]
        exact ih (i + 1) _ (by omega) (f.tr FV3.p) (by rw [mupd_at])
      have stay : ¬ (tb P i = true ∧ wk z u bo k i = t) → WP GM M_X9_findSoonest 128 [some (mr 0), none, some (mi t), none, none, some (mi (k : Int)), some (mi P), some (mi (i : Int))] [mi (cS (wk z u bo k) P t i), mr 0] τ Q := by
        intro h
        apply b_X9_findSoonest_0_128
        refine nx 0 ?_
        simp only [cS]
        rw [if_neg h]
        exact jor_0 ⟨by omega, by omega⟩
      apply b_X9_findSoonest_0_85
      rw [(f.mk hM).1, a]
      refine bf (by omega) (m_has ⟨hP.1, by omega⟩ (by omega) (fun q => br1 ?_) (fun q => br0 (stay (fun y => q y.1))))
      refine MKo.wr hG (f.mk hM) hk (by omega) ⟨fun e2 => stay (fun y => e2 y.2), fun e2 => nx _ ?_⟩
      simp only [cS]
      rw [if_pos ⟨q, e2⟩]
  exact key n 0 τ0 (by omega) ⟨fun _ _ => rfl, fun _ _ _ _ => rfl⟩ e
theorem m_find {n : Nat} {z u ho : Int → Int} {bo : Int → Int → Int} {x a t : Int} {τ0 : Mem} {Q : Int → Mem → Prop} (hG : CFG n z u ho bo) (hM : MKo n z u ho bo τ0) (hx : 0 ≤ x ∧ x < 256) (ha : 0 ≤ a ∧ a < 8) (ht : 0 ≤ t ∧ t < 8) (h1 : ∀ kf, kf ≤ 24 → hitW n z u ho bo (jand x (jxor (jshl 1 a) (-1))) a t kf → (∀ j, j < kf → ¬ hitW n z u ho bo (jand x (jxor (jshl 1 a) (-1))) a t j) → ∀ τ', FV3 τ0 τ' → τ' 0 20 = cS (wk z u bo kf) (arW n z u ho bo (jand x (jxor (jshl 1 a) (-1))) a kf) t n → Q (kf : Int) τ') (h0 : (∀ j, j ≤ 24 → ¬ hitW n z u ho bo (jand x (jxor (jshl 1 a) (-1))) a t j) → ∀ τ', FV3 τ0 τ' → Q (-4) τ') : HT GM M_X9_findSoonest [mr 0, mi a, mi t, mi x] τ0 Q := by
  obtain ⟨hT, hTa⟩ := thief_in hx ha
  generalize hTe : jand x (jxor (jshl 1 a) (-1)) = T at *
  have key : ∀ (m k : Nat) (τ : Mem) (Pm : Int), k + m = 24 → FV3 τ0 τ → τ 0 20 = 0 → τ 0 18 = (stW n z u ho bo T a k).1 → τ 0 19 = Pm → INV n ho T (stW n z u ho bo T a k) Pm → (∀ j, j ≤ k → ¬ hitW n z u ho bo T a t j) → WP GM M_X9_findSoonest 42 [some (mr 0), none, some (mi t), none, some (mi T), some (mi ((k : Int) + 1)), none, none] [] τ Q := by
    intro m
    induction m with
    | zero =>
      intro k τ Pm hk f e20 a1 a2 hI hj
      obtain rfl : k = 24 := by omega
      apply b_X9_findSoonest_0_42
      exact bt (by omega) (h0 hj τ f)
    | succ m ih =>
      intro k τ Pm hk f e20 a1 a2 hI hj
      have hi := (stW_in (T := T) hG ha (k + 1)).1
      apply b_X9_findSoonest_0_42
      refine bf (by omega) (m_bell hG (f.mk hM) (by omega) hT a1 a2 hI (fun τ1 f1 p1 h => HT.mono h (fun r s _ _ q => ?_)))
      obtain ⟨Pm2, g1, g2, g3, g4⟩ := q
      rw [g2, p1]
      have s20 : s 0 20 = 0 := by rw [g1.2 20 (by decide) (by decide), e20]
      refine m_has ⟨hi.1, by omega⟩ (by omega) (fun y => br1 ?_) (fun y => br0 ?_)
      · have c := m_coming (t := t) (k := k + 1) (P := arW n z u ho bo T a (k + 1)) (Q := Q) hG ((f.tr g1.v3).mk hM) (by omega) (arW_in (T := T) hG ha (k + 1)) s20 (fun τ' k1 k2 => h1 (k + 1) (by omega) y (fun j hjk => hj j (by omega)) τ' ((f.tr g1.v3).tr k1) k2)
        exact c
      · rw [jadd_eq (by omega) (by omega)]
        refine ih (k + 1) s Pm2 (by omega) (f.tr g1.v3) s20 g2 g3 g4 (fun j hjk => ?_)
        by_cases e : j = k + 1
        · rw [e]; exact y
        · exact hj j (by omega)
  apply e_X9_findSoonest_0
  rw [hTe]
  apply e_X9_begin_0
  have f0 : FV3 τ0 (mupd (mupd (mupd τ0 0 20 0) 0 18 (jshl 1 a)) 0 19 0) := FV3.p.tr ((FV.p (Or.inl rfl)).tr (FV.p (Or.inr rfl))).v3
  refine m_start hG (f0.mk hM) hT ha hTa (by rw [mupd_ri (by decide), mupd_at]) (by rw [mupd_at]) (fun τ1 Pm g1 g2 g3 g4 => ?_)
  have hi := (stW_in (T := T) hG ha 0).1
  have s20 : τ1 0 20 = 0 := by rw [g1.2 20 (by decide) (by decide), mupd_ri (by decide), mupd_ri (by decide), mupd_at]
  rw [g2]
  refine m_has ⟨hi.1, by omega⟩ (by omega) (fun y => br1 ?_) (fun y => br0 ?_)
  · refine h1 0 (by omega) y (fun j hj => by omega) τ1 (f0.tr g1.v3) ?_
    rw [s20]
    have e : ∀ m : Nat, cS (wk z u bo 0) 0 t m = 0 := by
      intro m
      induction m with
      | zero => rfl
      | succ m ih => simp only [cS]; rw [if_neg (fun q => by rw [tb_0] at q; exact absurd q.1 (by decide))]; exact ih
    exact (e n).symm
  · refine key 24 0 τ1 Pm (by omega) (f0.tr g1.v3) s20 g2 g3 g4 (fun j hj => ?_)
    obtain rfl : j = 0 := by omega
    exact y
theorem first_or (p : Nat → Prop) (B : Nat) : (∃ k, k ≤ B ∧ p k ∧ ∀ j, j < k → ¬ p j) ∨ ∀ j, j ≤ B → ¬ p j := by
  induction B with
  | zero =>
    by_cases h : p 0
    · exact Or.inl ⟨0, Nat.le_refl _, h, fun j hj => by omega⟩
    · exact Or.inr (fun j hj => by obtain rfl : j = 0 := by omega
                                   exact h)
  | succ B ih =>
    rcases ih with ⟨k, a, b, c⟩ | h
    · exact Or.inl ⟨k, by omega, b, c⟩
    · by_cases q : p (B + 1)
      · exact Or.inl ⟨B + 1, Nat.le_refl _, q, fun j hj => h j (by omega)⟩
      · refine Or.inr (fun j hj => ?_)
        by_cases e : j = B + 1
        · rw [e]; exact q
        · exact h j (by omega)
theorem first_eq {p : Nat → Prop} {k j : Nat} (hk : p k) (hk2 : ∀ i, i < k → ¬ p i) (hj : p j) (hj2 : ∀ i, i < j → ¬ p i) : j = k := by
  rcases Nat.lt_trichotomy j k with h | h | h
  · exact absurd hj (hk2 j h)
  · exact h
  · exact absurd hk (hj2 k h)
theorem sim_soonest {a t x v : Int} {σ τ : Mem} (hR : RR σ τ) : SIM M_X8_soonest M_X9_soonest [mr 0, mi a, mi t, mi x, mi v] σ τ RR := by
  by_cases ha : 0 ≤ a ∧ a < 8
  · by_cases ht : 0 ≤ t ∧ t < 8
    · by_cases hx : 0 ≤ x ∧ x < 256
      · by_cases hv : 0 ≤ v ∧ v < 2
        · obtain ⟨hG, hM, hn⟩ := hR.cfg
          obtain ⟨hT, hTa⟩ := thief_in hx ha
          have cc : ∀ Q : Int → Mem → Prop, (∀ kf, kf ≤ 24 → hitW (nOf τ) (τ 1) (τ 2) (τ 3) (bOf τ) (jand x (jxor (jshl 1 a) (-1))) a t kf → (∀ j, j < kf → ¬ hitW (nOf τ) (τ 1) (τ 2) (τ 3) (bOf τ) (jand x (jxor (jshl 1 a) (-1))) a t j) → ∀ σ', CS (nOf τ) (τ 1) (τ 2) (τ 3) (bOf τ) (jand x (jxor (jshl 1 a) (-1))) a kf σ' → FW σ σ' → (if v = 0 then Q (kf : Int) σ' else HT GC M_X7_comingTo [mr 33, mi t] σ' Q)) → ((∀ j, j ≤ 24 → ¬ hitW (nOf τ) (τ 1) (τ 2) (τ 3) (bOf τ) (jand x (jxor (jshl 1 a) (-1))) a t j) → ∀ σ', FW σ σ' → Q (-4) σ') → HT GC M_X8_soonest [mr 0, mi a, mi t, mi x, mi v] σ Q := by
            intro Q q1 q0
            apply e_X8_soonest_0
            refine c_within (fun _ => bf (by decide) (c_within (fun _ => bf (by decide) ?_) (fun y => absurd ht y))) (fun y => absurd ha y)
            apply e_X8_isBoys
            refine c_within (fun _ => ⟨Or.inr rfl, bf (by decide) (c_within (fun _ => bn1 ?_) (fun y => absurd hv y))⟩) (fun y => absurd hx y)
            apply e_X7_fewestBells_33_3
            refine c_copy hR (fun σ1 c1 f1 => c_start hG c1 ha (fun σ2 c2 f2 => ?_))
            apply e_X7_bellsTo_33
            refine l_bells (B := 24) (σ0 := σ) hG hT ha ht (by omega) (fun kf k1 k2 k3 σ' d1 d2 => ?_) (fun k1 σ' _ d2 => bt rfl (q0 k1 σ' d2)) 24 0 σ2 (by omega) c2 (f1.tr f2) (fun j hj => by omega)
            have := q1 kf k1 k2 k3 σ' d1 d2
            refine bf (by omega) ?_
            by_cases e : v = 0
            · rw [if_pos e] at this; exact nf e this
            · rw [if_neg e] at this; exact nt e this
          have mm : ∀ Q : Int → Mem → Prop, HT GM M_X9_findSoonest [mr 0, mi a, mi t, mi x] τ (fun r43 σ43 => (r43 < 0 → Q r43 σ43) ∧ (¬ r43 < 0 → if v = 0 then Q r43 σ43 else Q (σ43 0 20) σ43)) → HT GM M_X9_soonest [mr 0, mi a, mi t, mi x, mi v] τ Q := by
            intro Q h
            apply e_X9_soonest_0
            refine c_isBoy (fun _ => bf (by decide) (c_isBoy (fun _ => bf (by decide) (c_in (fun _ => bf (by decide) (c_in (fun _ => bn1 ?_) (fun y => absurd (by omega) y))) (fun y => absurd (by omega) y))) (fun y => absurd ht y))) (fun y => absurd ha y)
            refine HT.mono h (fun r s _ _ q => ⟨fun y => b_X9_soonest_0_58 _ (q.1 y), fun y => ?_⟩)
            have q2 := q.2 y
            by_cases e : v = 0
            · rw [if_pos e] at q2; exact nf e (b_X9_soonest_0_58 _ q2)
            · rw [if_neg e] at q2; exact nt e q2
          rcases first_or (hitW (nOf τ) (τ 1) (τ 2) (τ 3) (bOf τ) (jand x (jxor (jshl 1 a) (-1))) a t) 24 with ⟨k, k1, k2, k3⟩ | hno
          · refine ⟨if v = 0 then (k : Int) else cS (wk (τ 1) (τ 2) (bOf τ) k) (arW (nOf τ) (τ 1) (τ 2) (τ 3) (bOf τ) (jand x (jxor (jshl 1 a) (-1))) a k) t (nOf τ), FW σ, FV3 τ, cc _ (fun kf j1 j2 j3 σ' d1 d2 => ?_) (fun hh => absurd k2 (hh k k1)), mm _ (m_find hG hM hx ha ht (fun kf j1 j2 j3 τ' f e20 => ⟨fun y => by omega, fun _ => ?_⟩) (fun hh => absurd k2 (hh k k1))), fun σ' τ' _ _ f g => hR.wv f (fun q q0 _ => g.1 q q0) g.2⟩
            · obtain rfl := first_eq k2 k3 j2 j3
              by_cases e : v = 0
              · rw [if_pos e, if_pos e]; exact ⟨rfl, d2⟩
              · rw [if_neg e, if_neg e]; exact c_coming hG ha d1 ⟨rfl, d2⟩
            · obtain rfl := first_eq k2 k3 j2 j3
              by_cases e : v = 0
              · rw [if_pos e, if_pos e]; exact ⟨rfl, f⟩
              · rw [if_neg e, if_neg e]; exact ⟨e20, f⟩
          · refine ⟨-4, FW σ, FV3 τ, cc _ (fun kf j1 j2 _ _ _ _ => absurd j2 (hno kf j1)) (fun _ σ' f => ⟨rfl, f⟩), mm _ (m_find hG hM hx ha ht (fun kf j1 j2 _ _ _ _ => absurd j2 (hno kf j1)) (fun _ τ' f => ⟨fun _ => ⟨rfl, f⟩, fun y => absurd (by decide) y⟩)), fun σ' τ' _ _ f g => hR.wv f (fun q q0 _ => g.1 q q0) g.2⟩
        · refine sim_same hR (-1) ?_ ?_
          · apply e_X8_soonest_0
            refine c_within (fun _ => bf (by decide) (c_within (fun _ => bf (by decide) ?_) (fun y => absurd ht y))) (fun y => absurd ha y)
            apply e_X8_isBoys
            exact c_within (fun _ => ⟨Or.inr rfl, bf (by decide) (c_within (fun y => absurd y hv) (fun _ => bn0 ⟨rfl, rfl⟩))⟩) (fun y => absurd hx y)
          · apply e_X9_soonest_0
            exact c_isBoy (fun _ => bf (by decide) (c_isBoy (fun _ => bf (by decide) (c_in (fun _ => bf (by decide) (c_in (fun y => absurd (by omega) hv) (fun _ => bn0 ⟨rfl, rfl⟩))) (fun y => absurd (by omega) y))) (fun y => absurd ht y))) (fun y => absurd ha y)
      · refine sim_same hR (-1) ?_ ?_
        · apply e_X8_soonest_0
          refine c_within (fun _ => bf (by decide) (c_within (fun _ => bf (by decide) ?_) (fun y => absurd ht y))) (fun y => absurd ha y)
          apply e_X8_isBoys
          exact c_within (fun y => absurd y hx) (fun _ => ⟨Or.inl rfl, bt rfl ⟨rfl, rfl⟩⟩)
        · apply e_X9_soonest_0
          exact c_isBoy (fun _ => bf (by decide) (c_isBoy (fun _ => bf (by decide) (c_in (fun y => absurd (by omega) hx) (fun _ => bt rfl ⟨rfl, rfl⟩))) (fun y => absurd ht y))) (fun y => absurd ha y)
    · refine sim_same hR (-1) ?_ ?_
      · apply e_X8_soonest_0
        exact c_within (fun _ => bf (by decide) (c_within (fun y => absurd y ht) (fun _ => bt rfl ⟨rfl, rfl⟩))) (fun y => absurd ha y)
      · apply e_X9_soonest_0
        exact c_isBoy (fun _ => bf (by decide) (c_isBoy (fun y => absurd y ht) (fun _ => bt rfl ⟨rfl, rfl⟩))) (fun y => absurd ha y)
  · refine sim_same hR (-1) ?_ ?_
    · apply e_X8_soonest_0
      exact c_within (fun y => absurd y ha) (fun _ => bt rfl ⟨rfl, rfl⟩)
    · apply e_X9_soonest_0
      exact c_isBoy (fun y => absurd y ha) (fun _ => bt rfl ⟨rfl, rfl⟩)
