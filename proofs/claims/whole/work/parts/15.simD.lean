/-! wore, type -/
def woP (z w : Int) (k : Int) : Int := (w + (24 * z - k)) % z
theorem woP_in {z w k : Int} (hz : 1 ≤ z ∧ z ≤ 4) : 0 ≤ woP z w k ∧ woP z w k < z := ⟨Int.emod_nonneg _ (by omega), Int.emod_lt_of_pos _ (by omega)⟩
theorem woP_0 {z w : Int} (hz : 1 ≤ z ∧ z ≤ 4) (hw : 0 ≤ w ∧ w < z) : woP z w 0 = w := by
  unfold woP
  rcases (by omega : z = 1 ∨ z = 2 ∨ z = 3 ∨ z = 4) with e | e | e | e <;> subst e <;> omega
theorem woP_s {z w k : Int} (hz : 1 ≤ z ∧ z ≤ 4) : (0 < woP z w k → woP z w (k + 1) = woP z w k - 1) ∧ (woP z w k ≤ 0 → woP z w (k + 1) = z - 1) := by
  unfold woP
  rcases (by omega : z = 1 ∨ z = 2 ∨ z = 3 ∨ z = 4) with e | e | e | e <;> subst e <;> omega
def woN (τ : Mem) (c : Int) : Nat → Int
  | 0 => 0
  | n + 1 => jor (woN τ c n) (jshl 1 (τ 4 (4 * c + woP (τ 1 c) (τ 2 c) n)))
theorem l_worC {c x2 : Int} {σ τ : Mem} {Q : Int → Mem → Prop} (m : Nat) (hm : x2 + 1 = m) (h25 : m ≤ 25) (hc : 0 ≤ c ∧ c < 4) (hC : CO τ c) (hE : EQC 4 5 6 7 σ τ c) (hQ : Q (woN τ c m) σ) : ∀ (n k : Nat), k + n = m → WP GC M_X0_wearers 13 [some (mr 3), some (mi c), some (mi x2), some (mi (woN τ c k)), some (mi (woP (τ 1 c) (τ 2 c) k)), some (mi (k : Int))] [] σ Q
  | 0, k, h => by
    obtain rfl : k = m := by omega
    exact b_X0_wearers_3_13 _ _ _ _ _ ⟨fun _ => hQ, fun z => absurd (by omega) z⟩
  | n + 1, k, h => by
    have ih := l_worC m hm h25 hc hC hE hQ n (k + 1) (by omega)
    have hz := hC.1
    have hp := woP_in (w := τ 2 c) (k := k) hz
    have hs := woP_s (w := τ 2 c) (k := k) hz
    simp only [woN] at ih
    apply b_X0_wearers_3_13
    rw [jmul_eq (by omega) (by omega), jadd_eq (by omega) (by omega), Int.mul_comm c 4, hE.2.2.2 _ hp.1 hp.2, hE.1, jsub_eq (by omega) (by omega), jsub_eq (by omega) (by omega)]
    have e : ((k + 1 : Nat) : Int) = (k : Int) + 1 := by omega
    rw [e] at ih
    refine ⟨fun z => absurd z (by omega), fun _ => ⟨by omega, fun z => ⟨hc, ?_⟩, fun z => ?_⟩⟩
    · apply b_X0_wearers_3_55
      rw [jadd_eq (by omega) (by omega), ← hs.2 z]
      exact ih
    · apply b_X0_wearers_3_55
      rw [jadd_eq (by omega) (by omega), ← hs.1 (by omega)]
      exact ih
theorem l_worM {c x2 : Int} {τ : Mem} {Q : Int → Mem → Prop} (m : Nat) (hm : x2 + 1 = m) (h25 : m ≤ 25) (hc : 0 ≤ c ∧ c < 4) (hC : CO τ c) (hQ : Q (woN τ c m) τ) : ∀ (n k : Nat), k + n = m → WP GM M_X9_wore 27 [some (mr 0), some (mi c), some (mi x2), some (mi (woN τ c k)), some (mi (k : Int))] [] τ Q
  | 0, k, h => by
    obtain rfl : k = m := by omega
    exact b_X9_wore_0_27 _ _ _ _ ⟨fun _ => hQ, fun z => absurd (by omega) z⟩
  | n + 1, k, h => by
    have ih := l_worM m hm h25 hc hC hQ n (k + 1) (by omega)
    have hz := hC.1
    have hu := hC.2.1
    simp only [woN] at ih
    apply b_X9_wore_0_27
    rw [jmul_eq (by omega) (by omega), jsub_eq (by omega) (by omega), jadd_eq (by omega) (by omega)]
    refine ⟨fun z => absurd z (by omega), fun _ => ⟨hc, c_wearerM hc hz (by omega) (by omega) ?_⟩⟩
    exact ih
theorem sim_wore {c n : Int} {σ τ : Mem} (hR : RR σ τ) : SIM M_X8_wore M_X9_wore [mr 0, mi c, mi n] σ τ RR := by
  obtain ⟨h4, e4⟩ := hR.nc
  by_cases h : 0 ≤ c ∧ c < τ 0 4
  · have hi : 0 ≤ c ∧ c < 4 := by omega
    have hC := hR.1.2.2.1 c h.1 h.2
    have hE := hR.2.1.2.2.2.2.1 c h.1 h.2
    by_cases hn : 0 ≤ n ∧ n < 25
    · obtain ⟨m, hm⟩ := nn_of (show 0 ≤ n + 1 by omega)
      refine sim_same hR (woN τ c m) ?_ ?_
      · apply e_X8_wore_0
        refine c_hasC (fun _ => br1 (c_within (fun _ => br1 ?_) (fun z => absurd hn z))) (fun z => absurd (by rw [e4]; exact h) z)
        apply e_X0_wearers_3
        have h0 := l_worC (Q := fun a σ' => a = woN τ c m ∧ σ' = σ) m hm (by omega) hi hC hE ⟨rfl, rfl⟩ m 0 (by omega)
        rw [show ((0 : Nat) : Int) = 0 from rfl, woP_0 hC.1 hC.2.1, ← hE.2.1] at h0
        exact ⟨hi, h0⟩
      · apply e_X9_wore_0
        refine c_isCoat h4 (fun _ => br1 (c_in (fun _ => bn1 ?_) (fun z => absurd (by omega) z))) (fun z => absurd h z)
        exact l_worM m hm (by omega) hi hC ⟨rfl, rfl⟩ m 0 (by omega)
    · refine sim_same hR (-1) ?_ ?_
      · apply e_X8_wore_0
        exact c_hasC (fun _ => br1 (c_within (fun z => absurd z hn) (fun _ => br0 ⟨rfl, rfl⟩))) (fun z => absurd (by rw [e4]; exact h) z)
      · apply e_X9_wore_0
        exact c_isCoat h4 (fun _ => br1 (c_in (fun z => absurd (by omega) hn) (fun _ => bn0 ⟨rfl, rfl⟩))) (fun z => absurd h z)
  · refine sim_same hR (-1) ?_ ?_
    · apply e_X8_wore_0
      exact c_hasC (fun z => absurd (by rw [e4] at z; exact z) h) (fun _ => br0 ⟨rfl, rfl⟩)
    · apply e_X9_wore_0
      exact c_isCoat h4 (fun z => absurd z h) (fun _ => br0 ⟨rfl, rfl⟩)
/-- byte i of a long -/
def byL (y : Int) (i : Int) : Int := jland (jlshr y (jmul 8 i)) 255
theorem jl2i_eq {b : Int} (h : R32 b) : jl2i b = b := by
  unfold jl2i
  rw [Int64.toInt32_ofInt, r32_lo h]
theorem c_isText {y n : Int} {σ : Mem} {Q : Int → Mem → Prop} (hn : 1 ≤ n ∧ n ≤ 8) (h1 : (∀ i, 0 ≤ i → i < n → 32 ≤ byL y i ∧ byL y i ≤ 126) → Q 1 σ) (h0 : ¬ (∀ i, 0 ≤ i → i < n → 32 ≤ byL y i ∧ byL y i ≤ 126) → Q 0 σ) : HT GC M_X8_isText [ml y, mi n] σ Q := by
  apply e_X8_isText
  have key : ∀ (m k : Nat), (k : Int) + m = n → (∀ i, 0 ≤ i → i < (k : Int) → 32 ≤ byL y i ∧ byL y i ≤ 126) → WP GC M_X8_isText 2 [some (ml y), none, some (mi n), some (mi (k : Int)), none, none] [] σ Q := by
    intro m
    induction m with
    | zero =>
      intro k hk hp
      exact b_X8_isText_2 _ _ _ ⟨fun _ => h1 (fun i a b => hp i a (by omega)), fun z => absurd (by omega) z⟩
    | succ m ih =>
      intro k hk hp
      have ih2 := ih (k + 1) (by omega)
      apply b_X8_isText_2
      simp only [lcmp_lt]
      have hle : lcmpM (jland (jlshr y (jmul 8 (k : Int))) 255) 126 ≤ 0 ↔ byL y k ≤ 126 := by
        have hg := lcmp_gt (jland (jlshr y (jmul 8 (k : Int))) 255) 126
        unfold byL
        omega
      rw [hle, jadd_eq (by omega) (by omega)]
      refine ⟨fun z => absurd z (by omega), fun _ => ⟨fun z => h0 (fun q => ?_), fun z => ⟨fun z2 => ?_, fun z2 => h0 (fun q => ?_)⟩⟩⟩
      · have := (q k (by omega) (by omega)).1
        unfold byL at this
        omega
      · refine ih2 (fun i a b => ?_)
        by_cases e : i = k
        · subst e
          exact ⟨by unfold byL; omega, z2⟩
        · exact hp i a (by omega)
      · exact z2 (q k (by omega) (by omega)).2
  exact key n.toNat 0 (by omega) (fun i a b => by omega)
/-- what typing leaves: x more bytes, of the places x - 1 .. 0 -/
def typed (len0 len1 : Int) (f f' : Int → Int) (y x : Int) : Prop := len1 = len0 + x ∧ ∀ j, f' j = if len0 ≤ j ∧ j < len0 + x then byL y (x - 1 - (j - len0)) else f j
theorem l_typeC {y : Int} {Q : Int → Mem → Prop} : ∀ (n : Nat) (x4 : Int) (σ : Mem), x4 + 1 = n → (∀ i, 0 ≤ i → i ≤ x4 → 32 ≤ byL y i ∧ byL y i ≤ 126) → 0 ≤ σ 25 1 → σ 25 1 + n ≤ 100 → n ≤ 8 → (∀ σ', (∀ k, k ≠ 25 → k ≠ 26 → σ' k = σ k) → typed (σ 25 1) (σ' 25 1) (σ 26) (σ' 26) y n → Q (σ' 25 1) σ') → WP GC M_X8_type 43 [some (mr 0), some (ml y), none, none, some (mi x4)] [] σ Q
  | 0, x4, σ, hx, _, _, _, _, hQ => by
    refine b_X8_type_0_43 _ _ ⟨fun _ => hQ σ (fun _ _ _ => rfl) ⟨by omega, fun j => by rw [if_neg (by omega)]⟩, fun z => absurd (by omega) z⟩
  | n + 1, x4, σ, hx, hb, h0, h100, h8, hQ => by
    apply b_X8_type_0_43
    refine ⟨fun z => absurd z (by omega), fun _ => ?_⟩
    have hby := hb x4 (by omega) (by omega)
    have e : jl2i (jland (jlshr y (jmul 8 x4)) 255) = byL y x4 := jl2i_eq (by have := hby; unfold byL at this; omega)
    rw [e]
    apply e_X5_append_25
    rw [jadd_eq (a := σ 25 1) (by omega) (by omega), jadd_eq (a := x4) (by omega) (by omega)]
    refine ⟨fun z => absurd z (by omega), fun _ => ⟨by omega, ?_⟩⟩
    have e1 : mupd (mupd σ 26 (σ 25 1) (byL y x4)) 25 1 (σ 25 1 + 1) 25 1 = σ 25 1 + 1 := mupd_at
    have e2 : ∀ j, mupd (mupd σ 26 (σ 25 1) (byL y x4)) 25 1 (σ 25 1 + 1) 26 j = if j = σ 25 1 then byL y x4 else σ 26 j := by
      intro j
      rw [mupd_rp (by decide)]
      unfold mupd
      simp
    have ih := l_typeC n (x4 + -1) (mupd (mupd σ 26 (σ 25 1) (byL y x4)) 25 1 (σ 25 1 + 1)) (Q := Q) (by omega) (fun i a b => hb i a (by omega)) (by rw [e1]; omega) (by rw [e1]; omega) (by omega)
    refine ih (fun σ' s1 s2 => hQ σ' (fun k k1 k2 => ?_) ?_)
    · rw [s1 k k1 k2, mupd_ne _ k1, mupd_ne _ k2]
    · obtain ⟨t1, t2⟩ := s2
      rw [e1] at t1 t2
      refine ⟨by omega, fun j => ?_⟩
      rw [t2 j, e2 j]
      by_cases c1 : σ 25 1 + 1 ≤ j ∧ j < σ 25 1 + 1 + n
      · rw [if_pos c1, if_pos (by omega)]
        congr 1
        omega
      · rw [if_neg c1]
        by_cases c2 : j = σ 25 1
        · rw [if_pos c2, if_pos (by omega)]
          congr 1
          omega
        · rw [if_neg c2, if_neg (by omega)]
theorem l_typeM {y : Int} {Q : Int → Mem → Prop} : ∀ (n : Nat) (x4 : Int) (σ : Mem), x4 + 1 = n → (∀ i, 0 ≤ i → i ≤ x4 → 32 ≤ byL y i ∧ byL y i ≤ 126) → 0 ≤ σ 0 14 → σ 0 14 + n ≤ 100 → n ≤ 8 → (∀ σ', (∀ k, k ≠ 0 → k ≠ 10 → σ' k = σ k) → (∀ j, j ≠ 14 → σ' 0 j = σ 0 j) → typed (σ 0 14) (σ' 0 14) (σ 10) (σ' 10) y n → Q (σ' 0 14) σ') → WP GM M_X9_type 74 [some (mr 0), some (ml y), none, none, some (mi x4)] [] σ Q
  | 0, x4, σ, hx, _, _, _, _, hQ => by
    refine b_X9_type_0_74 _ _ ⟨fun _ => hQ σ (fun _ _ _ => rfl) (fun _ _ => rfl) ⟨by omega, fun j => by rw [if_neg (by omega)]⟩, fun z => absurd (by omega) z⟩
  | n + 1, x4, σ, hx, hb, h0, h100, h8, hQ => by
    apply b_X9_type_0_74
    refine ⟨fun z => absurd z (by omega), fun _ => ⟨by omega, ?_⟩⟩
    have hby := hb x4 (by omega) (by omega)
    have e : jl2i (jland (jlshr y (jmul 8 x4)) 255) = byL y x4 := jl2i_eq (by have := hby; unfold byL at this; omega)
    rw [e, jadd_eq (a := σ 0 14) (by omega) (by omega), jadd_eq (a := x4) (by omega) (by omega)]
    have e1 : mupd (mupd σ 10 (σ 0 14) (byL y x4)) 0 14 (σ 0 14 + 1) 0 14 = σ 0 14 + 1 := mupd_at
    have e2 : ∀ j, mupd (mupd σ 10 (σ 0 14) (byL y x4)) 0 14 (σ 0 14 + 1) 10 j = if j = σ 0 14 then byL y x4 else σ 10 j := by
      intro j
      rw [mupd_rp (by decide)]
      unfold mupd
      simp
    have ih := l_typeM n (x4 + -1) (mupd (mupd σ 10 (σ 0 14) (byL y x4)) 0 14 (σ 0 14 + 1)) (Q := Q) (by omega) (fun i a b => hb i a (by omega)) (by rw [e1]; omega) (by rw [e1]; omega) (by omega)
    refine ih (fun σ' s1 s0 s2 => hQ σ' (fun k k1 k2 => ?_) (fun j hj => ?_) ?_)
    · rw [s1 k k1 k2, mupd_ne _ k1, mupd_ne _ k2]
    · rw [s0 j hj, mupd_ri hj, mupd_rp (by decide)]
    · obtain ⟨t1, t2⟩ := s2
      rw [e1] at t1 t2
      refine ⟨by omega, fun j => ?_⟩
      rw [t2 j, e2 j]
      by_cases c1 : σ 0 14 + 1 ≤ j ∧ j < σ 0 14 + 1 + n
      · rw [if_pos c1, if_pos (by omega)]
        congr 1
        omega
      · rw [if_neg c1]
        by_cases c2 : j = σ 0 14
        · rw [if_pos c2, if_pos (by omega)]
          congr 1
          omega
        · rw [if_neg c2, if_neg (by omega)]
theorem l_textM {y n : Int} {σ : Mem} {Q : Int → Mem → Prop} (hn : 1 ≤ n ∧ n ≤ 8) (hl : 0 ≤ σ 0 14 ∧ σ 0 14 ≤ 100) (h1 : (∀ i, 0 ≤ i → i < n → 32 ≤ byL y i ∧ byL y i ≤ 126) → (σ 0 14 + n ≤ 100 → WP GM M_X9_type 74 [some (mr 0), some (ml y), none, none, some (mi (n - 1))] [] σ Q) ∧ (¬ σ 0 14 + n ≤ 100 → Q (-3) σ)) (h0 : ¬ (∀ i, 0 ≤ i → i < n → 32 ≤ byL y i ∧ byL y i ≤ 126) → Q (-1) σ) : ∀ (m : Nat) (x4 : Int), x4 + 1 = m → m ≤ n → (∀ i, x4 < i → i < n → 32 ≤ byL y i ∧ byL y i ≤ 126) → WP GM M_X9_type 19 [some (mr 0), some (ml y), none, some (mi n), some (mi x4)] [] σ Q
  | 0, x4, hx, _, hp => by
    apply b_X9_type_0_19
    rw [jadd_eq (by omega) (by omega), jsub_eq (by omega) (by omega)]
    exact ⟨fun _ => h1 (fun i a b => hp i (by omega) b), fun z => absurd (by omega) z⟩
  | m + 1, x4, hx, hm, hp => by
    apply b_X9_type_0_19
    rw [jadd_eq (a := x4) (by omega) (by omega)]
    refine ⟨fun z => absurd z (by omega), fun _ => c_in (fun z => bn1 ?_) (fun z => bn0 (h0 (fun q => z (q x4 (by omega) (by omega)))))⟩
    refine l_textM hn hl h1 h0 m (x4 + -1) (by omega) (by omega) (fun i a b => ?_)
    by_cases e : i = x4
    · subst e; exact z
    · exact hp i (by omega) b
theorem sim_type {y n : Int} {σ τ : Mem} (hR : RR σ τ) (hn32 : R32 n) : SIM M_X8_type M_X9_type [mr 0, ml y, mi n] σ τ RR := by
  have hT := hR.2.2.2.1
  have hl0 := hT.2.1
  by_cases h : 1 ≤ n ∧ n ≤ 8
  · by_cases hb : ∀ i, 0 ≤ i → i < n → 32 ≤ byL y i ∧ byL y i ≤ 126
    · by_cases hl : τ 0 14 + n ≤ 100
      · obtain ⟨m, hm⟩ := nn_of (show 0 ≤ n by omega)
        refine ⟨τ 0 14 + n, fun σ' => (∀ k, k ≠ 25 → k ≠ 26 → σ' k = σ k) ∧ typed (τ 0 14) (σ' 25 1) (σ 26) (σ' 26) y n, fun τ' => (∀ k, k ≠ 0 → k ≠ 10 → τ' k = τ k) ∧ (∀ j, j ≠ 14 → τ' 0 j = τ 0 j) ∧ typed (τ 0 14) (τ' 0 14) (τ 10) (τ' 10) y n, ?_, ?_, ?_⟩
        · apply e_X8_type_0
          refine ⟨fun z => absurd z (by omega), fun _ => ⟨fun z => absurd z (by omega), fun _ => c_isText h (fun _ => bn1 ?_) (fun z => absurd hb z)⟩⟩
          rw [hT.1, jadd_eq (by omega) (by omega), jsub_eq (by omega) (by omega)]
          refine ⟨fun _ => ?_, fun z => absurd hl z⟩
          refine l_typeC m (n - 1) σ (by omega) (fun i a b => hb i a (by omega)) (by rw [hT.1]; omega) (by rw [hT.1]; omega) (by omega) (fun σ' s1 s2 => ?_)
          rw [← hm, hT.1] at s2
          exact ⟨s2.1, s1, s2⟩
        · apply e_X9_type_0
          refine c_in (fun _ => bn1 ?_) (fun z => absurd h z)
          rw [jsub_eq (by omega) (by omega)]
          refine l_textM h hT.2.1 (fun _ => ⟨fun _ => ?_, fun z => absurd hl z⟩) (fun z => absurd hb z) m (n - 1) (by omega) (by omega) (fun i a b => by omega)
          refine l_typeM m (n - 1) τ (by omega) (fun i a b => hb i a (by omega)) (by omega) (by omega) (by omega) (fun τ' s1 s0 s2 => ?_)
          rw [← hm] at s2
          exact ⟨s2.1, s1, s0, s2⟩
        · rintro σ' τ' - - ⟨s1, s2⟩ ⟨t1, t0, t2⟩
          refine hR.tape (fun k hk => s1 k (by omega) (by omega)) (fun k k1 k2 => s1 k (by omega) (by omega)) (fun k hk => t1 k (by omega) (by omega)) (fun j hj => t0 j (by omega)) ⟨by rw [s2.1, t2.1], by rw [t2.1]; omega, fun i a b => ?_⟩
          rw [t2.1] at b
          rw [s2.2 i, t2.2 i]
          by_cases c1 : τ 0 14 ≤ i ∧ i < τ 0 14 + n
          · rw [if_pos c1, if_pos c1]
            exact ⟨rfl, hb _ (by omega) (by omega)⟩
          · rw [if_neg c1, if_neg c1]
            exact hT.2.2 i a (by omega)
      · refine sim_same hR (-3) ?_ ?_
        · apply e_X8_type_0
          refine ⟨fun z => absurd z (by omega), fun _ => ⟨fun z => absurd z (by omega), fun _ => c_isText h (fun _ => bn1 ?_) (fun z => absurd hb z)⟩⟩
          rw [hT.1, jadd_eq (by omega) (by omega)]
          exact ⟨fun z => absurd z hl, fun _ => ⟨rfl, rfl⟩⟩
        · apply e_X9_type_0
          refine c_in (fun _ => bn1 ?_) (fun z => absurd h z)
          rw [jsub_eq (by omega) (by omega)]
          exact l_textM h hT.2.1 (fun _ => ⟨fun z => absurd z hl, fun _ => ⟨rfl, rfl⟩⟩) (fun z => absurd hb z) n.toNat (n - 1) (by omega) (by omega) (fun i a b => by omega)
    · refine sim_same hR (-1) ?_ ?_
      · apply e_X8_type_0
        exact ⟨fun z => absurd z (by omega), fun _ => ⟨fun z => absurd z (by omega), fun _ => c_isText h (fun z => absurd z hb) (fun _ => bn0 ⟨rfl, rfl⟩)⟩⟩
      · apply e_X9_type_0
        refine c_in (fun _ => bn1 ?_) (fun z => absurd h z)
        rw [jsub_eq (by omega) (by omega)]
        exact l_textM h hT.2.1 (fun z => absurd z hb) (fun _ => ⟨rfl, rfl⟩) n.toNat (n - 1) (by omega) (by omega) (fun i a b => by omega)
  · refine sim_same hR (-1) ?_ ?_
    · apply e_X8_type_0
      exact ⟨fun _ => ⟨rfl, rfl⟩, fun _ => ⟨fun _ => ⟨rfl, rfl⟩, fun z => by omega⟩⟩
    · apply e_X9_type_0
      exact c_in (fun z => absurd z h) (fun _ => bn0 ⟨rfl, rfl⟩)
