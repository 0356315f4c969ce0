/-! hole, of, count, wore -/
theorem RR.nc {σ τ : Mem} (hR : RR σ τ) : (0 ≤ τ 0 4 ∧ τ 0 4 ≤ 4) ∧ σ 3 0 = τ 0 4 := ⟨hR.1.1, hR.2.1.1⟩
theorem RR.nt {σ τ : Mem} (hR : RR σ τ) : (0 ≤ τ 0 9 ∧ τ 0 9 ≤ 8) ∧ σ 8 0 = τ 0 9 := ⟨hR.1.2.1, hR.2.1.2.1⟩
theorem RR.coats {σ σ' τ τ' : Mem} (hR : RR σ τ) (s1 : ∀ k, k ≤ 2 ∨ 8 ≤ k → σ' k = σ k) (t1 : ∀ k, k = 0 ∨ 5 ≤ k → τ' k = τ k) (s3 : σ' 3 0 = σ 3 0) (h : ∀ c, 0 ≤ c → c < τ 0 4 → CO τ' c ∧ EQC 4 5 6 7 σ' τ' c) : RR σ' τ' := by
  have hV := hR.1
  have hE := hR.2.1
  have t0 := t1 0 (by decide)
  refine ⟨⟨?_, ?_, ?_, ?_, ?_, ?_, ?_⟩, ⟨?_, ?_, ?_, ?_, ?_, ?_, ?_⟩, ?_, ?_, ?_⟩
  · rw [t0]; exact hV.1
  · rw [t0]; exact hV.2.1
  · rw [t0]; exact fun c a b => (h c a b).1
  · rw [t0]; exact fun t a b => (hV.2.2.2.1 t a b).fr (by rw [t0]) (fun k k1 k2 => by rw [t1 k (by omega)])
  · rw [t1 9 (by omega)]; exact hV.2.2.2.2.1
  · rw [t0]; exact hV.2.2.2.2.2.1
  · rw [t0]; exact hV.2.2.2.2.2.2
  · rw [t0, s3]; exact hE.1
  · rw [t0, s1 8 (by omega)]; exact hE.2.1
  · rw [t0, s1 1 (by omega)]; exact hE.2.2.1
  · rw [t0, s1 1 (by omega)]; exact hE.2.2.2.1
  · rw [t0]; exact fun c a b => (h c a b).2
  · rw [t0]
    intro t a b
    have hq := hE.2.2.2.2.2.1 t a b
    unfold EQT at *
    rw [s1 9 (by omega), s1 10 (by omega), s1 11 (by omega), s1 12 (by omega), t1 5 (by omega), t1 6 (by omega), t1 7 (by omega), t1 8 (by omega)]
    exact hq
  · rw [t1 9 (by omega), s1 2 (by omega)]; exact hE.2.2.2.2.2.2
  · exact hR.2.2.1.fr (fun k k1 k2 => s1 k (by omega)) (by rw [s1 0 (by omega)]) (t1 17 (by omega)) (by rw [t0])
  · exact hR.2.2.2.1.fr (by rw [s1 25 (by omega)]) (s1 26 (by omega)) (by rw [t0]) (t1 10 (by omega))
  · exact hR.2.2.2.2.fr (fun k k1 k2 => s1 k (by omega)) (fun k k1 k2 => t1 k (by omega))
theorem sim_hole {c v : Int} {σ τ : Mem} (hR : RR σ τ) : SIM M_X8_hole M_X9_hole [mr 0, mi c, mi v] σ τ RR := by
  obtain ⟨h4, e4⟩ := hR.nc
  by_cases h : 0 ≤ c ∧ c < τ 0 4
  · by_cases hv : 0 ≤ v ∧ v < 4
    · have hi : 0 ≤ c ∧ c < 4 := by omega
      have hEc := hR.2.1.2.2.2.2.1 c h.1 h.2
      refine ⟨τ 3 c, (· = mupd σ 7 c v), (· = mupd τ 3 c v), ?_, ?_, ?_⟩
      · apply e_X8_hole_0
        exact c_hasC (fun _ => br1 (c_within (fun _ => bn1 ⟨hi, hi, hEc.2.2.1, rfl⟩) (fun z => absurd hv z))) (fun z => absurd (by rw [e4]; exact h) z)
      · apply e_X9_hole_0
        exact c_isCoat h4 (fun _ => br1 (c_in (fun _ => bn1 ⟨hi, hi, rfl, rfl⟩) (fun z => absurd (by omega) z))) (fun z => absurd h z)
      · rintro σ' τ' - - hs ht
        refine hR.coats (fun k hk => by rw [hs, mupd_ne _ (by omega)]) (fun k hk => by rw [ht, mupd_ne _ (by omega)]) (by rw [hs, mupd_rp (by decide)]) (fun i i1 i2 => ?_)
        have hC := hR.1.2.2.1 i i1 i2
        have hE := hR.2.1.2.2.2.2.1 i i1 i2
        have t3 : τ' 3 i = if i = c then v else τ 3 i := by
          rw [ht]; by_cases e : i = c
          · rw [if_pos e, e, mupd_at]
          · rw [if_neg e, mupd_ri e]
        have s7 : σ' 7 i = if i = c then v else σ 7 i := by
          rw [hs]; by_cases e : i = c
          · rw [if_pos e, e, mupd_at]
          · rw [if_neg e, mupd_ri e]
        unfold CO EQC at *
        rw [t3, s7, show τ' 1 = τ 1 from by rw [ht, mupd_ne _ (by decide)], show τ' 2 = τ 2 from by rw [ht, mupd_ne _ (by decide)], show τ' 4 = τ 4 from by rw [ht, mupd_ne _ (by decide)], show σ' 4 = σ 4 from by rw [hs, mupd_ne _ (by decide)], show σ' 5 = σ 5 from by rw [hs, mupd_ne _ (by decide)], show σ' 6 = σ 6 from by rw [hs, mupd_ne _ (by decide)]]
        by_cases e : i = c
        · rw [if_pos e, if_pos e]
          exact ⟨⟨hC.1, hC.2.1, by omega, hC.2.2.2.1, hC.2.2.2.2⟩, hE.1, hE.2.1, rfl, hE.2.2.2⟩
        · rw [if_neg e, if_neg e]
          exact ⟨hC, hE⟩
    · refine sim_same hR (-1) ?_ ?_
      · apply e_X8_hole_0
        exact c_hasC (fun _ => br1 (c_within (fun z => absurd z hv) (fun _ => bn0 ⟨rfl, rfl⟩))) (fun z => absurd (by rw [e4]; exact h) z)
      · apply e_X9_hole_0
        exact c_isCoat h4 (fun _ => br1 (c_in (fun z => absurd (by omega) hv) (fun _ => bn0 ⟨rfl, rfl⟩))) (fun z => absurd h z)
  · refine sim_same hR (-1) ?_ ?_
    · apply e_X8_hole_0
      exact c_hasC (fun z => absurd (by rw [e4] at z; exact z) h) (fun _ => br0 ⟨rfl, rfl⟩)
    · apply e_X9_hole_0
      exact c_isCoat h4 (fun z => absurd z h) (fun _ => br0 ⟨rfl, rfl⟩)
/-- things at a place, a set, of the first -/
def atN (f : Int → Int) (p : Int) : Nat → Int
  | 0 => 0
  | n + 1 => if f n = p then jor (atN f p n) (jshl 1 n) else atN f p n
theorem atN_in (f : Int → Int) (p : Int) : ∀ n : Nat, n ≤ 8 → 0 ≤ atN f p n ∧ atN f p n < 256
  | 0, _ => by simp [atN]
  | n + 1, h => by
    have ih := atN_in f p n (by omega)
    simp only [atN]
    split
    · exact jor_256 ih (shl1_256 (by omega))
    · exact ih
theorem atN_congr {f g : Int → Int} (p : Int) : ∀ n : Nat, (∀ i : Int, 0 ≤ i → i < n → f i = g i) → atN f p n = atN g p n
  | 0, _ => rfl
  | n + 1, h => by
    simp only [atN]
    rw [atN_congr p n (fun i a b => h i a (by omega)), h n (by omega) (by omega)]
theorem l_atC {p : Int} {σ : Mem} {Q : Int → Mem → Prop} (m : Nat) (hm : σ 8 0 = m) (h8 : m ≤ 8) (hQ : Q (atN (σ 10) p m) σ) : ∀ (n k : Nat), k + n = m → WP GC M_X6_at 4 [some (mr 8), some (mi p), some (mi (atN (σ 10) p k)), some (mi (k : Int))] [] σ Q
  | 0, k, h => by
    obtain rfl : k = m := by omega
    exact b_X6_at_8_4 _ _ _ ⟨fun _ => hQ, fun z => absurd (by omega) z⟩
  | n + 1, k, h => by
    have ih := l_atC m hm h8 hQ n (k + 1) (by omega)
    simp only [atN] at ih
    apply b_X6_at_8_4
    refine ⟨fun z => absurd z (by omega), fun _ => ⟨by omega, fun z => ?_, fun z => ?_⟩⟩
    · apply b_X6_at_8_28
      rw [jadd_eq (by omega) (by omega)]
      rw [if_neg z] at ih
      exact ih
    · apply b_X6_at_8_28
      rw [jadd_eq (by omega) (by omega)]
      rw [if_pos z] at ih
      exact ih
theorem c_at {p : Int} {σ : Mem} {Q : Int → Mem → Prop} (m : Nat) (hm : σ 8 0 = m) (h8 : m ≤ 8) (hQ : Q (atN (σ 10) p m) σ) : HT GC M_X6_at [mr 8, mi p] σ Q := by
  apply e_X6_at_8
  exact l_atC m hm h8 hQ m 0 (by omega)
theorem l_atM {p : Int} {σ : Mem} {Q : Int → Mem → Prop} (m : Nat) (hm : σ 0 9 = m) (h8 : m ≤ 8) (hQ : Q (atN (σ 6) p m) σ) : ∀ (n k : Nat), k + n = m → WP GM M_X9_thingsAt 4 [some (mr 0), some (mi p), some (mi (atN (σ 6) p k)), some (mi (k : Int))] [] σ Q
  | 0, k, h => by
    obtain rfl : k = m := by omega
    exact b_X9_thingsAt_0_4 _ _ _ ⟨fun _ => hQ, fun z => absurd (by omega) z⟩
  | n + 1, k, h => by
    have ih := l_atM m hm h8 hQ n (k + 1) (by omega)
    have hin := atN_in (σ 6) p k (by omega)
    simp only [atN] at ih
    apply b_X9_thingsAt_0_4
    refine ⟨fun z => absurd z (by omega), fun _ => ⟨by omega, fun z => ?_, fun z => ?_⟩⟩
    · apply b_X9_thingsAt_0_30
      rw [jadd_eq (by omega) (by omega), jor_0 ⟨by omega, by omega⟩]
      rw [if_neg z] at ih
      exact ih
    · apply b_X9_thingsAt_0_30
      rw [jadd_eq (by omega) (by omega)]
      rw [if_pos z] at ih
      exact ih
theorem c_thingsAt {p : Int} {σ : Mem} {Q : Int → Mem → Prop} (m : Nat) (hm : σ 0 9 = m) (h8 : m ≤ 8) (hQ : Q (atN (σ 6) p m) σ) : HT GM M_X9_thingsAt [mr 0, mi p] σ Q := by
  apply e_X9_thingsAt_0
  exact l_atM m hm h8 hQ m 0 (by omega)
theorem c_wearerC {c : Int} {σ : Mem} {Q : Int → Mem → Prop} (hc : 0 ≤ c ∧ c < 4) (hu : 0 ≤ σ 6 c ∧ σ 6 c < 4) (hQ : Q (σ 4 (4 * c + σ 6 c)) σ) : HT GC M_X0_wearer [mr 3, mi c] σ Q := by
  apply e_X0_wearer_3
  rw [jmul_eq (by omega) (by omega), jadd_eq (by omega) (by omega), Int.mul_comm c 4]
  exact ⟨hc, by omega, hQ⟩
theorem c_wearerW {c : Int} {σ : Mem} {Q : Int → Mem → Prop} (hc : 0 ≤ c ∧ c < 4) (hu : 0 ≤ σ 38 c ∧ σ 38 c < 4) (hQ : Q (σ 36 (4 * c + σ 38 c)) σ) : HT GC M_X0_wearer [mr 35, mi c] σ Q := by
  apply e_X0_wearer_35
  rw [jmul_eq (by omega) (by omega), jadd_eq (by omega) (by omega), Int.mul_comm c 4]
  exact ⟨hc, by omega, hQ⟩
theorem c_wearerM {c l : Int} {σ : Mem} {Q : Int → Mem → Prop} (hc : 0 ≤ c ∧ c < 4) (hz : 1 ≤ σ 1 c ∧ σ 1 c ≤ 4) (hu : 0 ≤ σ 2 c ∧ σ 2 c < 4) (hl : 0 ≤ l ∧ l < 1000) (hQ : Q (σ 4 (4 * c + (σ 2 c + l) % σ 1 c)) σ) : HT GM M_X9_wearer [mr 0, mi c, mi l] σ Q := by
  apply e_X9_wearer_0
  have h1 := Int.emod_nonneg (σ 2 c + l) (show σ 1 c ≠ 0 by omega)
  have h2 := Int.emod_lt_of_pos (σ 2 c + l) (show 0 < σ 1 c by omega)
  rw [jmul_eq (by omega) (by omega), jadd_eq (a := σ 2 c) (by omega) (by omega), jrem_eq (by omega) (by omega) (by omega) (by omega), jadd_eq (by omega) (by omega)]
  exact ⟨hc, hc, by omega, by omega, hQ⟩
theorem c_wearerM0 {c : Int} {σ : Mem} {Q : Int → Mem → Prop} (hc : 0 ≤ c ∧ c < 4) (hC : CO σ c) (hQ : Q (σ 4 (4 * c + σ 2 c)) σ) : HT GM M_X9_wearer [mr 0, mi c, mi 0] σ Q := by
  have h1 := hC.1
  have h2 := hC.2.1
  refine c_wearerM hc h1 (by omega) (by omega) ?_
  rw [Int.add_zero, Int.emod_eq_of_lt h2.1 h2.2]
  exact hQ
theorem sim_of {c w : Int} {σ τ : Mem} (hR : RR σ τ) : SIM M_X8_of M_X9_of [mr 0, mi c, mi w] σ τ RR := by
  obtain ⟨h4, e4⟩ := hR.nc
  obtain ⟨h8, e8⟩ := hR.nt
  by_cases h : 0 ≤ c ∧ c < τ 0 4
  · have hi : 0 ≤ c ∧ c < 4 := by omega
    have hC := hR.1.2.2.1 c h.1 h.2
    have hE := hR.2.1.2.2.2.2.1 c h.1 h.2
    have hz := hC.1
    have hu := hC.2.1
    by_cases hw : 0 ≤ w ∧ w < 9
    · obtain ⟨m, hm⟩ := nn_of h8.1
      have hat : ∀ p, atN (σ 10) p m = atN (τ 6) p m := fun p => atN_congr p m (fun i a b => (hR.2.1.2.2.2.2.2.1 i a (by omega)).2.1)
      have hcl : ∀ r, (w = 0 → r = τ 4 (4 * c + τ 2 c)) → (w = 1 → r = τ 1 c) → (w = 2 → r = τ 3 c) → (w = 3 → r = atN (τ 6) (10 + c) m) → (w = 4 → r = atN (τ 6) (20 + c) m) → (4 < w → r = if w - 5 < τ 1 c then τ 4 (4 * c + (w - 5)) else -4) → SIM M_X8_of M_X9_of [mr 0, mi c, mi w] σ τ RR := by
        intro r r0 r1 r2 r3 r4 r5
        refine sim_same hR r ?_ ?_
        · apply e_X8_of_0
          refine c_hasC (fun _ => br1 (c_within (fun _ => bn1 ?_) (fun z => absurd hw z))) (fun z => absurd (by rw [e4]; exact h) z)
          refine ⟨fun q => ?_, fun q => ⟨hi, by rw [r1 q]; exact hE.1, rfl⟩, fun q => ⟨hi, by rw [r2 q]; exact hE.2.2.1, rfl⟩, fun q => ?_, fun q => ?_, fun _ _ _ _ _ => ?_⟩
          · refine c_wearerC hi (by rw [hE.2.1]; omega) ⟨?_, rfl⟩
            rw [r0 q, hE.2.1, hE.2.2.2 _ hu.1 hu.2]
          · rw [jadd_eq (by omega) (by omega)]
            exact c_at m (by rw [e8, hm]) (by omega) ⟨by rw [hat, r3 q], rfl⟩
          · rw [jadd_eq (by omega) (by omega)]
            exact c_at m (by rw [e8, hm]) (by omega) ⟨by rw [hat, r4 q], rfl⟩
          · rw [jsub_eq (by omega) (by omega)]
            apply e_X0_boyOfTurn_3
            rw [jmul_eq (by omega) (by omega), jadd_eq (by omega) (by omega), Int.mul_comm c 4, hE.1]
            refine ⟨hi, fun q => ⟨by rw [r5 (by omega), if_neg (by omega)], rfl⟩, fun q => ⟨by omega, ?_, rfl⟩⟩
            rw [r5 (by omega), if_pos (by omega)]
            exact hE.2.2.2 _ (by omega) (by omega)
        · apply e_X9_of_0
          refine c_isCoat h4 (fun _ => br1 (c_in (fun _ => bn1 ?_) (fun z => absurd (by omega) z))) (fun z => absurd h z)
          refine ⟨fun _ => ⟨fun q0 => ⟨fun q1 => ⟨fun q2 => ⟨fun q3 => ?_, fun q3 => ?_⟩, fun q2 => ⟨hi, (r2 q2).symm, rfl⟩⟩, fun q1 => ⟨hi, (r1 q1).symm, rfl⟩⟩, fun q0 => ?_⟩, fun q => ?_⟩
          · apply b_X9_of_0_111
            rw [jadd_eq (by omega) (by omega)]
            exact c_thingsAt m hm (by omega) ⟨by rw [r4 (by omega)], rfl⟩
          · apply b_X9_of_0_111
            rw [jadd_eq (by omega) (by omega)]
            exact c_thingsAt m hm (by omega) ⟨by rw [r3 (by omega)], rfl⟩
          · exact c_wearerM0 hi hC ⟨(r0 q0).symm, rfl⟩
          · rw [jsub_eq (by omega) (by omega), jmul_eq (by omega) (by omega), jadd_eq (by omega) (by omega), jsub_eq (by omega) (by omega)]
            refine ⟨hi, fun q2 => ⟨by rw [r5 (by omega), if_neg (by omega)], rfl⟩, fun q2 => ⟨by omega, ?_, rfl⟩⟩
            rw [r5 (by omega), if_pos (by omega)]
            congr 1
            omega
      by_cases q0 : w = 0
      · exact hcl _ (fun _ => rfl) (fun _ => by omega) (fun _ => by omega) (fun _ => by omega) (fun _ => by omega) (fun _ => by omega)
      by_cases q1 : w = 1
      · exact hcl _ (fun _ => by omega) (fun _ => rfl) (fun _ => by omega) (fun _ => by omega) (fun _ => by omega) (fun _ => by omega)
      by_cases q2 : w = 2
      · exact hcl _ (fun _ => by omega) (fun _ => by omega) (fun _ => rfl) (fun _ => by omega) (fun _ => by omega) (fun _ => by omega)
      by_cases q3 : w = 3
      · exact hcl _ (fun _ => by omega) (fun _ => by omega) (fun _ => by omega) (fun _ => rfl) (fun _ => by omega) (fun _ => by omega)
      by_cases q4 : w = 4
      · exact hcl _ (fun _ => by omega) (fun _ => by omega) (fun _ => by omega) (fun _ => by omega) (fun _ => rfl) (fun _ => by omega)
      · exact hcl _ (fun _ => by omega) (fun _ => by omega) (fun _ => by omega) (fun _ => by omega) (fun _ => by omega) (fun _ => rfl)
    · refine sim_same hR (-1) ?_ ?_
      · apply e_X8_of_0
        exact c_hasC (fun _ => br1 (c_within (fun z => absurd z hw) (fun _ => bn0 ⟨rfl, rfl⟩))) (fun z => absurd (by rw [e4]; exact h) z)
      · apply e_X9_of_0
        exact c_isCoat h4 (fun _ => br1 (c_in (fun z => absurd (by omega) hw) (fun _ => bn0 ⟨rfl, rfl⟩))) (fun z => absurd h z)
  · refine sim_same hR (-1) ?_ ?_
    · apply e_X8_of_0
      exact c_hasC (fun z => absurd (by rw [e4] at z; exact z) h) (fun _ => br0 ⟨rfl, rfl⟩)
    · apply e_X9_of_0
      exact c_isCoat h4 (fun z => absurd z h) (fun _ => br0 ⟨rfl, rfl⟩)
/-- how many of the first lie between -/
def cnN (f : Int → Int) (lo hi : Int) : Nat → Int
  | 0 => 0
  | n + 1 => cnN f lo hi n + if lo ≤ f n ∧ f n < hi then 1 else 0
theorem cnN_in (f : Int → Int) (lo hi : Int) : ∀ n : Nat, 0 ≤ cnN f lo hi n ∧ cnN f lo hi n ≤ n
  | 0 => by simp [cnN]
  | n + 1 => by
    have ih := cnN_in f lo hi n
    simp only [cnN]
    split <;> omega
theorem cnN_congr {f g : Int → Int} {lo hi lo' hi' : Int} : ∀ n : Nat, (∀ i : Int, 0 ≤ i → i < n → ((lo ≤ f i ∧ f i < hi) ↔ (lo' ≤ g i ∧ g i < hi'))) → cnN f lo hi n = cnN g lo' hi' n
  | 0, _ => rfl
  | n + 1, h => by
    simp only [cnN]
    rw [cnN_congr n (fun i a b => h i a (by omega))]
    have h1 := h n (by omega) (by omega)
    by_cases hc : lo ≤ f n ∧ f n < hi
    · rw [if_pos hc, if_pos (h1.mp hc)]
    · rw [if_neg hc, if_neg (fun z => hc (h1.mpr z))]
theorem l_between {lo hi : Int} {σ : Mem} {Q : Int → Mem → Prop} (m : Nat) (hm : σ 8 0 = m) (h8 : m ≤ 8) (hQ : Q (cnN (σ 10) lo hi m) σ) : ∀ (n k : Nat), k + n = m → WP GC M_X6_between 5 [some (mr 8), some (mi lo), some (mi hi), some (mi (cnN (σ 10) lo hi k)), some (mi (k : Int))] [] σ Q
  | 0, k, h => by
    obtain rfl : k = m := by omega
    exact b_X6_between_8_5 _ _ _ _ ⟨fun _ => hQ, fun z => absurd (by omega) z⟩
  | n + 1, k, h => by
    have ih := l_between m hm h8 hQ n (k + 1) (by omega)
    have hin := cnN_in (σ 10) lo hi k
    simp only [cnN] at ih
    apply b_X6_between_8_5
    refine ⟨fun z => absurd z (by omega), fun _ => ⟨by omega, fun z => ?_, fun z => ⟨by omega, fun z2 => ?_, fun z2 => ?_⟩⟩⟩
    · apply b_X6_between_8_39
      rw [jadd_eq (by omega) (by omega)]
      rw [if_neg (fun q => by omega), Int.add_zero] at ih
      exact ih
    · apply b_X6_between_8_39
      rw [jadd_eq (by omega) (by omega)]
      rw [if_neg (fun q => by omega), Int.add_zero] at ih
      exact ih
    · apply b_X6_between_8_39
      rw [jadd_eq (a := (k : Int)) (by omega) (by omega), jadd_eq (by omega) (by omega)]
      rw [if_pos (by omega)] at ih
      exact ih
theorem c_between {lo hi : Int} {σ : Mem} {Q : Int → Mem → Prop} (m : Nat) (hm : σ 8 0 = m) (h8 : m ≤ 8) (hQ : Q (cnN (σ 10) lo hi m) σ) : HT GC M_X6_between [mr 8, mi lo, mi hi] σ Q := by
  apply e_X6_between_8
  exact l_between m hm h8 hQ m 0 (by omega)
theorem l_countM {w : Int} {σ : Mem} {Q : Int → Mem → Prop} (m : Nat) (hm : σ 0 9 = m) (h8 : m ≤ 8) (hQ : (w = 0 → Q (σ 0 4) σ) ∧ (w = 1 → Q (σ 0 9) σ) ∧ (w = 2 → Q (σ 0 11) σ) ∧ (w = 3 → Q (cnN (σ 6) 10 14 m) σ) ∧ (w = 4 → Q (cnN (σ 6) 20 24 m) σ) ∧ (w = 5 → Q (cnN (σ 6) 30 31 m) σ) ∧ (¬ w = 0 → ¬ w = 1 → ¬ w = 2 → ¬ w = 3 → ¬ w = 4 → ¬ w = 5 → Q (-1) σ)) : ∀ (n k : Nat), k + n = m → WP GM M_X9_count 10 [some (mr 0), some (mi w), some (mi (cnN (σ 6) 10 14 k)), some (mi (cnN (σ 6) 20 24 k)), some (mi (cnN (σ 6) 30 31 k)), some (mi (k : Int))] [] σ Q
  | 0, k, h => by
    obtain rfl : k = m := by omega
    exact b_X9_count_0_10 _ _ _ _ _ ⟨fun _ => hQ, fun z => absurd (by omega) z⟩
  | n + 1, k, h => by
    have ih := l_countM m hm h8 hQ n (k + 1) (by omega)
    have i1 := cnN_in (σ 6) 10 14 k
    have i2 := cnN_in (σ 6) 20 24 k
    have i3 := cnN_in (σ 6) 30 31 k
    simp only [cnN] at ih
    have hk : 0 ≤ (k : Int) ∧ (k : Int) < 8 := by omega
    have last : ∀ a b c : Int, a = cnN (σ 6) 10 14 k + (if 10 ≤ σ 6 k ∧ σ 6 k < 14 then 1 else 0) → b = cnN (σ 6) 20 24 k + (if 20 ≤ σ 6 k ∧ σ 6 k < 24 then 1 else 0) → c = (if 30 ≤ σ 6 k ∧ σ 6 k < 31 then 1 else 0) → WP GM M_X9_count 94 [some (mr 0), some (mi w), some (mi a), some (mi b), none, some (mi (k : Int))] [mi c, mi (cnN (σ 6) 30 31 k)] σ Q := by
      intro a b c ea eb ec
      apply b_X9_count_0_94
      have hc : 0 ≤ c ∧ c ≤ 1 := by rw [ec]; split <;> omega
      rw [jadd_eq (a := (k : Int)) (by omega) (by omega), jadd_eq (by omega) (by omega), ea, eb, ec]
      exact ih
    have mid : ∀ a c : Int, a = cnN (σ 6) 10 14 k + (if 10 ≤ σ 6 k ∧ σ 6 k < 14 then 1 else 0) → c = (if 20 ≤ σ 6 k ∧ σ 6 k < 24 then 1 else 0) → WP GM M_X9_count 73 [some (mr 0), some (mi w), some (mi a), none, some (mi (cnN (σ 6) 30 31 k)), some (mi (k : Int))] [mi c, mi (cnN (σ 6) 20 24 k)] σ Q := by
      intro a c ea ec
      apply b_X9_count_0_73
      have hc : 0 ≤ c ∧ c ≤ 1 := by rw [ec]; split <;> omega
      rw [jadd_eq (by omega) (by omega)]
      exact ⟨hk, fun z => last a _ _ ea (by rw [ec]) (by rw [if_neg (by omega)]), fun z => last a _ _ ea (by rw [ec]) (by rw [if_pos (by omega)])⟩
    have fst : ∀ c : Int, c = (if 10 ≤ σ 6 k ∧ σ 6 k < 14 then 1 else 0) → WP GM M_X9_count 45 [some (mr 0), some (mi w), none, some (mi (cnN (σ 6) 20 24 k)), some (mi (cnN (σ 6) 30 31 k)), some (mi (k : Int))] [mi c, mi (cnN (σ 6) 10 14 k)] σ Q := by
      intro c ec
      apply b_X9_count_0_45
      have hc : 0 ≤ c ∧ c ≤ 1 := by rw [ec]; split <;> omega
      rw [jadd_eq (by omega) (by omega)]
      exact ⟨hk, c_in (fun z => br1 (mid _ _ (by rw [ec]) (by rw [if_pos (by omega)]))) (fun z => br0 (mid _ _ (by rw [ec]) (by rw [if_neg (by omega)])))⟩
    apply b_X9_count_0_10
    exact ⟨fun z => absurd z (by omega), fun _ => ⟨hk, c_in (fun z => br1 (fst _ (by rw [if_pos (by omega)]))) (fun z => br0 (fst _ (by rw [if_neg (by omega)])))⟩⟩
theorem sim_count {w : Int} {σ τ : Mem} (hR : RR σ τ) : SIM M_X8_count M_X9_count [mr 0, mi w] σ τ RR := by
  obtain ⟨h4, e4⟩ := hR.nc
  obtain ⟨h8, e8⟩ := hR.nt
  obtain ⟨m, hm⟩ := nn_of h8.1
  have pl : ∀ i : Int, 0 ≤ i → i < m → PLC (τ 0 4) (τ 6 i) ∧ σ 10 i = τ 6 i := fun i a b => ⟨(hR.1.2.2.2.1 i a (by omega)).2.1, (hR.2.1.2.2.2.2.2.1 i a (by omega)).2.1⟩
  have k3 : cnN (σ 10) 10 20 m = cnN (τ 6) 10 14 m := cnN_congr m (fun i a b => by have h := pl i a b; unfold PLC at h; rw [h.2]; omega)
  have k4 : cnN (σ 10) 20 30 m = cnN (τ 6) 20 24 m := cnN_congr m (fun i a b => by have h := pl i a b; unfold PLC at h; rw [h.2]; omega)
  have k5 : cnN (σ 10) 30 31 m = cnN (τ 6) 30 31 m := cnN_congr m (fun i a b => by have h := pl i a b; rw [h.2])
  have hcl : ∀ r, (w = 0 → r = τ 0 4) → (w = 1 → r = τ 0 9) → (w = 2 → r = τ 0 11) → (w = 3 → r = cnN (τ 6) 10 14 m) → (w = 4 → r = cnN (τ 6) 20 24 m) → (w = 5 → r = cnN (τ 6) 30 31 m) → (¬ w = 0 → ¬ w = 1 → ¬ w = 2 → ¬ w = 3 → ¬ w = 4 → ¬ w = 5 → r = -1) → SIM M_X8_count M_X9_count [mr 0, mi w] σ τ RR := by
    intro r r0 r1 r2 r3 r4 r5 r6
    refine sim_same hR r ?_ ?_
    · apply e_X8_count_0
      exact ⟨fun q => ⟨by rw [r0 q, e4], rfl⟩, fun q => ⟨by rw [r1 q, e8], rfl⟩, fun q => ⟨by rw [r2 q]; exact hR.2.1.2.2.1, rfl⟩, fun q => c_between m (by rw [e8, hm]) (by omega) ⟨by rw [r3 q, k3], rfl⟩, fun q => c_between m (by rw [e8, hm]) (by omega) ⟨by rw [r4 q, k4], rfl⟩, fun q => c_between m (by rw [e8, hm]) (by omega) ⟨by rw [r5 q, k5], rfl⟩, fun a b c d e f => ⟨by rw [r6 a b c d e f], rfl⟩⟩
    · apply e_X9_count_0
      exact l_countM m hm (by omega) ⟨fun q => ⟨(r0 q).symm, rfl⟩, fun q => ⟨(r1 q).symm, rfl⟩, fun q => ⟨(r2 q).symm, rfl⟩, fun q => ⟨(r3 q).symm, rfl⟩, fun q => ⟨(r4 q).symm, rfl⟩, fun q => ⟨(r5 q).symm, rfl⟩, fun a b c d e f => ⟨(r6 a b c d e f).symm, rfl⟩⟩ m 0 (by omega)
  by_cases q0 : w = 0
  · exact hcl _ (fun _ => rfl) (fun _ => by omega) (fun _ => by omega) (fun _ => by omega) (fun _ => by omega) (fun _ => by omega) (fun z => absurd q0 z)
  by_cases q1 : w = 1
  · exact hcl _ (fun _ => by omega) (fun _ => rfl) (fun _ => by omega) (fun _ => by omega) (fun _ => by omega) (fun _ => by omega) (fun _ z => absurd q1 z)
  by_cases q2 : w = 2
  · exact hcl _ (fun _ => by omega) (fun _ => by omega) (fun _ => rfl) (fun _ => by omega) (fun _ => by omega) (fun _ => by omega) (fun _ _ z => absurd q2 z)
  by_cases q3 : w = 3
  · exact hcl _ (fun _ => by omega) (fun _ => by omega) (fun _ => by omega) (fun _ => rfl) (fun _ => by omega) (fun _ => by omega) (fun _ _ _ z => absurd q3 z)
  by_cases q4 : w = 4
  · exact hcl _ (fun _ => by omega) (fun _ => by omega) (fun _ => by omega) (fun _ => by omega) (fun _ => rfl) (fun _ => by omega) (fun _ _ _ _ z => absurd q4 z)
  by_cases q5 : w = 5
  · exact hcl _ (fun _ => by omega) (fun _ => by omega) (fun _ => by omega) (fun _ => by omega) (fun _ => by omega) (fun _ => rfl) (fun _ _ _ _ _ z => absurd q5 z)
  · exact hcl (-1) (fun z => absurd z q0) (fun z => absurd z q1) (fun z => absurd z q2) (fun z => absurd z q3) (fun z => absurd z q4) (fun z => absurd z q5) (fun _ _ _ _ _ _ => rfl)
