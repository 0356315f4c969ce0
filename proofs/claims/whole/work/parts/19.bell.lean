/-! a bell -/
def nxd (d : Int) : Int := (d * 1103515245 + 12345) % 2147483648
theorem nxd_in (d : Int) : 0 ≤ nxd d ∧ nxd d < 2147483648 := by unfold nxd; omega
theorem nxdC {d : Int} (h : 0 ≤ d ∧ d < 2147483648) : jand (jadd (jmul d 1103515245) 12345) 2147483647 = nxd d := by
  obtain ⟨n, rfl⟩ := nn_of h.1
  have e : Int32.ofInt (jadd (jmul (n : Int) 1103515245) 12345) = nI (n * 1103515245 + 12345) := by
    rw [o_iadd, o_imul, ← Int32.ofInt_mul, ← Int32.ofInt_add, ← ofInt_nI]
    congr 1
  unfold jand
  rw [e, pk_and _ 31 (m := Int32.ofInt 2147483647) (by decide +kernel)]
  have e2 : (nI (n * 1103515245 + 12345)).toBitVec.toNat = (n * 1103515245 + 12345) % 2 ^ 32 := by
    show (BitVec.ofNat 32 _).toNat = _
    rw [BitVec.toNat_ofNat]
  rw [e2, nI_toInt (Nat.mod_lt _ (by decide))]
  unfold nxd
  omega
theorem jland_mask (n : Nat) (h : n < 2 ^ 63) : jland (n : Int) 2147483647 = ((n % 2147483648 : Nat) : Int) := by
  have e : Int64.ofInt (n : Int) &&& Int64.ofInt 2147483647 = lN (n % 2147483648) := by
    apply Int64.toBitVec_inj.1
    apply BitVec.eq_of_toNat_eq
    rw [Int64.toBitVec_and, BitVec.toNat_and, ofInt_lN]
    have e1 : (lN n).toBitVec.toNat = n := by
      show (BitVec.ofNat 64 n).toNat = n
      rw [BitVec.toNat_ofNat, Nat.mod_eq_of_lt (by omega)]
    have e2 : (Int64.ofInt 2147483647).toBitVec.toNat = 2 ^ 31 - 1 := by decide +kernel
    have e3 : (lN (n % 2147483648)).toBitVec.toNat = n % 2147483648 := by
      show (BitVec.ofNat 64 _).toNat = _
      rw [BitVec.toNat_ofNat, Nat.mod_eq_of_lt (by omega)]
    rw [e1, e2, e3, Nat.and_two_pow_sub_one_eq_mod]
  unfold jland
  rw [e]
  exact lN_toInt (by omega)
theorem nxdM {d : Int} (h : 0 ≤ d ∧ d < 2147483648) : jl2i (jland (jladd (jlmul d 1103515245) 12345) 2147483647) = nxd d := by
  obtain ⟨n, rfl⟩ := nn_of h.1
  rw [jlmul_eq (by omega) (by omega), jladd_eq (by omega) (by omega)]
  have e : (n : Int) * 1103515245 + 12345 = ((n * 1103515245 + 12345 : Nat) : Int) := by omega
  rw [e, jland_mask _ (by omega), jl2i_eq (by omega)]
  unfold nxd
  omega
theorem mupd_self {σ : Mem} {k : Nat} {i v : Int} (h : σ k i = v) : mupd σ k i v = σ := by
  funext a b
  unfold mupd
  split
  · rename_i z
    rw [z.1, z.2, h]
  · rfl
/-- scalars: bells, the draw -/
theorem RW.scal {σ σ' τ τ' : Mem} (hR : RW σ τ) (s1 : ∀ k, k ≠ 1 → σ' k = σ k) (t1 : ∀ k, 1 ≤ k → τ' k = τ k) (t0 : ∀ j, j ≠ 11 → j ≠ 12 → τ' 0 j = τ 0 j) (h3 : σ' 1 3 = τ' 0 11) (h4 : σ' 1 4 = τ' 0 12) (r3 : 0 ≤ τ' 0 11 ∧ τ' 0 11 ≤ 9999) (r4 : 0 ≤ τ' 0 12 ∧ τ' 0 12 < 2147483648) : RW σ' τ' := by
  have hV := hR.1
  have hE := hR.2.1
  have e4 := t0 4 (by decide) (by decide)
  have e9 := t0 9 (by decide) (by decide)
  refine ⟨⟨?_, ?_, ?_, ?_, ?_, r3, r4⟩, ⟨?_, ?_, h3, h4, ?_, ?_, ?_⟩, ?_, ?_, ?_⟩
  · rw [e4]; exact hV.1
  · rw [e9]; exact hV.2.1
  · rw [e4]; exact fun c a b => (hV.2.2.1 c a b).fr (fun k k1 k2 => t1 k k1)
  · rw [e9]; exact fun t a b => (hV.2.2.2.1 t a b).fr e4 (fun k k1 k2 => by rw [t1 k (by omega)])
  · rw [t1 9 (by decide)]; exact hV.2.2.2.2.1
  · rw [e4, s1 3 (by decide)]; exact hE.1
  · rw [e9, s1 8 (by decide)]; exact hE.2.1
  · rw [e4]; exact fun c a b => (hE.2.2.2.2.1 c a b).fr ⟨s1 4 (by decide), s1 5 (by decide), s1 6 (by decide), s1 7 (by decide)⟩ (fun k k1 k2 => t1 k k1)
  · rw [e9]
    intro t a b
    have hq := hE.2.2.2.2.2.1 t a b
    unfold EQT at *
    rw [s1 9 (by decide), s1 10 (by decide), s1 11 (by decide), s1 12 (by decide), t1 5 (by decide), t1 6 (by decide), t1 7 (by decide), t1 8 (by decide)]
    exact hq
  · rw [t1 9 (by decide), s1 2 (by decide)]; exact hE.2.2.2.2.2.2
  · exact hR.2.2.1.fr (fun k k1 k2 => s1 k (by omega)) (by rw [s1 0 (by decide)]) (t1 17 (by decide)) (t0 26 (by decide) (by decide))
  · trivial
  · exact hR.2.2.2.2.fr (fun k k1 k2 => s1 k (by omega)) (fun k k1 k2 => t1 k (by omega))
theorem draw_act {σ τ : Mem} {d : Int} (hR : RW σ τ) (hd : 0 ≤ d ∧ d < 2147483648) : ACT σ τ (mupd σ 1 4 d) (mupd τ 0 12 d) :=
  ⟨hR.scal (fun k hk => mupd_ne _ hk) (fun k hk => mupd_ne _ (by omega)) (fun j _ hj => mupd_ri hj) (by rw [mupd_ri (by decide), mupd_ri (by decide)]; exact hR.2.1.2.2.1) (by rw [mupd_at, mupd_at]) (by rw [mupd_ri (by decide)]; exact hR.1.2.2.2.2.2.1) (by rw [mupd_at]; exact hd), fun k hk => mupd_ne _ (by omega), fun k hk => mupd_ne _ (by omega), fun j _ hj => mupd_ri hj⟩
theorem bells_act {σ τ : Mem} (hR : RW σ τ) (hb : τ 0 11 < 9999) : ACT σ τ (mupd σ 1 3 (τ 0 11 + 1)) (mupd τ 0 11 (τ 0 11 + 1)) := by
  have h11 := hR.1.2.2.2.2.2.1
  exact ⟨hR.scal (fun k hk => mupd_ne _ hk) (fun k hk => mupd_ne _ (by omega)) (fun j hj _ => mupd_ri hj) (by rw [mupd_at, mupd_at]) (by rw [mupd_ri (by decide), mupd_ri (by decide)]; exact hR.2.1.2.2.2.1) (by rw [mupd_at]; omega) (by rw [mupd_ri (by decide)]; exact hR.1.2.2.2.2.2.2), fun k hk => mupd_ne _ (by omega), fun k hk => mupd_ne _ (by omega), fun j hj _ => mupd_ri hj⟩
/-- a thing goes to another place -/
theorem place_act {σ τ : Mem} {t p : Int} (hR : RW σ τ) (ht : 0 ≤ t ∧ t < τ 0 9) (hp : PLC (τ 0 4) p) : ACT σ τ (mupd σ 10 t p) (mupd τ 6 t p) := by
  have hT := hR.th ht
  refine ACT.thing t hR (fun k hk => by rw [mupd_ne _ (by omega)]) (fun k hk => by rw [mupd_ne _ (by omega)]) (fun i k e k1 k2 => by simp [mupd, e]) (fun i k e k1 k2 => by simp [mupd, e]) ⟨?_, ?_⟩
  · have h1 := hT.1
    unfold TH at *
    simp only [mupd_rp (show (5 : Nat) ≠ 6 by decide), mupd_rp (show (0 : Nat) ≠ 6 by decide), mupd_rp (show (7 : Nat) ≠ 6 by decide), mupd_rp (show (8 : Nat) ≠ 6 by decide), mupd_at]
    exact ⟨h1.1, hp, h1.2.2.1, h1.2.2.2⟩
  · have h1 := hT.2
    unfold EQT at *
    simp only [mupd_rp (show (5 : Nat) ≠ 6 by decide), mupd_rp (show (7 : Nat) ≠ 6 by decide), mupd_rp (show (8 : Nat) ≠ 6 by decide), mupd_rp (show (9 : Nat) ≠ 10 by decide), mupd_rp (show (11 : Nat) ≠ 10 by decide), mupd_rp (show (12 : Nat) ≠ 10 by decide), mupd_at]
    exact ⟨h1.1, trivial, h1.2.2.1, h1.2.2.2⟩
theorem eat_act {σ τ : Mem} {t w : Int} (hR : RW σ τ) (ht : 0 ≤ t ∧ t < τ 0 9) (hw : 0 ≤ w ∧ w < 8) : ACT σ τ (mupd (mupd σ 10 t 30) 12 t w) (mupd (mupd τ 8 t w) 6 t 30) := by
  have hT := hR.th ht
  refine ACT.thing t hR (fun k hk => by rw [mupd_ne _ (by omega), mupd_ne _ (by omega)]) (fun k hk => by rw [mupd_ne _ (by omega), mupd_ne _ (by omega)]) (fun i k e k1 k2 => by simp [mupd, e]) (fun i k e k1 k2 => by simp [mupd, e]) ⟨?_, ?_⟩
  · have h1 := hT.1
    unfold TH at *
    simp only [mupd_rp (show (5 : Nat) ≠ 6 by decide), mupd_rp (show (5 : Nat) ≠ 8 by decide), mupd_rp (show (0 : Nat) ≠ 6 by decide), mupd_rp (show (0 : Nat) ≠ 8 by decide), mupd_rp (show (7 : Nat) ≠ 6 by decide), mupd_rp (show (7 : Nat) ≠ 8 by decide), mupd_rp (show (8 : Nat) ≠ 6 by decide), mupd_at]
    exact ⟨h1.1, Or.inr (Or.inr (Or.inr rfl)), h1.2.2.1, by omega⟩
  · have h1 := hT.2
    unfold EQT at *
    simp only [mupd_rp (show (5 : Nat) ≠ 6 by decide), mupd_rp (show (5 : Nat) ≠ 8 by decide), mupd_rp (show (7 : Nat) ≠ 6 by decide), mupd_rp (show (7 : Nat) ≠ 8 by decide), mupd_rp (show (8 : Nat) ≠ 6 by decide), mupd_rp (show (9 : Nat) ≠ 12 by decide), mupd_rp (show (9 : Nat) ≠ 10 by decide), mupd_rp (show (11 : Nat) ≠ 12 by decide), mupd_rp (show (11 : Nat) ≠ 10 by decide), mupd_rp (show (10 : Nat) ≠ 12 by decide), mupd_at]
    exact ⟨h1.1, trivial, h1.2.2.1, trivial⟩
theorem act_change {σ τ : Mem} {t c : Int} (hR : RW σ τ) (ht : 0 ≤ t ∧ t < τ 0 9) (hc : 0 ≤ c ∧ c < τ 0 4) (hp : τ 6 t = 10 + c) : DSIM M_X4_change [mr 1, mi t, mi c] M_X9_ring [mr 0, mi t, mi c] σ τ (fun r σ' τ' => ACT σ τ σ' τ' ∧ (r = 0 ∨ r = 1) ∧ τ' 0 11 = τ 0 11) := by
  have hT := hR.th ht
  have hC := hR.co hc
  have hn := hR.nc
  have hm := hR.nt.1
  have hc4 : 0 ≤ c ∧ c < 4 := by omega
  have ht8 : 0 ≤ t ∧ t < 8 := by omega
  have ek := hT.2.1
  have hw := wr_in hC.1
  have eh : σ 7 c = τ 3 c := hC.2.2.2.1
  have h3 := hC.1.2.2.1
  have hd := hR.1.2.2.2.2.2.2
  have ed : σ 1 4 = τ 0 12 := hR.2.1.2.2.2.1
  by_cases k1 : τ 5 t = 1
  · refine ⟨0, _, _, ?_, ?_, eat_act hR ht hw, Or.inl rfl, by rw [mupd_rp (by decide), mupd_rp (by decide)]⟩
    · apply e_X4_change_1
      rw [ek]
      refine ⟨ht8, fun z => absurd k1 z, fun _ => ⟨ht8, c_wr hR hc (mupd_ne _ (by decide)) (mupd_ne _ (by decide)) ⟨ht8, rfl, rfl⟩⟩⟩
    · apply e_X9_ring_0
      exact ⟨ht8, fun z => absurd k1 z, fun _ => c_wrM hC.1 hc4 (fun _ _ _ => rfl) ⟨ht8, ht8, rfl, rfl⟩⟩
  by_cases k3 : τ 5 t = 3
  · have hnx : (c + 1) % τ 0 4 = if τ 0 4 ≤ c + 1 then 0 else c + 1 := by
      rcases (show τ 0 4 = 1 ∨ τ 0 4 = 2 ∨ τ 0 4 = 3 ∨ τ 0 4 = 4 by omega) with e | e | e | e <;> rw [e] <;> split <;> omega
    have hnr : 0 ≤ (c + 1) % τ 0 4 ∧ (c + 1) % τ 0 4 < τ 0 4 := ⟨Int.emod_nonneg _ (by omega), Int.emod_lt_of_pos _ (by omega)⟩
    refine ⟨0, mupd σ 10 t (10 + (c + 1) % τ 0 4), mupd τ 6 t (10 + (c + 1) % τ 0 4), ?_, ?_, place_act hR ht (Or.inr (Or.inl (by omega))), Or.inl rfl, by rw [mupd_rp (by decide)]⟩
    · apply e_X4_change_1
      rw [ek, hn.2, jadd_eq (a := c) (by omega) (by omega)]
      refine ⟨ht8, fun _ => ⟨ht8, fun z => absurd k3 z, fun _ => ⟨fun z => ?_, fun z => ?_⟩⟩, fun z => absurd z k1⟩
      · apply b_X4_change_1_86
        rw [jadd_eq (by omega) (by omega), hnx, if_pos z]
        exact ⟨ht8, rfl, rfl⟩
      · apply b_X4_change_1_86
        rw [jadd_eq (by omega) (by omega), hnx, if_neg z]
        exact ⟨ht8, rfl, rfl⟩
    · apply e_X9_ring_0
      rw [jadd_eq (a := c) (by omega) (by omega), jrem_eq (a := c + 1) (by omega) (by omega) (by omega) (by omega), jadd_eq (a := 10) (b := (c + 1) % τ 0 4) (by omega) (by omega)]
      exact ⟨ht8, fun _ => ⟨ht8, fun z => absurd k3 z, fun _ => ⟨by omega, ht8, rfl, rfl⟩⟩, fun z => absurd z k1⟩
  by_cases h0 : τ 3 c = 0
  · refine DSIM.same 0 ?_ ?_ ⟨ACT.rf hR, Or.inl rfl, rfl⟩
    · apply e_X4_change_1
      rw [ek, eh]
      exact ⟨ht8, fun _ => ⟨ht8, fun _ => ⟨hc4, fun _ => ⟨rfl, rfl⟩, fun z => absurd h0 z⟩, fun z => absurd z k3⟩, fun z => absurd z k1⟩
    · apply e_X9_ring_0
      exact ⟨ht8, fun _ => ⟨ht8, fun _ => ⟨hc4, fun z => absurd h0 z, fun _ => ⟨rfl, rfl⟩⟩, fun z => absurd z k3⟩, fun z => absurd z k1⟩
  · have hnd := nxd_in (τ 0 12)
    have eq1 : jrem (jdiv (nxd (τ 0 12)) 65536) 4 = nxd (τ 0 12) / 65536 % 4 := by
      rw [jdiv_eq (by omega) (by omega) (by omega) (by omega), jrem_eq (by omega) (by omega) (by omega) (by omega)]
    have hA := draw_act hR hnd
    by_cases hf : nxd (τ 0 12) / 65536 % 4 < τ 3 c
    · have hA2 := place_act (t := t) (p := 20 + c) hA.1 (by rw [mupd_ri (by decide)]; exact ht) (by rw [mupd_ri (by decide)]; exact Or.inr (Or.inr (Or.inl (by omega))))
      refine ⟨1, _, _, ?_, ?_, hA.tr hA2, Or.inr rfl, by rw [mupd_rp (by decide), mupd_ri (by decide)]⟩
      · apply e_X4_change_1
        rw [ek, eh]
        refine ⟨ht8, fun _ => ⟨ht8, fun _ => ⟨hc4, fun z => absurd z h0, fun _ => ⟨hc4, ?_⟩⟩, fun z => absurd z k3⟩, fun z => absurd z k1⟩
        apply e_X4_drawsBelow_1
        rw [ed, nxdC hd, eq1]
        refine ⟨fun z => absurd hf (by omega), fun _ => bn1 ⟨ht8, ?_⟩⟩
        rw [jadd_eq (by omega) (by omega)]
        exact ⟨rfl, rfl⟩
      · apply e_X9_ring_0
        rw [nxdM hd, eq1]
        refine ⟨ht8, fun _ => ⟨ht8, fun _ => ⟨hc4, fun _ => ⟨hc4, fun z => absurd hf (by omega), fun _ => ?_⟩, fun z => absurd z h0⟩, fun z => absurd z k3⟩, fun z => absurd z k1⟩
        apply b_X9_ring_0_117
        rw [jadd_eq (by omega) (by omega)]
        exact ⟨fun z => absurd z (by decide), fun _ => ⟨ht8, Or.inr rfl, rfl, rfl⟩⟩
    · refine ⟨0, _, _, ?_, ?_, hA, Or.inl rfl, mupd_ri (by decide)⟩
      · apply e_X4_change_1
        rw [ek, eh]
        refine ⟨ht8, fun _ => ⟨ht8, fun _ => ⟨hc4, fun z => absurd z h0, fun _ => ⟨hc4, ?_⟩⟩, fun z => absurd z k3⟩, fun z => absurd z k1⟩
        apply e_X4_drawsBelow_1
        rw [ed, nxdC hd, eq1]
        exact ⟨fun _ => bn0 ⟨rfl, rfl⟩, fun z => absurd (by omega) hf⟩
      · apply e_X9_ring_0
        rw [nxdM hd, eq1]
        refine ⟨ht8, fun _ => ⟨ht8, fun _ => ⟨hc4, fun _ => ⟨hc4, fun _ => ?_, fun z => absurd (by omega) hf⟩, fun z => absurd z h0⟩, fun z => absurd z k3⟩, fun z => absurd z k1⟩
        apply b_X9_ring_0_117
        exact ⟨fun _ => ⟨ht8, ht8, Or.inl rfl, rfl, mupd_self rfl⟩, fun z => absurd rfl z⟩
/-- all coats go on: the places in the turns -/
def nxt (z u : Int) : Int := if z ≤ u + 1 then 0 else u + 1
def tuC (σ : Mem) (m : Int) : Mem := fun k c => if k = 6 ∧ 0 ≤ c ∧ c < m then nxt (σ 5 c) (σ 6 c) else σ k c
def tuM (τ : Mem) (m : Int) : Mem := fun k c => if k = 2 ∧ 0 ≤ c ∧ c < m then nxt (τ 1 c) (τ 2 c) else τ k c
theorem tu_0 (σ : Mem) : tuC σ 0 = σ := by
  funext k c
  unfold tuC
  rw [if_neg (by omega)]
theorem tuM_0 (τ : Mem) : tuM τ 0 = τ := by
  funext k c
  unfold tuM
  rw [if_neg (by omega)]
theorem tu_s (σ : Mem) {m : Int} (hm : 0 ≤ m) : mupd (tuC σ m) 6 m (nxt (σ 5 m) (σ 6 m)) = tuC σ (m + 1) := by
  funext k c
  unfold mupd tuC
  by_cases h : k = 6 ∧ c = m
  · rw [if_pos h, if_pos (by omega), h.2]
  · rw [if_neg h]
    by_cases h2 : k = 6 ∧ 0 ≤ c ∧ c < m
    · rw [if_pos h2, if_pos (by omega)]
    · rw [if_neg h2, if_neg (by omega)]
theorem tuM_s (τ : Mem) {m : Int} (hm : 0 ≤ m) : mupd (tuM τ m) 2 m (nxt (τ 1 m) (τ 2 m)) = tuM τ (m + 1) := by
  funext k c
  unfold mupd tuM
  by_cases h : k = 2 ∧ c = m
  · rw [if_pos h, if_pos (by omega), h.2]
  · rw [if_neg h]
    by_cases h2 : k = 2 ∧ 0 ≤ c ∧ c < m
    · rw [if_pos h2, if_pos (by omega)]
    · rw [if_neg h2, if_neg (by omega)]
theorem tu_ne {σ : Mem} {m : Int} (k : Nat) (h : k ≠ 6) : tuC σ m k = σ k := by
  funext c
  unfold tuC
  rw [if_neg (fun z => h z.1)]
theorem tuM_ne {τ : Mem} {m : Int} (k : Nat) (h : k ≠ 2) : tuM τ m k = τ k := by
  funext c
  unfold tuM
  rw [if_neg (fun z => h z.1)]
theorem c_turnAll {σ τ : Mem} {Q : Int → Mem → Prop} (hR : RW σ τ) (hQ : Q 0 (tuC σ (τ 0 4))) : HT GC M_X0_turnAll [mr 3] σ Q := by
  obtain ⟨h4, e4⟩ := hR.nc
  have key : ∀ (n k : Nat), (k : Int) + n = τ 0 4 → WP GC M_X0_turnAll 2 [some (mr 3), some (mi (k : Int))] [] (tuC σ k) Q := by
    intro n
    induction n with
    | zero =>
      intro k hk
      apply b_X0_turnAll_3_2
      rw [tu_ne 3 (by decide), e4]
      exact ⟨fun _ => by rw [show (k : Int) = τ 0 4 by omega]; exact hQ, fun z => absurd (by omega) z⟩
    | succ n ih =>
      intro k hk
      have hc : 0 ≤ (k : Int) ∧ (k : Int) < τ 0 4 := by omega
      have hC := hR.co hc
      have hz := hC.1.1
      have hu := hC.1.2.1
      have ek : ((k + 1 : Nat) : Int) = (k : Int) + 1 := by omega
      have h2 := ih (k + 1) (by omega)
      rw [ek, ← tu_s σ hc.1] at h2
      have e6 : (tuC σ k) 6 k = σ 6 k := by unfold tuC; rw [if_neg (by omega)]
      apply b_X0_turnAll_3_2
      rw [tu_ne 3 (by decide), e4, tu_ne 5 (by decide), e6, jadd_eq (by rw [hC.2.2.1]; omega) (by rw [hC.2.2.1]; omega)]
      refine ⟨fun z => absurd z (by omega), fun _ => ⟨by omega, by omega, fun z => ?_, fun z => ⟨by omega, ?_⟩⟩⟩
      · apply b_X0_turnAll_3_44
        rw [jadd_eq (by omega) (by omega)]
        unfold nxt at h2
        rw [if_pos z] at h2
        exact ⟨by omega, h2⟩
      · apply b_X0_turnAll_3_44
        rw [jadd_eq (by omega) (by omega)]
        unfold nxt at h2
        rw [if_neg z] at h2
        exact ⟨by omega, h2⟩
  apply e_X0_turnAll_3
  have h := key (τ 0 4).toNat 0 (by omega)
  rw [show ((0 : Nat) : Int) = 0 from rfl, tu_0] at h
  exact h
theorem nxt_mod {z u : Int} (hz : 1 ≤ z ∧ z ≤ 4) (hu : 0 ≤ u ∧ u < z) : (u + 1) % z = nxt z u := by
  unfold nxt
  rcases (show z = 1 ∨ z = 2 ∨ z = 3 ∨ z = 4 by omega) with e | e | e | e <;> subst e <;> split <;> omega
theorem nxt_in {z u : Int} (hz : 1 ≤ z) (hu : 0 ≤ u) : 0 ≤ nxt z u ∧ nxt z u < z := by
  unfold nxt
  split <;> omega
theorem l_turnM {τ : Mem} {x : Int} {Q : Int → Mem → Prop} (hV : VAL τ) (hQ : WP GM M_X9_bell 114 [some (mr 0), some (mi x), some (mi 0)] [] (tuM τ (τ 0 4)) Q) : WP GM M_X9_bell 77 [some (mr 0), some (mi x), some (mi 0)] [] τ Q := by
  have h4 := hV.1
  have key : ∀ (n k : Nat), (k : Int) + n = τ 0 4 → WP GM M_X9_bell 77 [some (mr 0), some (mi x), some (mi (k : Int))] [] (tuM τ k) Q := by
    intro n
    induction n with
    | zero =>
      intro k hk
      apply b_X9_bell_0_77
      rw [tuM_ne 0 (by decide)]
      exact ⟨fun _ => by rw [show (k : Int) = τ 0 4 by omega]; exact hQ, fun z => absurd (by omega) z⟩
    | succ n ih =>
      intro k hk
      have hc : 0 ≤ (k : Int) ∧ (k : Int) < τ 0 4 := by omega
      have hC := hV.2.2.1 k hc.1 hc.2
      have hz := hC.1
      have hu := hC.2.1
      have ek : ((k + 1 : Nat) : Int) = (k : Int) + 1 := by omega
      have h2 := ih (k + 1) (by omega)
      rw [ek, ← tuM_s τ hc.1] at h2
      have e2 : (tuM τ k) 2 k = τ 2 k := by unfold tuM; rw [if_neg (by omega)]
      apply b_X9_bell_0_77
      rw [tuM_ne 0 (by decide), tuM_ne 1 (by decide), e2, jadd_eq (a := τ 2 k) (by omega) (by omega), jrem_eq (by omega) (by omega) (by omega) (by omega), nxt_mod hz hu, jadd_eq (by omega) (by omega)]
      exact ⟨fun z => absurd z (by omega), fun _ => ⟨by omega, by omega, by omega, by omega, h2⟩⟩
  have h := key (τ 0 4).toNat 0 (by omega)
  rw [show ((0 : Nat) : Int) = 0 from rfl, tuM_0] at h
  exact h
theorem turn_act {σ τ : Mem} (hR : RW σ τ) : ACT σ τ (tuC σ (τ 0 4)) (tuM τ (τ 0 4)) := by
  refine ⟨hR.coats (fun k hk => tu_ne k (by omega)) (fun k hk => tuM_ne k (by omega)) (by rw [tu_ne 3 (by decide)]) (fun c a b => ?_), fun k hk => tu_ne k (by omega), fun k hk => tuM_ne k (by omega), fun j _ _ => by rw [tuM_ne 0 (by decide)]⟩
  have hC := hR.co ⟨a, b⟩
  have e2 : (tuM τ (τ 0 4)) 2 c = nxt (τ 1 c) (τ 2 c) := by unfold tuM; rw [if_pos ⟨rfl, a, b⟩]
  have e6 : (tuC σ (τ 0 4)) 6 c = nxt (σ 5 c) (σ 6 c) := by unfold tuC; rw [if_pos ⟨rfl, a, b⟩]
  have hx := nxt_in (z := τ 1 c) (u := τ 2 c) hC.1.1.1 hC.1.2.1.1
  obtain ⟨c1, c2⟩ := hC
  unfold CO EQC at *
  rw [e2, e6, tuM_ne 1 (by decide), tuM_ne 3 (by decide), tuM_ne 4 (by decide), tu_ne 4 (by decide), tu_ne 5 (by decide), tu_ne 7 (by decide)]
  exact ⟨⟨c1.1, hx, c1.2.2⟩, c2.1, by rw [c2.1, c2.2.1], c2.2.2⟩
/-- is a thing in a pocket: which coat's -/
theorem pocket {nc p : Int} (hn : 0 ≤ nc ∧ nc ≤ 4) (h : PLC nc p) : (10 ≤ p ∧ p < 20 ↔ 10 ≤ p ∧ p ≤ 13) ∧ (10 ≤ p ∧ p < 20 → 0 ≤ p - 10 ∧ p - 10 < nc) := by
  unfold PLC at h
  omega
theorem c_inPocket {σ : Mem} {t : Int} {Q : Int → Mem → Prop} (ht : 0 ≤ t ∧ t < 8) (h1 : 10 ≤ σ 10 t ∧ σ 10 t < 20 → Q 1 σ) (h0 : ¬ (10 ≤ σ 10 t ∧ σ 10 t < 20) → Q 0 σ) : HT GC M_X6_inPocket [mr 8, mi t] σ Q := by
  apply e_X6_inPocket_8
  exact ⟨ht, fun z => h0 (by omega), fun z => ⟨ht, fun z2 => h0 (by omega), fun z2 => h1 (by omega)⟩⟩
/-- behind the bell: all that lies in pockets is read -/
theorem l_bell3 {x : Int} : ∀ (n k : Nat) (σ τ : Mem), RW σ τ → τ 0 11 < 9999 → ((k : Int) + n = τ 0 9) → ∃ (σ' τ' : Mem), WP GC M_X4_ring 74 [some (mr 1), some (mi x), some (mi (k : Int))] [] σ (fun a s => a = x ∧ s = σ') ∧ WP GM M_X9_bell 114 [some (mr 0), some (mi x), some (mi (k : Int))] [] τ (fun a s => a = x ∧ s = τ') ∧ ACT σ τ σ' τ'
  | 0, k, σ, τ, hR, hb, hk => by
    obtain ⟨h8, e8⟩ := hR.nt
    have h11 := hR.1.2.2.2.2.2.1
    have e11 : σ 1 3 = τ 0 11 := hR.2.1.2.2.1
    refine ⟨_, _, ?_, ?_, bells_act hR hb⟩
    · apply b_X4_ring_1_74
      rw [e11, jadd_eq (by omega) (by omega)]
      exact ⟨fun _ => ⟨rfl, rfl⟩, fun z => absurd (by omega) z⟩
    · apply b_X9_bell_0_114
      rw [jadd_eq (by omega) (by omega)]
      exact ⟨fun _ => ⟨rfl, rfl⟩, fun z => absurd (by omega) z⟩
  | n + 1, k, σ, τ, hR, hb, hk => by
    obtain ⟨h4, e4⟩ := hR.nc
    obtain ⟨h8, e8⟩ := hR.nt
    have ht : 0 ≤ (k : Int) ∧ (k : Int) < τ 0 9 := by omega
    have ht8 : 0 ≤ (k : Int) ∧ (k : Int) < 8 := by omega
    have hT := hR.th ht
    have ep := hT.2.2.1
    have hpk := pocket h4 hT.1.2.1
    have ek : ((k + 1 : Nat) : Int) = (k : Int) + 1 := by omega
    by_cases h : 10 ≤ τ 6 k ∧ τ 6 k < 20
    · have hc := hpk.2 h
      have hA := come_act hR ht hc
      rw [mupd_self (show σ 10 k = 10 + (τ 6 k - 10) by rw [ep]; omega)] at hA
      have e0 : ∀ j, (cmM τ k (τ 6 k - 10)) 0 j = τ 0 j := fun j => by unfold cmM; rw [mupd_rp (by decide), mupd_rp (by decide)]
      obtain ⟨σ', τ', h1, h2, h3⟩ := l_bell3 (x := x) n (k + 1) _ _ hA.1 (by rw [e0]; exact hb) (by rw [e0]; omega)
      rw [ek] at h1 h2
      refine ⟨σ', τ', ?_, ?_, hA.tr h3⟩
      · apply b_X4_ring_1_74
        refine ⟨fun z => absurd z (by omega), fun _ => c_inPocket ht8 (fun _ => br1 ⟨ht8, ?_⟩) (fun z => absurd (by rw [ep]; exact h) z)⟩
        rw [ep, jsub_eq (by omega) (by omega)]
        refine c_wr hR hc rfl rfl (c_readBy ht8 ?_)
        apply b_X4_ring_1_123
        rw [jadd_eq (by omega) (by omega)]
        exact h1
      · apply b_X9_bell_0_114
        refine ⟨fun z => absurd z (by omega), fun _ => ⟨ht8, c_in (fun _ => br1 ⟨ht8, ?_⟩) (fun z => absurd (hpk.1.mp h) z)⟩⟩
        rw [jsub_eq (by omega) (by omega)]
        refine c_come ht8 (by omega) (hR.co hc).1 ?_
        apply b_X9_bell_0_155
        rw [jadd_eq (by omega) (by omega)]
        exact h2
    · obtain ⟨σ', τ', h1, h2, h3⟩ := l_bell3 (x := x) n (k + 1) σ τ hR hb (by omega)
      rw [ek] at h1 h2
      refine ⟨σ', τ', ?_, ?_, h3⟩
      · apply b_X4_ring_1_74
        refine ⟨fun z => absurd z (by omega), fun _ => c_inPocket ht8 (fun z => absurd (by rw [ep] at z; exact z) h) (fun _ => br0 ?_)⟩
        apply b_X4_ring_1_123
        rw [jadd_eq (by omega) (by omega)]
        exact h1
      · apply b_X9_bell_0_114
        refine ⟨fun z => absurd z (by omega), fun _ => ⟨ht8, c_in (fun z => absurd (hpk.1.mpr z) h) (fun _ => br0 ?_)⟩⟩
        apply b_X9_bell_0_155
        rw [jadd_eq (by omega) (by omega)]
        exact h2
/-- ahead of the bell: what a bell does to all that lies in pockets, then the turns, then the reading -/
theorem l_bell1 : ∀ (n k : Nat) (σ τ : Mem) (x : Int), RW σ τ → τ 0 11 < 9999 → ((k : Int) + n = τ 0 9) → (0 ≤ x ∧ x ≤ k) → ∃ (r : Int) (σ' τ' : Mem), WP GC M_X4_ring 17 [some (mr 1), some (mi x), some (mi (k : Int))] [] σ (fun a s => a = r ∧ s = σ') ∧ WP GM M_X9_bell 17 [some (mr 0), some (mi x), some (mi (k : Int))] [] τ (fun a s => a = r ∧ s = τ') ∧ ACT σ τ σ' τ' ∧ 0 ≤ r
  | 0, k, σ, τ, x, hR, hb, hk, hx => by
    obtain ⟨h8, e8⟩ := hR.nt
    have hA := turn_act hR
    have e0 : ∀ j, (tuM τ (τ 0 4)) 0 j = τ 0 j := fun j => by rw [tuM_ne 0 (by decide)]
    obtain ⟨m, hm⟩ := nn_of h8.1
    obtain ⟨σ', τ', h1, h2, h3⟩ := l_bell3 (x := x) m 0 _ _ hA.1 (by rw [e0]; exact hb) (by rw [e0]; omega)
    refine ⟨x, σ', τ', ?_, ?_, hA.tr h3, hx.1⟩
    · apply b_X4_ring_1_17
      exact ⟨fun _ => c_turnAll hR h1, fun z => absurd (by omega) z⟩
    · apply b_X9_bell_0_17
      exact ⟨fun _ => l_turnM hR.1 h2, fun z => absurd (by omega) z⟩
  | n + 1, k, σ, τ, x, hR, hb, hk, hx => by
    obtain ⟨h4, e4⟩ := hR.nc
    obtain ⟨h8, e8⟩ := hR.nt
    have ht : 0 ≤ (k : Int) ∧ (k : Int) < τ 0 9 := by omega
    have ht8 : 0 ≤ (k : Int) ∧ (k : Int) < 8 := by omega
    have hT := hR.th ht
    have ep := hT.2.2.1
    have hpk := pocket h4 hT.1.2.1
    have ek : ((k + 1 : Nat) : Int) = (k : Int) + 1 := by omega
    by_cases h : 10 ≤ τ 6 k ∧ τ 6 k < 20
    · have hc := hpk.2 h
      obtain ⟨r1, σ1, τ1, g1, g2, hA, h01, e110⟩ := act_change hR ht hc (by omega)
      have e9 : τ1 0 9 = τ 0 9 := hA.2.2.2 9 (by decide) (by decide)
      have e11 : τ1 0 11 < 9999 := by rw [e110]; exact hb
      obtain ⟨r, σ', τ', h1, h2, h3, h0⟩ := l_bell1 n (k + 1) σ1 τ1 (x + r1) hA.1 e11 (by rw [e9]; omega) (by omega)
      rw [ek] at h1 h2
      refine ⟨r, σ', τ', ?_, ?_, hA.tr h3, h0⟩
      · apply b_X4_ring_1_17
        refine ⟨fun z => absurd z (by omega), fun _ => c_inPocket ht8 (fun _ => br1 ⟨ht8, ?_⟩) (fun z => absurd (by rw [ep]; exact h) z)⟩
        rw [ep, jsub_eq (by omega) (by omega)]
        refine HT.mono g1 (fun a s _ _ q => ?_)
        obtain ⟨rfl, rfl⟩ := q
        apply b_X4_ring_1_59
        rw [jadd_eq (by omega) (by omega), jadd_eq (by omega) (by omega)]
        exact h1
      · apply b_X9_bell_0_17
        refine ⟨fun z => absurd z (by omega), fun _ => ⟨ht8, c_in (fun _ => br1 ⟨ht8, ?_⟩) (fun z => absurd (hpk.1.mp h) z)⟩⟩
        rw [jsub_eq (by omega) (by omega)]
        refine HT.mono g2 (fun a s _ _ q => ?_)
        obtain ⟨rfl, rfl⟩ := q
        rcases h01 with e | e
        · rw [e]
          refine br0 ?_
          apply b_X9_bell_0_67
          apply b_X9_bell_0_69
          rw [jadd_eq (by omega) (by omega), jadd_eq (by omega) (by omega)]
          rw [e] at h2
          exact h2
        · rw [e]
          refine br1 ?_
          apply b_X9_bell_0_67
          apply b_X9_bell_0_69
          rw [jadd_eq (by omega) (by omega), jadd_eq (by omega) (by omega)]
          rw [e] at h2
          exact h2
    · obtain ⟨r, σ', τ', h1, h2, h3, h0⟩ := l_bell1 n (k + 1) σ τ x hR hb (by omega) (by omega)
      rw [ek] at h1 h2
      refine ⟨r, σ', τ', ?_, ?_, h3, h0⟩
      · apply b_X4_ring_1_17
        refine ⟨fun z => absurd z (by omega), fun _ => c_inPocket ht8 (fun z => absurd (by rw [ep] at z; exact z) h) (fun _ => br0 ?_)⟩
        apply b_X4_ring_1_59
        rw [jadd_eq (by omega) (by omega)]
        exact h1
      · apply b_X9_bell_0_17
        refine ⟨fun z => absurd z (by omega), fun _ => ⟨ht8, c_in (fun z => absurd (hpk.1.mpr z) h) (fun _ => br0 ?_)⟩⟩
        apply b_X9_bell_0_69
        rw [jadd_eq (by omega) (by omega)]
        exact h2
theorem act_bell {σ τ : Mem} (hR : RW σ τ) : DSIM M_X4_ring [mr 1] M_X9_bell [mr 0] σ τ (fun _ => ACT σ τ) := by
  have h11 := hR.1.2.2.2.2.2.1
  have e11 : σ 1 3 = τ 0 11 := hR.2.1.2.2.1
  obtain ⟨h8, e8⟩ := hR.nt
  by_cases hb : τ 0 11 < 9999
  · obtain ⟨m, hm⟩ := nn_of h8.1
    obtain ⟨r, σ', τ', h1, h2, h3, -⟩ := l_bell1 m 0 σ τ 0 hR hb (by omega) (by omega)
    refine ⟨r, σ', τ', ?_, ?_, h3⟩
    · apply e_X4_ring_1
      rw [e11]
      exact ⟨fun _ => h1, fun z => absurd hb z⟩
    · apply e_X9_bell_0
      exact ⟨fun _ => h2, fun z => absurd z (by omega)⟩
  · refine DSIM.same (-3) ?_ ?_ (ACT.rf hR)
    · apply e_X4_ring_1
      rw [e11]
      exact ⟨fun z => absurd z hb, fun _ => ⟨rfl, rfl⟩⟩
    · apply e_X9_bell_0
      exact ⟨fun z => absurd (by omega) z, fun _ => ⟨rfl, rfl⟩⟩
theorem sim_bell {σ τ : Mem} (hR : RR σ τ) : SIM M_X8_bell M_X9_bell [mr 0] σ τ RR := by
  obtain ⟨r, σ', τ', h1, h2, h3⟩ := act_bell hR.w
  exact ⟨r, (· = σ'), (· = τ'), e_X8_bell_0 h1, h2, fun _ _ _ _ a b => by rw [a, b]; exact h3.rr hR⟩
