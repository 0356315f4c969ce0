/-! numbers: what the operations are where nothing runs over; sets as bits -/
theorem jadd_eq {a b : Int} (h1 : -2147483648 ≤ a + b) (h2 : a + b < 2147483648) : jadd a b = a + b := by
  unfold jadd; rw [← Int32.ofInt_add]; exact r32_lo ⟨h1, h2⟩
theorem jsub_eq {a b : Int} (h1 : -2147483648 ≤ a - b) (h2 : a - b < 2147483648) : jsub a b = a - b := by
  unfold jsub; rw [← Int32.ofInt_sub]; exact r32_lo ⟨h1, h2⟩
theorem jmul_eq {a b : Int} (h1 : -2147483648 ≤ a * b) (h2 : a * b < 2147483648) : jmul a b = a * b := by
  unfold jmul; rw [← Int32.ofInt_mul]; exact r32_lo ⟨h1, h2⟩
theorem jladd_eq {a b : Int} (h1 : -9223372036854775808 ≤ a + b) (h2 : a + b < 9223372036854775808) : jladd a b = a + b := by
  unfold jladd; rw [← Int64.ofInt_add]; exact r64_lo ⟨h1, h2⟩
theorem jlsub_eq {a b : Int} (h1 : -9223372036854775808 ≤ a - b) (h2 : a - b < 9223372036854775808) : jlsub a b = a - b := by
  unfold jlsub; rw [← Int64.ofInt_sub]; exact r64_lo ⟨h1, h2⟩
theorem jlmul_eq {a b : Int} (h1 : -9223372036854775808 ≤ a * b) (h2 : a * b < 9223372036854775808) : jlmul a b = a * b := by
  unfold jlmul; rw [← Int64.ofInt_mul]; exact r64_lo ⟨h1, h2⟩
theorem jdiv_eq {a b : Int} (h0 : 0 ≤ a) (h1 : a < 2147483648) (h2 : 0 < b) (h3 : b < 2147483648) : jdiv a b = a / b := by
  unfold jdiv
  rw [Int32.toInt_div_of_ne_right _ _ (fun z => by have e := congrArg Int32.toInt z; rw [r32_lo ⟨by omega, h3⟩] at e; have e2 : (-1 : Int32).toInt = -1 := by decide
                                                   omega), r32_lo ⟨by omega, h1⟩, r32_lo ⟨by omega, h3⟩]
  exact Int.tdiv_eq_ediv_of_nonneg h0
theorem jrem_eq {a b : Int} (h0 : 0 ≤ a) (h1 : a < 2147483648) (h2 : 0 < b) (h3 : b < 2147483648) : jrem a b = a % b := by
  have e : Int32.ofInt a / Int32.ofInt b = Int32.ofInt (a / b) := by
    have h := jdiv_eq h0 h1 h2 h3
    unfold jdiv at h
    rw [← h, Int32.ofInt_toInt]
  unfold jrem
  rw [e, ← Int32.ofInt_mul, ← Int32.ofInt_sub]
  have e2 : a - a / b * b = a % b := by rw [Int.emod_def, Int.mul_comm]
  rw [e2]
  have h4 := Int.emod_nonneg a (show b ≠ 0 by omega)
  have h5 := Int.emod_lt_of_pos a h2
  exact r32_lo ⟨by omega, by omega⟩
theorem ofInt_nI (n : Nat) : Int32.ofInt (n : Int) = nI n := Int32.ofInt_eq_ofNat
theorem ofInt_lN (n : Nat) : Int64.ofInt (n : Int) = lN n := Int64.ofInt_eq_ofNat
theorem zz_and (a b : Nat) : nI a &&& nI b = nI (a &&& b) := by
  apply Int32.toBitVec_inj.1
  show BitVec.ofNat 32 a &&& BitVec.ofNat 32 b = BitVec.ofNat 32 (a &&& b)
  apply BitVec.eq_of_getLsbD_eq
  intro i hi
  simp [hi]
theorem zz_or (a b : Nat) : nI a ||| nI b = nI (a ||| b) := by
  apply Int32.toBitVec_inj.1
  show BitVec.ofNat 32 a ||| BitVec.ofNat 32 b = BitVec.ofNat 32 (a ||| b)
  apply BitVec.eq_of_getLsbD_eq
  intro i hi
  simp [hi]
theorem zz_xor (a b : Nat) : nI a ^^^ nI b = nI (a ^^^ b) := by
  apply Int32.toBitVec_inj.1
  show BitVec.ofNat 32 a ^^^ BitVec.ofNat 32 b = BitVec.ofNat 32 (a ^^^ b)
  apply BitVec.eq_of_getLsbD_eq
  intro i hi
  simp [hi]
theorem zz_sl : ∀ n, n < 32 → ((nI n &&& 31).toBitVec.smod 32).toNat = n := by decide +kernel
theorem jand_nat (a b : Nat) (ha : a < 2 ^ 31) : jand a b = ((a &&& b : Nat) : Int) := by
  unfold jand
  rw [ofInt_nI, ofInt_nI, zz_and, nI_toInt (Nat.lt_of_le_of_lt Nat.and_le_left ha)]
theorem jor_nat (a b : Nat) (ha : a < 2 ^ 31) (hb : b < 2 ^ 31) : jor a b = ((a ||| b : Nat) : Int) := by
  unfold jor
  rw [ofInt_nI, ofInt_nI, zz_or, nI_toInt (Nat.or_lt_two_pow ha hb)]
theorem jxor_nat (a b : Nat) (ha : a < 2 ^ 31) (hb : b < 2 ^ 31) : jxor a b = ((a ^^^ b : Nat) : Int) := by
  unfold jxor
  rw [ofInt_nI, ofInt_nI, zz_xor, nI_toInt (Nat.xor_lt_two_pow ha hb)]
theorem jshl_nat (a k : Nat) (hk : k < 32) (h : a * 2 ^ k < 2 ^ 31) : jshl a k = ((a * 2 ^ k : Nat) : Int) := by
  unfold jshl
  rw [ofInt_nI, ofInt_nI, pk_shlN _ k (zz_sl k hk) (by omega), nI_toInt h]
theorem jshr_nat (a k : Nat) (hk : k < 32) (h : a < 2 ^ 31) : jshr a k = ((a / 2 ^ k : Nat) : Int) := by
  unfold jshr
  rw [ofInt_nI, ofInt_nI, pk_shrN h _ k (zz_sl k hk), nI_toInt (Nat.lt_of_le_of_lt (Nat.div_le_self _ _) h)]
/-- bit k of a set -/
def tb (a k : Int) : Bool := a.toNat.testBit k.toNat
theorem nn_of {a : Int} (h : 0 ≤ a) : ∃ n : Nat, a = n := ⟨a.toNat, by omega⟩
abbrev N31 (a : Int) : Prop := 0 ≤ a ∧ a < 2147483648
theorem jor_N {a b : Int} (ha : N31 a) (hb : N31 b) : N31 (jor a b) := by
  obtain ⟨n, rfl⟩ := nn_of ha.1
  obtain ⟨m, rfl⟩ := nn_of hb.1
  rw [jor_nat n m (by omega) (by omega)]
  have := Nat.or_lt_two_pow (x := n) (y := m) (n := 31) (by omega) (by omega)
  exact ⟨by omega, by omega⟩
theorem jor_lt {a b : Int} (p : Nat) (hp : p ≤ 31) (ha : 0 ≤ a ∧ a < ((2 ^ p : Nat) : Int)) (hb : 0 ≤ b ∧ b < ((2 ^ p : Nat) : Int)) : 0 ≤ jor a b ∧ jor a b < ((2 ^ p : Nat) : Int) := by
  obtain ⟨n, rfl⟩ := nn_of ha.1
  obtain ⟨m, rfl⟩ := nn_of hb.1
  have hle : 2 ^ p ≤ 2 ^ 31 := Nat.pow_le_pow_right (by decide) hp
  rw [jor_nat n m (by omega) (by omega)]
  have := Nat.or_lt_two_pow (x := n) (y := m) (n := p) (by omega) (by omega)
  exact ⟨by omega, by omega⟩
theorem jor_256 {a b : Int} (ha : 0 ≤ a ∧ a < 256) (hb : 0 ≤ b ∧ b < 256) : 0 ≤ jor a b ∧ jor a b < 256 := jor_lt 8 (by decide) ha hb
theorem jor_16 {a b : Int} (ha : 0 ≤ a ∧ a < 16) (hb : 0 ≤ b ∧ b < 16) : 0 ≤ jor a b ∧ jor a b < 16 := jor_lt 4 (by decide) ha hb
theorem tb_or {a b : Int} (ha : N31 a) (hb : N31 b) (k : Int) : tb (jor a b) k = (tb a k || tb b k) := by
  obtain ⟨n, rfl⟩ := nn_of ha.1
  obtain ⟨m, rfl⟩ := nn_of hb.1
  rw [jor_nat n m (by omega) (by omega)]
  simp [tb]
theorem p2_31 (k : Nat) (h : k < 31) : 2 ^ k < 2 ^ 31 := Nat.pow_lt_pow_right (by decide) h
theorem shl1_N {k : Int} (h : 0 ≤ k ∧ k < 31) : N31 (jshl 1 k) := by
  obtain ⟨n, rfl⟩ := nn_of h.1
  have h2 := p2_31 n (by omega)
  have e := jshl_nat 1 n (by omega) (by omega)
  rw [show ((1 : Nat) : Int) = 1 from rfl] at e
  rw [e]
  exact ⟨by omega, by omega⟩
theorem shl1_lt {k : Int} (p : Nat) (hp : p ≤ 31) (h : 0 ≤ k ∧ k < p) : 0 ≤ jshl 1 k ∧ jshl 1 k < ((2 ^ p : Nat) : Int) := by
  obtain ⟨n, rfl⟩ := nn_of h.1
  have h2 := p2_31 n (by omega)
  have h3 : 2 ^ n < 2 ^ p := Nat.pow_lt_pow_right (by decide) (by omega)
  have e := jshl_nat 1 n (by omega) (by omega)
  rw [show ((1 : Nat) : Int) = 1 from rfl] at e
  rw [e]
  exact ⟨by omega, by omega⟩
theorem shl1_256 {k : Int} (h : 0 ≤ k ∧ k < 8) : 0 ≤ jshl 1 k ∧ jshl 1 k < 256 := shl1_lt 8 (by decide) h
theorem shl1_16 {k : Int} (h : 0 ≤ k ∧ k < 4) : 0 ≤ jshl 1 k ∧ jshl 1 k < 16 := shl1_lt 4 (by decide) h
theorem tb_shl1 {j k : Int} (h : 0 ≤ j ∧ j < 31) (hk : 0 ≤ k) : tb (jshl 1 j) k = decide (j = k) := by
  obtain ⟨n, rfl⟩ := nn_of h.1
  obtain ⟨m, rfl⟩ := nn_of hk
  have h2 := p2_31 n (by omega)
  have e := jshl_nat 1 n (by omega) (by omega)
  rw [show ((1 : Nat) : Int) = 1 from rfl] at e
  rw [e]
  simp only [tb, Int.toNat_natCast, Nat.one_mul, Nat.testBit_two_pow]
  by_cases hq : n = m
  · simp [hq]
  · have hq2 : ¬ (n : Int) = (m : Int) := by omega
    simp [hq, hq2]
theorem bit_test {a k : Int} (ha : N31 a) (hk : 0 ≤ k ∧ k < 32) : jand (jshr a k) 1 = if tb a k = true then 1 else 0 := by
  obtain ⟨n, rfl⟩ := nn_of ha.1
  obtain ⟨m, rfl⟩ := nn_of hk.1
  rw [jshr_nat n m (by omega) (by omega)]
  have hd : n / 2 ^ m ≤ n := Nat.div_le_self _ _
  have e := jand_nat (n / 2 ^ m) 1 (by omega)
  rw [show ((1 : Nat) : Int) = 1 from rfl] at e
  rw [e, Nat.and_one_is_mod]
  have e2 : (n / 2 ^ m % 2 = 1) ↔ n.testBit m = true := by
    rw [Nat.testBit_eq_decide_div_mod_eq]; simp
  have key : tb n m = n.testBit m := by simp [tb]
  rw [key]
  by_cases h : n.testBit m = true
  · simp [h, e2.mpr h]
  · have h3 : ¬ n / 2 ^ m % 2 = 1 := fun z => h (e2.mp z)
    have h4 : n / 2 ^ m % 2 = 0 := by omega
    rw [h4]; simp [h]
theorem zb_of (n : Nat) (i : Nat) (hi : i < 32) : (nI n).toBitVec.getLsbD i = n.testBit i := by
  show (BitVec.ofNat 32 n).getLsbD i = _
  rw [BitVec.getLsbD_ofNat]; simp [hi]
theorem jandn_nat (n k : Nat) (hn : n < 2 ^ 31) (hk : k < 31) : jand n (jxor (jshl 1 k) (-1)) = ((n ^^^ (n &&& 2 ^ k) : Nat) : Int) := by
  have h2 := p2_31 k hk
  have e := jshl_nat 1 k (by omega) (by omega)
  rw [show ((1 : Nat) : Int) = 1 from rfl, Nat.one_mul] at e
  have hx : n ^^^ (n &&& 2 ^ k) < 2 ^ 31 := Nat.xor_lt_two_pow hn (Nat.lt_of_le_of_lt Nat.and_le_left hn)
  have e2 : Int32.ofInt n &&& Int32.ofInt (jxor (jshl 1 k) (-1)) = nI (n ^^^ (n &&& 2 ^ k)) := by
    unfold jxor
    rw [Int32.ofInt_toInt, e, ofInt_nI, ofInt_nI]
    apply Int32.toBitVec_inj.1
    apply BitVec.eq_of_getLsbD_eq
    intro i hi
    have hm : (Int32.ofInt (-1)).toBitVec.getLsbD i = true := (by decide : ∀ i, i < 32 → (Int32.ofInt (-1)).toBitVec.getLsbD i = true) i hi
    rw [Int32.toBitVec_and, BitVec.getLsbD_and, Int32.toBitVec_xor, BitVec.getLsbD_xor, zb_of _ _ hi, zb_of _ _ hi, zb_of _ _ hi, hm, Nat.testBit_xor, Nat.testBit_and]
    cases n.testBit i <;> cases (2 ^ k).testBit i <;> rfl
  unfold jand
  rw [e2, nI_toInt hx]
theorem jandn_N {a k : Int} (ha : N31 a) (hk : 0 ≤ k ∧ k < 31) : N31 (jand a (jxor (jshl 1 k) (-1))) := by
  obtain ⟨n, rfl⟩ := nn_of ha.1
  obtain ⟨m, rfl⟩ := nn_of hk.1
  rw [jandn_nat n m (by omega) (by omega)]
  have hx : n ^^^ (n &&& 2 ^ m) < 2 ^ 31 := Nat.xor_lt_two_pow (by omega) (Nat.lt_of_le_of_lt Nat.and_le_left (by omega))
  exact ⟨by omega, by omega⟩
theorem tb_andn {a k : Int} (ha : N31 a) (hk : 0 ≤ k ∧ k < 31) {i : Int} (hi : 0 ≤ i) : tb (jand a (jxor (jshl 1 k) (-1))) i = (tb a i && decide (i ≠ k)) := by
  obtain ⟨n, rfl⟩ := nn_of ha.1
  obtain ⟨m, rfl⟩ := nn_of hk.1
  obtain ⟨j, rfl⟩ := nn_of hi
  rw [jandn_nat n m (by omega) (by omega)]
  simp only [tb, Int.toNat_natCast, Nat.testBit_xor, Nat.testBit_and, Nat.testBit_two_pow]
  by_cases h : m = j
  · subst h; simp
  · have h2 : ¬ (j : Int) = (m : Int) := by omega
    simp [h, h2]
theorem tb_high {a : Int} {p : Nat} (h : 0 ≤ a ∧ a < ((2 ^ p : Nat) : Int)) {k : Int} (hk : (p : Int) ≤ k) : tb a k = false := by
  obtain ⟨n, rfl⟩ := nn_of h.1
  obtain ⟨m, rfl⟩ := nn_of (show 0 ≤ k by omega)
  simp only [tb, Int.toNat_natCast]
  exact Nat.testBit_lt_two_pow (Nat.lt_of_lt_of_le (show n < 2 ^ p by omega) (Nat.pow_le_pow_right (by decide) (by omega)))
theorem tb_ext {a b : Int} (ha : 0 ≤ a) (hb : 0 ≤ b) (h : ∀ k : Int, 0 ≤ k → tb a k = tb b k) : a = b := by
  obtain ⟨n, rfl⟩ := nn_of ha
  obtain ⟨m, rfl⟩ := nn_of hb
  congr 1
  apply Nat.eq_of_testBit_eq
  intro i
  exact h i (by omega)
theorem lt_of_tb {a : Int} (ha : 0 ≤ a) (p : Nat) (h : ∀ k : Int, (p : Int) ≤ k → tb a k = false) : a < ((2 ^ p : Nat) : Int) := by
  obtain ⟨n, rfl⟩ := nn_of ha
  have := Nat.lt_pow_two_of_testBit (n := p) n (fun i hi => h i (by omega))
  omega
theorem tb_0 (k : Int) : tb 0 k = false := by simp [tb]
theorem jor_0 {a : Int} (h : R32 a) : jor a 0 = a := by
  unfold jor
  rw [show Int32.ofInt 0 = 0 from rfl, Int32.or_zero]
  exact r32_lo h
theorem jand7 {a : Int} (h : N31 a) : jand a 7 = a % 8 := by
  obtain ⟨n, rfl⟩ := nn_of h.1
  have e := jand_nat n 7 (by omega)
  rw [show ((7 : Nat) : Int) = 7 from rfl] at e
  rw [e, Nat.and_two_pow_sub_one_eq_mod n 3]
  rfl
/-- the digit at place i of a number in eights -/
theorem digit_in {t k : Int} (ht : N31 t) (hk : 0 ≤ k ∧ k < 4) : 0 ≤ jand (jshr t (jmul 3 k)) 7 ∧ jand (jshr t (jmul 3 k)) 7 < 8 := by
  obtain ⟨n, rfl⟩ := nn_of ht.1
  obtain ⟨m, rfl⟩ := nn_of hk.1
  rw [jmul_eq (by omega) (by omega), show (3 * (m : Int)) = ((3 * m : Nat) : Int) by omega, jshr_nat n _ (by omega) (by omega)]
  have hd : n / 2 ^ (3 * m) ≤ n := Nat.div_le_self _ _
  generalize n / 2 ^ (3 * m) = q at hd ⊢
  rw [jand7 ⟨by omega, by omega⟩]
  exact ⟨by omega, by omega⟩
theorem jand_digit0 (t : Int) : 0 ≤ jand t 7 ∧ jand t 7 < 8 := by
  unfold jand
  rw [pk_and (Int32.ofInt t) 3 (m := Int32.ofInt 7) (by decide), nI_toInt (by omega)]
  omega
theorem jmax_eq (a b : Int) : jmax a b = if a < b then b else a := rfl
theorem lcmp_lt (a b : Int) : lcmpM a b < 0 ↔ a < b := by
  unfold lcmpM; repeat' split
  all_goals omega
theorem lcmp_gt (a b : Int) : 0 < lcmpM a b ↔ b < a := by
  unfold lcmpM; repeat' split
  all_goals omega
