/-! sets of boys, and how many sets of them are even among themselves -/
def rmI (s m : Int) : Int := jand s (jxor (jshl 1 m) (-1))
theorem rm_all : ∀ n : Nat, n < 256 → ∀ k : Nat, k < 8 → tb n k = true → (0 ≤ rmI n k ∧ rmI n k < n) ∧ jxor n (jshl 1 k) = rmI n k := by decide +kernel
theorem rm_in {s : Int} {m : Nat} (hs : 0 ≤ s ∧ s < 256) (hm : m < 8) (h : tb s m = true) : (0 ≤ rmI s m ∧ rmI s m < s) ∧ jxor s (jshl 1 m) = rmI s m := by
  obtain ⟨n, rfl⟩ := nn_of hs.1
  exact rm_all n (by omega) m hm h
theorem rm_tb {s : Int} {m : Nat} (hs : 0 ≤ s ∧ s < 256) (hm : m < 8) (j : Int) (hj : 0 ≤ j) : tb (rmI s m) j = true ↔ tb s j = true ∧ j ≠ m := by
  unfold rmI
  rw [tb_andn ⟨hs.1, by omega⟩ (by omega) hj, Bool.and_eq_true, decide_eq_true_eq]
def sumP (v : Nat → Int) (s : Int) : Nat → Int
  | 0 => 0
  | m + 1 => if tb s m = true then sumP v s m + v m else sumP v s m
def mxP (f : Int → Int) (s : Int) : Nat → Int
  | 0 => 0
  | m + 1 => if tb s m = true then jmax (mxP f s m) (f (rmI s m)) else mxP f s m
def mo (v : Nat → Int) (n : Nat) : Nat → Int → Int
  | 0, _ => 0
  | k + 1, s => if s = 0 then 0 else mxP (mo v n k) s n + (if sumP v s n = 0 then 1 else 0)
def MO (v : Nat → Int) (n : Nat) (s : Int) : Int := mo v n s.toNat s
theorem mxP_congr {f g : Int → Int} {s : Int} : ∀ m : Nat, (∀ j : Nat, j < m → tb s j = true → f (rmI s j) = g (rmI s j)) → mxP f s m = mxP g s m
  | 0, _ => rfl
  | m + 1, h => by
    simp only [mxP]
    rw [mxP_congr m (fun j hj => h j (by omega))]
    by_cases q : tb s m = true
    · rw [if_pos q, if_pos q, h m (by omega) q]
    · rw [if_neg q, if_neg q]
theorem mo_st {v : Nat → Int} {n : Nat} (hn : n ≤ 8) : ∀ (k k' : Nat) (s : Int), 0 ≤ s ∧ s < 256 → s ≤ k → s ≤ k' → mo v n k s = mo v n k' s
  | 0, 0, s, _, _, _ => rfl
  | 0, k' + 1, s, h, a, b => by
    simp only [mo]
    rw [if_pos (by omega)]
  | k + 1, 0, s, h, a, b => by
    simp only [mo]
    rw [if_pos (by omega)]
  | k + 1, k' + 1, s, h, a, b => by
    simp only [mo]
    by_cases e : s = 0
    · rw [if_pos e, if_pos e]
    · rw [if_neg e, if_neg e]
      rw [mxP_congr n (fun j hj ht => ?_)]
      have r := (rm_in h (by omega) ht).1
      exact mo_st hn k k' _ (by omega) (by omega) (by omega)
theorem MO_0 {v : Nat → Int} {n : Nat} : MO v n 0 = 0 := rfl
theorem MO_s {v : Nat → Int} {n : Nat} (hn : n ≤ 8) {s : Int} (hs : 0 < s ∧ s < 256) : MO v n s = mxP (MO v n) s n + (if sumP v s n = 0 then 1 else 0) := by
  unfold MO
  obtain ⟨k, hk⟩ : ∃ k, s.toNat = k + 1 := ⟨s.toNat - 1, by omega⟩
  rw [hk]
  simp only [mo]
  rw [if_neg (by omega), mxP_congr n (fun j hj ht => ?_)]
  have r := (rm_in ⟨by omega, hs.2⟩ (by omega) ht).1
  exact mo_st hn _ _ _ (by omega) (by omega) (by omega)
theorem mxP_in {f : Int → Int} {s : Int} (hs : 0 < s) : ∀ m : Nat, (∀ j : Nat, j < m → tb s j = true → 0 ≤ f (rmI s j) ∧ f (rmI s j) < s) → 0 ≤ mxP f s m ∧ mxP f s m < s
  | 0, _ => by simp only [mxP]; omega
  | m + 1, h => by
    have ih := mxP_in hs m (fun j hj => h j (by omega))
    simp only [mxP]
    by_cases q : tb s m = true
    · rw [if_pos q, jmax_eq]
      have := h m (by omega) q
      split <;> omega
    · rw [if_neg q]; exact ih
theorem MO_in {v : Nat → Int} {n : Nat} (hn : n ≤ 8) : ∀ (k : Nat) (s : Int), s.toNat = k → 0 ≤ s ∧ s < 256 → 0 ≤ MO v n s ∧ MO v n s ≤ s := by
  intro k
  induction k using Nat.strongRecOn with
  | _ k ih =>
    intro s hk hs
    by_cases e : s = 0
    · rw [e, MO_0]; omega
    · rw [MO_s hn ⟨by omega, hs.2⟩]
      have h := mxP_in (f := MO v n) (s := s) (by omega) n (fun j hj ht => by
        have r := (rm_in hs (by omega) ht).1
        have := ih (rmI s j).toNat (by omega) (rmI s j) rfl (by omega)
        omega)
      split <;> omega
theorem sumP_in {v : Nat → Int} {s : Int} : ∀ m : Nat, (∀ j : Nat, j < m → -8000 ≤ v j ∧ v j ≤ 8000) → -(8000 * m : Int) ≤ sumP v s m ∧ sumP v s m ≤ 8000 * m
  | 0, _ => by simp [sumP]
  | m + 1, h => by
    have ih := sumP_in (s := s) m (fun j hj => h j (by omega))
    have hv := h m (by omega)
    simp only [sumP]
    split <;> omega
theorem sum_lo {v : Nat → Int} {s : Int} (hs : 0 ≤ s ∧ s < 256) {m : Nat} (hm : m < 8) : ∀ k : Nat, k ≤ m → sumP v (rmI s m) k = sumP v s k
  | 0, _ => rfl
  | k + 1, h => by
    have ih := sum_lo (v := v) hs hm k (by omega)
    have e : tb (rmI s m) k = tb s k := tb_bool (by
      rw [rm_tb hs hm k (by omega)]
      exact ⟨fun y => y.1, fun y => ⟨y, by omega⟩⟩)
    simp only [sumP]
    rw [e, ih]
theorem sum_rm {v : Nat → Int} {s : Int} (hs : 0 ≤ s ∧ s < 256) {m : Nat} (hm : m < 8) (ht : tb s m = true) : ∀ k : Nat, m < k → k ≤ 8 → sumP v (rmI s m) k + v m = sumP v s k
  | 0, h, _ => by omega
  | k + 1, h, h8 => by
    by_cases e : k = m
    · subst e
      have lo := sum_lo (v := v) hs hm k (Nat.le_refl _)
      simp only [sumP]
      rw [if_pos ht, if_neg (fun y => ((rm_tb hs hm k (by omega)).mp y).2 rfl), lo]
    · have ih := sum_rm (v := v) hs hm ht k (by omega) (by omega)
      have e2 : tb (rmI s m) k = tb s k := tb_bool (by
        rw [rm_tb hs hm k (by omega)]
        exact ⟨fun y => y.1, fun y => ⟨y, by omega⟩⟩)
      simp only [sumP]
      rw [e2]
      split <;> omega
/-! leaving out the even boys -/
def rk (B : Nat → Int) : Nat → Nat
  | 0 => 0
  | b + 1 => if B b = 0 then rk B b else rk B b + 1
theorem rk_le (B : Nat → Int) : ∀ b, rk B b ≤ b
  | 0 => Nat.le_refl _
  | b + 1 => by
    have := rk_le B b
    simp only [rk]
    split <;> omega
theorem rk_mono (B : Nat → Int) {b : Nat} (h : ¬ B b = 0) : ∀ c, b < c → rk B b < rk B c
  | 0, hc => by omega
  | c + 1, hc => by
    simp only [rk]
    by_cases e : c = b
    · subst e; rw [if_neg h]; omega
    · have := rk_mono B h c (by omega)
      split <;> omega
theorem rk_inj (B : Nat → Int) {b c : Nat} (hb : ¬ B b = 0) (hc : ¬ B c = 0) (h : rk B b = rk B c) : b = c := by
  rcases Nat.lt_trichotomy b c with q | q | q
  · have := rk_mono B hb c q; omega
  · exact q
  · have := rk_mono B hc b q; omega
theorem rk_sur (B : Nat → Int) : ∀ b j, j < rk B b → ∃ c, c < b ∧ ¬ B c = 0 ∧ rk B c = j
  | 0, j, h => by simp [rk] at h
  | b + 1, j, h => by
    simp only [rk] at h
    by_cases e : B b = 0
    · rw [if_pos e] at h
      obtain ⟨c, a, d⟩ := rk_sur B b j h
      exact ⟨c, by omega, d⟩
    · rw [if_neg e] at h
      by_cases q : j = rk B b
      · exact ⟨b, by omega, e, q.symm⟩
      · obtain ⟨c, a, d⟩ := rk_sur B b j (by omega)
        exact ⟨c, by omega, d⟩
def Em (B : Nat → Int) (s : Int) : Nat → Int
  | 0 => 0
  | b + 1 => if ¬ B b = 0 ∧ tb s (rk B b) = true then jor (Em B s b) (jshl 1 b) else Em B s b
theorem Em_in (B : Nat → Int) (s : Int) : ∀ b : Nat, b ≤ 8 → (0 ≤ Em B s b ∧ Em B s b < 256) ∧ ∀ j : Nat, (tb (Em B s b) j = true ↔ j < b ∧ ¬ B j = 0 ∧ tb s (rk B j) = true)
  | 0, _ => ⟨by simp [Em], fun j => by simp only [Em, tb_0]; exact ⟨fun y => absurd y (by decide), fun y => by omega⟩⟩
  | b + 1, h => by
    obtain ⟨i1, i2⟩ := Em_in B s b (by omega)
    have hs := shl1_256 (k := (b : Int)) (by omega)
    simp only [Em]
    by_cases q : ¬ B b = 0 ∧ tb s (rk B b) = true
    · rw [if_pos q]
      refine ⟨jor_256 i1 hs, fun j => ?_⟩
      rw [tb_or ⟨i1.1, by omega⟩ ⟨hs.1, by omega⟩, tb_shl1 (by omega) (by omega), Bool.or_eq_true, i2 j, decide_eq_true_eq]
      constructor
      · rintro (⟨a, c⟩ | y)
        · exact ⟨by omega, c⟩
        · obtain rfl : b = j := by omega
          exact ⟨by omega, q⟩
      · rintro ⟨a, c⟩
        by_cases e : b = j
        · exact Or.inr (by omega)
        · exact Or.inl ⟨by omega, c⟩
    · rw [if_neg q]
      refine ⟨i1, fun j => ?_⟩
      rw [i2 j]
      constructor
      · rintro ⟨a, c⟩; exact ⟨by omega, c⟩
      · rintro ⟨a, c⟩
        by_cases e : b = j
        · subst e; exact absurd c q
        · exact ⟨by omega, c⟩
theorem tb_ext8 {a b : Int} (ha : 0 ≤ a ∧ a < 256) (hb : 0 ≤ b ∧ b < 256) (h : ∀ j : Nat, j < 8 → (tb a j = true ↔ tb b j = true)) : a = b := by
  refine tb_ext ha.1 hb.1 (fun k hk => ?_)
  obtain ⟨j, rfl⟩ := nn_of hk
  by_cases q : j < 8
  · exact tb_bool (h j q)
  · rw [tb_high (p := 8) ha (by omega), tb_high (p := 8) hb (by omega)]
theorem Em_rm (B : Nat → Int) {s : Int} (hs : 0 ≤ s ∧ s < 256) {b : Nat} (hb : b < 8) (hB : ¬ B b = 0) (ht : tb s (rk B b) = true) : rmI (Em B s 8) b = Em B (rmI s (rk B b)) 8 := by
  have e1 := Em_in B s 8 (by omega)
  have e2 := Em_in B (rmI s (rk B b)) 8 (by omega)
  have hr := rk_le B b
  have htt : tb (Em B s 8) b = true := (e1.2 b).mpr ⟨hb, hB, ht⟩
  have r := (rm_in e1.1 hb htt).1
  refine tb_ext8 (by omega) e2.1 (fun j hj => ?_)
  rw [rm_tb e1.1 hb j (by omega), e1.2 j, e2.2 j, rm_tb hs (by omega) _ (by omega)]
  constructor
  · rintro ⟨⟨a1, a2, a3⟩, a4⟩
    exact ⟨a1, a2, a3, fun e => a4 (by have := rk_inj B a2 hB (by omega); omega)⟩
  · rintro ⟨a1, a2, a3, a4⟩
    refine ⟨⟨a1, a2, a3⟩, fun e => ?_⟩
    obtain rfl : j = b := by omega
    exact a4 rfl
theorem MO_em (B v : Nat → Int) {C : Nat} (hC : rk B 8 = C) (hv : ∀ b, b < 8 → ¬ B b = 0 → v (rk B b) = B b) : ∀ (k : Nat) (s : Int), s.toNat = k → (0 ≤ s ∧ s < 256) → (∀ j : Nat, tb s j = true → j < C) → MO B 8 (Em B s 8) = MO v C s := by
  have h8 := rk_le B 8
  rw [hC] at h8
  intro k
  induction k using Nat.strongRecOn with
  | _ k ih =>
    intro s hk hs hj
    have e1 := Em_in B s 8 (by omega)
    have tt : ∀ b : Nat, b < 8 → (tb (Em B s 8) b = true ↔ ¬ B b = 0 ∧ tb s (rk B b) = true) := fun b hb => by
      rw [e1.2 b]; exact ⟨fun y => y.2, fun y => ⟨hb, y⟩⟩
    by_cases e : s = 0
    · have : Em B s 8 = 0 := tb_ext8 e1.1 (by omega) (fun j hj => by
        rw [tt j hj, e]
        simp only [tb_0]
        exact ⟨fun y => absurd y.2 (by decide), fun y => absurd y (by decide)⟩)
      rw [this, e]; rfl
    · have hne : ¬ Em B s 8 = 0 := by
        intro y
        apply e
        refine tb_ext8 hs (by omega) (fun j _ => ⟨fun hjt => ?_, fun q => by rw [tb_0] at q; exact absurd q (by decide)⟩)
        obtain ⟨c, c1, c2, c3⟩ := rk_sur B 8 j (by rw [hC]; exact hj j hjt)
        have h1 := (tt c c1).mpr ⟨c2, by rw [c3]; exact hjt⟩
        rw [y, tb_0] at h1; exact absurd h1 (by decide)
      have s1 : ∀ b : Nat, b ≤ 8 → sumP B (Em B s 8) b = sumP v s (rk B b) := by
        intro b
        induction b with
        | zero => intro _; rfl
        | succ b ihb =>
          intro hb
          have i := ihb (by omega)
          have t := tt b (by omega)
          by_cases z : B b = 0
          · have : ¬ tb (Em B s 8) b = true := fun y => (t.mp y).1 z
            simp only [sumP, rk]
            rw [if_neg this, if_pos z, i]
          · simp only [sumP, rk]
            rw [if_neg z]
            simp only [sumP]
            by_cases q : tb s (rk B b) = true
            · rw [if_pos (t.mpr ⟨z, q⟩), if_pos q, i, hv b (by omega) z]
            · rw [if_neg (fun y => q (t.mp y).2), if_neg q, i]
      have m1 : ∀ b : Nat, b ≤ 8 → mxP (MO B 8) (Em B s 8) b = mxP (MO v C) s (rk B b) := by
        intro b
        induction b with
        | zero => intro _; rfl
        | succ b ihb =>
          intro hb
          have i := ihb (by omega)
          have t := tt b (by omega)
          by_cases z : B b = 0
          · have : ¬ tb (Em B s 8) b = true := fun y => (t.mp y).1 z
            simp only [mxP, rk]
            rw [if_neg this, if_pos z, i]
          · simp only [mxP, rk]
            rw [if_neg z]
            simp only [mxP]
            by_cases q : tb s (rk B b) = true
            · have hr := rk_le B b
              have r := (rm_in hs (by omega) q).1
              have sub : MO B 8 (rmI (Em B s 8) b) = MO v C (rmI s (rk B b)) := by
                rw [Em_rm B hs (by omega) z q]
                exact ih _ (by omega) _ rfl (by omega) (fun j hjt => hj j ((rm_tb hs (by omega) j (by omega)).mp hjt).1)
              rw [if_pos (t.mpr ⟨z, q⟩), if_pos q, i, sub]
            · rw [if_neg (fun y => q (t.mp y).2), if_neg q, i]
      rw [MO_s (by omega) ⟨by omega, e1.1.2⟩, MO_s h8 ⟨by omega, hs.2⟩, s1 8 (by omega), m1 8 (by omega), hC]
