/-! orders that agree on their first places -/
def AG (z : Nat) (f g : Int → Int) : Prop := ∀ j : Int, 0 ≤ j → j < z → f j = g j
theorem fi_congr {z : Nat} {f g : Int → Int} (h : AG z f g) : ∀ n, n < z → fiF f n = fiF g n
  | 0, _ => rfl
  | n + 1, hn => by
    simp only [fiF]
    rw [h n (by omega) (by omega), h ((n : Int) + 1) (by omega) (by omega), fi_congr h n (by omega)]
theorem fj_congr {z : Nat} {f g : Int → Int} (h : AG z f g) {i : Nat} (hi : i < z) : ∀ n, n < z → fjF f i n = fjF g i n
  | 0, _ => rfl
  | n + 1, hn => by
    simp only [fjF]
    rw [h i (by omega) (by omega), h ((n : Int) + 1) (by omega) (by omega), fj_congr h hi n (by omega)]
theorem sw_congr {z : Nat} {f g : Int → Int} (h : AG z f g) {i j : Int} (hi : 0 ≤ i ∧ i < z) (hj : 0 ≤ j ∧ j < z) : AG z (swF f i j) (swF g i j) := by
  intro k k0 k1
  unfold swF upF
  rw [h i hi.1 hi.2, h j hj.1 hj.2, h k k0 k1]
theorem rv_congr {z : Nat} : ∀ (m lo hi : Nat) (f g : Int → Int), hi < z → AG z f g → AG z (rvF m lo hi f) (rvF m lo hi g)
  | 0, lo, hi, f, g, _, h => h
  | m + 1, lo, hi, f, g, hh, h => by
    simp only [rvF]
    by_cases e : hi ≤ lo
    · rw [if_pos e, if_pos e]; exact h
    · rw [if_neg e, if_neg e]
      exact rv_congr m (lo + 1) (hi - 1) _ _ (by omega) (sw_congr h (by omega) (by omega))
theorem nx_congr {z : Nat} (hz : 1 ≤ z) {f g : Int → Int} (h : AG z f g) : (nxF z f).1 = (nxF z g).1 ∧ AG z (nxF z f).2 (nxF z g).2 := by
  have e := fi_congr h (z - 1) (by omega)
  have hp := fi_le g (z - 1)
  unfold nxF
  rw [e]
  by_cases q : fiF g (z - 1) = 0
  · rw [if_pos q, if_pos q]; exact ⟨rfl, h⟩
  · rw [if_neg q, if_neg q, fj_congr h (i := fiF g (z - 1) - 1) (by omega) (z - 1) (by omega)]
    have hj := fj_le g (fiF g (z - 1) - 1) (z - 1)
    exact ⟨rfl, rv_congr 4 _ _ _ _ (by omega) (sw_congr h (by omega) (by omega))⟩
theorem rd_congr {z : Nat} (hz : 1 ≤ z) : ∀ (n : Nat) (f g : Int → Int), AG z f g → rdF z n f = rdF z n g
  | 0, _, _, _ => rfl
  | n + 1, f, g, h => by
    have e := nx_congr hz h
    simp only [rdF]
    rw [e.1, rd_congr hz n _ _ e.2]
theorem as_2 : ∀ a : Nat, a < 8 → ∀ b : Nat, b < 8 → (decide (a = b) || (decide (isM (tup a b 0 0) 2 0 (fun _ => 0) 0 < isM (tup a b 0 0) 2 0 (fun _ => 0) 1))) = true := by decide +kernel
theorem as_3 : ∀ a : Nat, a < 8 → ∀ b : Nat, b < 8 → ∀ c : Nat, c < 8 → (decide (a = b) || decide (a = c) || decide (b = c) || (decide (isM (tup a b c 0) 3 0 (fun _ => 0) 0 < isM (tup a b c 0) 3 0 (fun _ => 0) 1) && decide (isM (tup a b c 0) 3 0 (fun _ => 0) 1 < isM (tup a b c 0) 3 0 (fun _ => 0) 2))) = true := by decide +kernel
theorem as_4 : ∀ a : Nat, a < 8 → ∀ b : Nat, b < 8 → ∀ c : Nat, c < 8 → ∀ d : Nat, d < 8 → (decide (a = b) || decide (a = c) || decide (b = c) || decide (a = d) || decide (b = d) || decide (c = d) || (decide (isM (tup a b c d) 4 0 (fun _ => 0) 0 < isM (tup a b c d) 4 0 (fun _ => 0) 1) && decide (isM (tup a b c d) 4 0 (fun _ => 0) 1 < isM (tup a b c d) 4 0 (fun _ => 0) 2) && decide (isM (tup a b c d) 4 0 (fun _ => 0) 2 < isM (tup a b c d) 4 0 (fun _ => 0) 3))) = true := by decide +kernel
