/-! the sorted turn: the same in both, and its orders end within twenty-four -/
theorem sj_congr {z : Nat} {i : Nat} (hi : i < z) : ∀ (m j : Nat) (f g : Int → Int), j + m = z → AG z f g → AG z (sjC i m j f) (sjC i m j g)
  | 0, _, _, _, _, h => h
  | m + 1, j, f, g, hj, h => by
    simp only [sjC]
    rw [h i (by omega) (by omega), h j (by omega) (by omega)]
    by_cases e : g i ≤ g j
    · rw [if_pos e, if_pos e]; exact sj_congr hi m (j + 1) f g (by omega) h
    · rw [if_neg e, if_neg e]; exact sj_congr hi m (j + 1) _ _ (by omega) (sw_congr h (by omega) (by omega))
theorem si_congr {z : Nat} : ∀ (m i : Nat) (f g : Int → Int), i + m = z → AG z f g → AG z (siC m i f) (siC m i g)
  | 0, _, _, _, _, h => h
  | m + 1, i, f, g, hi, h => by
    simp only [siC]
    exact si_congr m (i + 1) _ _ (by omega) (sj_congr (by omega) m (i + 1) f g (by omega) h)
theorem is_congr {z : Nat} {f g : Int → Int} (h : AG z f g) : ∀ (m k : Nat) (o : Int → Int), k + m = z → isM f m k o = isM g m k o
  | 0, _, _, _ => rfl
  | m + 1, k, o, hk => by
    simp only [isM]
    rw [h k (by omega) (by omega)]
    exact is_congr h m (k + 1) _ (by omega)
theorem ir_1 : ∀ a : Nat, a < 8 → 0 ≤ isM (tup a 0 0 0) 1 0 (fun _ => 0) 0 ∧ isM (tup a 0 0 0) 1 0 (fun _ => 0) 0 < 8 := by decide +kernel
theorem ir_2 : ∀ a : Nat, a < 8 → ∀ b : Nat, b < 8 → ∀ j : Nat, j < 2 → 0 ≤ isM (tup a b 0 0) 2 0 (fun _ => 0) j ∧ isM (tup a b 0 0) 2 0 (fun _ => 0) j < 8 := by decide +kernel
theorem ir_3 : ∀ a : Nat, a < 8 → ∀ b : Nat, b < 8 → ∀ c : Nat, c < 8 → ∀ j : Nat, j < 3 → 0 ≤ isM (tup a b c 0) 3 0 (fun _ => 0) j ∧ isM (tup a b c 0) 3 0 (fun _ => 0) j < 8 := by decide +kernel
set_option maxRecDepth 100000 in
theorem ir_4 : ∀ a : Nat, a < 8 → ∀ b : Nat, b < 8 → ∀ c : Nat, c < 8 → ∀ d : Nat, d < 8 → ∀ j : Nat, j < 4 → 0 ≤ isM (tup a b c d) 4 0 (fun _ => 0) j ∧ isM (tup a b c d) 4 0 (fun _ => 0) j < 8 := by decide +kernel
theorem so_rd {z : Nat} {h : Int → Int} (hz : 1 ≤ z ∧ z ≤ 4) (hin : ∀ j : Int, 0 ≤ j → j < z → 0 ≤ h j ∧ h j < 8) (hdis : ∀ i j : Int, 0 ≤ i → i < j → j < z → h i ≠ h j) : AG z (siC z 0 h) (isM h z 0 (fun _ => 0)) ∧ rdF z 24 (isM h z 0 (fun _ => 0)) = true := by
  rcases (by omega : z = 1 ∨ z = 2 ∨ z = 3 ∨ z = 4) with e | e | e | e
  · subst e
    obtain ⟨a, ha⟩ := nn_of (hin 0 (by omega) (by omega)).1
    have i0 := hin 0 (by omega) (by omega)
    have g : AG 1 h (tup a 0 0 0) := fun j j0 j1 => by
      obtain rfl : j = 0 := by omega
      rw [ha]; rfl
    have s1 := so_1 a (by omega)
    have r := ir_1 a (by omega)
    rw [is_congr g 1 0 _ (by omega)]
    refine ⟨fun j j0 j1 => ?_, ?_⟩
    · obtain rfl : j = 0 := by omega
      rw [si_congr 1 0 _ _ (by omega) g 0 (by omega) (by omega)]; exact s1
    · obtain ⟨a', ha'⟩ := nn_of r.1
      have g2 : AG 1 (isM (tup a 0 0 0) 1 0 (fun _ => 0)) (tup a' 0 0 0) := fun j j0 j1 => by
        obtain rfl : j = 0 := by omega
        rw [ha']; rfl
      rw [rd_congr (by omega) 24 _ _ g2]
      exact rd_1 a' (by omega)
  · subst e
    obtain ⟨a, ha⟩ := nn_of (hin 0 (by omega) (by omega)).1
    obtain ⟨b, hb⟩ := nn_of (hin 1 (by omega) (by omega)).1
    have i0 := hin 0 (by omega) (by omega)
    have i1 := hin 1 (by omega) (by omega)
    have d01 := hdis 0 1 (by omega) (by omega) (by omega)
    have g : AG 2 h (tup a b 0 0) := fun j j0 j1 => by
      rcases (by omega : j = 0 ∨ j = 1) with q | q <;> subst q
      · rw [ha]; rfl
      · rw [hb]; rfl
    have s1 := so_2 a (by omega) b (by omega)
    have r := ir_2 a (by omega) b (by omega)
    have as := as_2 a (by omega) b (by omega)
    rw [is_congr g 2 0 _ (by omega)]
    refine ⟨fun j j0 j1 => ?_, ?_⟩
    · rw [si_congr 2 0 _ _ (by omega) g j (by omega) (by omega)]
      obtain ⟨n, rfl⟩ := nn_of j0
      exact s1 n (by omega)
    · obtain ⟨a', ha'⟩ := nn_of (r 0 (by omega)).1
      obtain ⟨b', hb'⟩ := nn_of (r 1 (by omega)).1
      have r0 := r 0 (by omega)
      have r1 := r 1 (by omega)
      rw [ha'] at r0
      rw [hb'] at r1
      have g2 : AG 2 (isM (tup a b 0 0) 2 0 (fun _ => 0)) (tup a' b' 0 0) := fun j j0 j1 => by
        rcases (by omega : j = 0 ∨ j = 1) with q | q <;> subst q
        · exact ha'
        · exact hb'
      rw [rd_congr (by omega) 24 _ _ g2]
      refine rd_2 a' (by omega) b' (by omega) ?_
      simp only [Bool.or_eq_true, decide_eq_true_eq] at as
      rcases as with as | as
      · omega
      · have := (show (a' : Int) < b' from by rw [← ha', ← hb']; exact as)
        omega
  · subst e
    obtain ⟨a, ha⟩ := nn_of (hin 0 (by omega) (by omega)).1
    obtain ⟨b, hb⟩ := nn_of (hin 1 (by omega) (by omega)).1
    obtain ⟨c, hc⟩ := nn_of (hin 2 (by omega) (by omega)).1
    have i0 := hin 0 (by omega) (by omega)
    have i1 := hin 1 (by omega) (by omega)
    have i2 := hin 2 (by omega) (by omega)
    have d01 := hdis 0 1 (by omega) (by omega) (by omega)
    have d02 := hdis 0 2 (by omega) (by omega) (by omega)
    have d12 := hdis 1 2 (by omega) (by omega) (by omega)
    have g : AG 3 h (tup a b c 0) := fun j j0 j1 => by
      rcases (by omega : j = 0 ∨ j = 1 ∨ j = 2) with q | q | q <;> subst q
      · rw [ha]; rfl
      · rw [hb]; rfl
      · rw [hc]; rfl
    have s1 := so_3 a (by omega) b (by omega) c (by omega)
    have r := ir_3 a (by omega) b (by omega) c (by omega)
    have as := as_3 a (by omega) b (by omega) c (by omega)
    rw [is_congr g 3 0 _ (by omega)]
    refine ⟨fun j j0 j1 => ?_, ?_⟩
    · rw [si_congr 3 0 _ _ (by omega) g j (by omega) (by omega)]
      obtain ⟨n, rfl⟩ := nn_of j0
      exact s1 n (by omega)
    · obtain ⟨a', ha'⟩ := nn_of (r 0 (by omega)).1
      obtain ⟨b', hb'⟩ := nn_of (r 1 (by omega)).1
      obtain ⟨c', hc'⟩ := nn_of (r 2 (by omega)).1
      have r0 := r 0 (by omega)
      rw [ha'] at r0
      have r1 := r 1 (by omega)
      rw [hb'] at r1
      have r2 := r 2 (by omega)
      rw [hc'] at r2
      have g2 : AG 3 (isM (tup a b c 0) 3 0 (fun _ => 0)) (tup a' b' c' 0) := fun j j0 j1 => by
        rcases (by omega : j = 0 ∨ j = 1 ∨ j = 2) with q | q | q <;> subst q
        · exact ha'
        · exact hb'
        · exact hc'
      rw [rd_congr (by omega) 24 _ _ g2]
      simp only [Bool.or_eq_true, Bool.and_eq_true, decide_eq_true_eq] at as
      have l0 : (a' : Int) < b' := by
        rw [← ha', ← hb']
        rcases as with ((y | y) | y) | y
        · omega
        · omega
        · omega
        · exact y.1
      have l1 : (b' : Int) < c' := by
        rw [← hb', ← hc']
        rcases as with ((y | y) | y) | y
        · omega
        · omega
        · omega
        · exact y.2
      exact rd_3 a' (by omega) b' (by omega) c' (by omega) (by omega) (by omega)
  · subst e
    obtain ⟨a, ha⟩ := nn_of (hin 0 (by omega) (by omega)).1
    obtain ⟨b, hb⟩ := nn_of (hin 1 (by omega) (by omega)).1
    obtain ⟨c, hc⟩ := nn_of (hin 2 (by omega) (by omega)).1
    obtain ⟨d, hd⟩ := nn_of (hin 3 (by omega) (by omega)).1
    have i0 := hin 0 (by omega) (by omega)
    have i1 := hin 1 (by omega) (by omega)
    have i2 := hin 2 (by omega) (by omega)
    have i3 := hin 3 (by omega) (by omega)
    have d01 := hdis 0 1 (by omega) (by omega) (by omega)
    have d02 := hdis 0 2 (by omega) (by omega) (by omega)
    have d03 := hdis 0 3 (by omega) (by omega) (by omega)
    have d12 := hdis 1 2 (by omega) (by omega) (by omega)
    have d13 := hdis 1 3 (by omega) (by omega) (by omega)
    have d23 := hdis 2 3 (by omega) (by omega) (by omega)
    have g : AG 4 h (tup a b c d) := fun j j0 j1 => by
      rcases (by omega : j = 0 ∨ j = 1 ∨ j = 2 ∨ j = 3) with q | q | q | q <;> subst q
      · rw [ha]; rfl
      · rw [hb]; rfl
      · rw [hc]; rfl
      · rw [hd]; rfl
    have s1 := so_4 a (by omega) b (by omega) c (by omega) d (by omega)
    have r := ir_4 a (by omega) b (by omega) c (by omega) d (by omega)
    have as := as_4 a (by omega) b (by omega) c (by omega) d (by omega)
    rw [is_congr g 4 0 _ (by omega)]
    refine ⟨fun j j0 j1 => ?_, ?_⟩
    · rw [si_congr 4 0 _ _ (by omega) g j (by omega) (by omega)]
      obtain ⟨n, rfl⟩ := nn_of j0
      exact s1 n (by omega)
    · obtain ⟨a', ha'⟩ := nn_of (r 0 (by omega)).1
      obtain ⟨b', hb'⟩ := nn_of (r 1 (by omega)).1
      obtain ⟨c', hc'⟩ := nn_of (r 2 (by omega)).1
      obtain ⟨d', hd'⟩ := nn_of (r 3 (by omega)).1
      have r0 := r 0 (by omega)
      rw [ha'] at r0
      have r1 := r 1 (by omega)
      rw [hb'] at r1
      have r2 := r 2 (by omega)
      rw [hc'] at r2
      have r3 := r 3 (by omega)
      rw [hd'] at r3
      have g2 : AG 4 (isM (tup a b c d) 4 0 (fun _ => 0)) (tup a' b' c' d') := fun j j0 j1 => by
        rcases (by omega : j = 0 ∨ j = 1 ∨ j = 2 ∨ j = 3) with q | q | q | q <;> subst q
        · exact ha'
        · exact hb'
        · exact hc'
        · exact hd'
      rw [rd_congr (by omega) 24 _ _ g2]
      simp only [Bool.or_eq_true, Bool.and_eq_true, decide_eq_true_eq] at as
      have l0 : (a' : Int) < b' := by
        rw [← ha', ← hb']
        rcases as with (((((y | y) | y) | y) | y) | y) | y
        · omega
        · omega
        · omega
        · omega
        · omega
        · omega
        · exact y.1.1
      have l1 : (b' : Int) < c' := by
        rw [← hb', ← hc']
        rcases as with (((((y | y) | y) | y) | y) | y) | y
        · omega
        · omega
        · omega
        · omega
        · omega
        · omega
        · exact y.1.2
      have l2 : (c' : Int) < d' := by
        rw [← hc', ← hd']
        rcases as with (((((y | y) | y) | y) | y) | y) | y
        · omega
        · omega
        · omega
        · omega
        · omega
        · omega
        · exact y.2
      have t := rd_4 a' (by omega) b' (by omega) c' (by omega) d' (by omega)
      have e1 : decide (a' < b') = true := decide_eq_true (by omega)
      have e2 : decide (b' < c') = true := decide_eq_true (by omega)
      have e3 : decide (c' < d') = true := decide_eq_true (by omega)
      rw [e1, e2, e3] at t
      exact t
