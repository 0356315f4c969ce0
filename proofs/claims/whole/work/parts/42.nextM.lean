/-! the reference's next order -/
def AM (z : Nat) (f : Int → Int) (τ0 τ : Mem) : Prop := (∀ q, q ≠ 12 → τ q = τ0 q) ∧ ∀ j : Int, 0 ≤ j → j < z → τ 12 j = f j
theorem AM.sw {z : Nat} {i j : Int} {f : Int → Int} {τ0 τ : Mem} (h : AM z f τ0 τ) (hi : 0 ≤ i ∧ i < z) (hj : 0 ≤ j ∧ j < z) : AM z (swF f i j) τ0 (mupd (mupd τ 12 i (τ 12 j)) 12 j (τ 12 i)) := by
  refine ⟨fun q hq => by rw [mupd_ne _ hq, mupd_ne _ hq, h.1 q hq], fun k k0 k1 => ?_⟩
  rw [mupd_ap, mupd_ap, h.2 i hi.1 hi.2, h.2 j hj.1 hj.2]
  unfold swF upF
  by_cases e : k = j
  · rw [if_pos e, if_pos e]
  · rw [if_neg e, if_neg e]
    by_cases e2 : k = i
    · rw [if_pos e2, if_pos e2]
    · rw [if_neg e2, if_neg e2]; exact h.2 k k0 k1
theorem fi_ok (f : Int → Int) : ∀ n i, fiF f n = i + 1 → f i ≤ f ((i : Int) + 1)
  | 0, i, h => by simp [fiF] at h
  | n + 1, i, h => by
    simp only [fiF] at h
    by_cases q : f n ≤ f ((n : Int) + 1)
    · rw [if_pos q] at h
      obtain rfl : n = i := by omega
      exact q
    · rw [if_neg q] at h
      exact fi_ok f n i h
theorem l_revM {z : Nat} {τ0 : Mem} {Q : Int → Mem → Prop} (hz : z ≤ 4) : ∀ (m lo hi : Nat) (f : Int → Int) (τ : Mem), hi < lo + m → hi < z → AM z f τ0 τ → (∀ τ', AM z (rvF m lo hi f) τ0 τ' → Q 1 τ') → WP GM M_X9_nextOrder 100 [some (mr 0), none, none, none, none, some (mi (hi : Int)), some (mi (lo : Int))] [] τ Q
  | 0, lo, hi, f, τ, h, hh, hA, hQ => by
    apply b_X9_nextOrder_0_100
    exact bt (by omega) (hQ τ hA)
  | m + 1, lo, hi, f, τ, h, hh, hA, hQ => by
    apply b_X9_nextOrder_0_100
    simp only [rvF] at hQ
    by_cases e : hi ≤ lo
    · rw [if_pos e] at hQ
      exact bt (by omega) (hQ τ hA)
    · rw [if_neg e] at hQ
      rw [jadd_eq (by omega) (by omega), jadd_eq (by omega) (by omega), show (lo : Int) + 1 = ((lo + 1 : Nat) : Int) by omega, show (hi : Int) + -1 = ((hi - 1 : Nat) : Int) by omega]
      exact bf (by omega) ⟨by omega, by omega, by omega, by omega, l_revM hz m (lo + 1) (hi - 1) _ _ (by omega) (by omega) (hA.sw (by omega) (by omega)) hQ⟩
theorem m_nextO {z : Nat} {f : Int → Int} {τ0 τ : Mem} {Q : Int → Mem → Prop} (hz : 1 ≤ z ∧ z ≤ 4) (hA : AM z f τ0 τ) (hQ : ∀ τ', AM z (nxF z f).2 τ0 τ' → Q ((nxF z f).1 : Int) τ') : HT GM M_X9_nextOrder [mr 0, mi (z : Int)] τ Q := by
  have hp := fi_le f (z - 1)
  have l41 : ∀ (i : Nat), i + 1 < z → f i ≤ f ((i : Int) + 1) → ∀ (j : Nat), j < z → i < j → (∀ τ', AM z (rvF 4 (i + 1) (z - 1) (swF f i (fjF f i j))) τ0 τ' → Q 1 τ') → WP GM M_X9_nextOrder 41 [some (mr 0), some (mi (z : Int)), some (mi (i : Int)), some (mi (j : Int)), none, none, none] [] τ Q := by
    intro i hi hup j
    induction j with
    | zero => intro _ h; omega
    | succ j ih =>
      intro hj hij h
      have a1 := hA.2 i (by omega) (by omega)
      have a2 := hA.2 ((j + 1 : Nat) : Int) (by omega) (by omega)
      have ej : ((j : Int) + 1) = ((j + 1 : Nat) : Int) := by omega
      apply b_X9_nextOrder_0_41
      have sw := hA.sw (i := (i : Int)) (j := ((j + 1 : Nat) : Int)) (by omega) (by omega)
      rw [a1, a2] at sw ⊢
      rw [jsub_eq (by omega) (by omega), jadd_eq (a := (i : Int)) (by omega) (by omega), show (z : Int) - 1 = ((z - 1 : Nat) : Int) by omega, show (i : Int) + 1 = ((i + 1 : Nat) : Int) by omega]
      refine ⟨by omega, by omega, fun y => ⟨by omega, by omega, by omega, by omega, ?_⟩, fun y => ?_⟩
      · simp only [fjF] at h
        rw [if_pos (Or.inr (by rw [ej]; exact y))] at h
        exact l_revM hz.2 4 (i + 1) (z - 1) _ _ (by omega) (by omega) sw h
      · have hne : ¬ j ≤ i := fun q => by
          obtain rfl : j = i := by omega
          rw [ej] at hup
          exact y hup
        rw [jadd_eq (by omega) (by omega), show ((j + 1 : Nat) : Int) + -1 = (j : Int) by omega]
        refine ih (by omega) (by omega) (fun τ' h1 => h τ' ?_)
        simp only [fjF]
        rw [if_neg (fun q => by
          rcases q with q | q
          · exact hne q
          · rw [ej] at q; exact y q)]
        exact h1
  have l31 : WP GM M_X9_nextOrder 31 [some (mr 0), some (mi (z : Int)), some (mi ((fiF f (z - 1) : Int) - 1)), none, none, none, none] [] τ Q := by
    apply b_X9_nextOrder_0_31
    by_cases e : fiF f (z - 1) = 0
    · refine bf (by omega) ?_
      have h := hQ τ
      unfold nxF at h
      rw [if_pos e] at h
      exact h hA
    · refine bt (by omega) ?_
      unfold nxF at hQ
      rw [if_neg e] at hQ
      obtain ⟨i, hi⟩ : ∃ i, fiF f (z - 1) = i + 1 := ⟨fiF f (z - 1) - 1, by omega⟩
      have hup := fi_ok f (z - 1) i hi
      rw [hi] at hQ ⊢
      rw [show ((i + 1 : Nat) : Int) - 1 = (i : Int) by omega, jsub_eq (by omega) (by omega), show (z : Int) - 1 = ((z - 1 : Nat) : Int) by omega]
      refine l41 i (by omega) hup (z - 1) (by omega) (by omega) (fun τ' h1 => ?_)
      refine hQ τ' ?_
      rw [show (((i + 1 : Nat) : Int) - 1) = (i : Int) by omega, show i + 1 - 1 = i by omega]
      exact h1
  have l4 : ∀ n : Nat, n < z → fiF f n = fiF f (z - 1) → WP GM M_X9_nextOrder 4 [some (mr 0), some (mi (z : Int)), some (mi ((n : Int) - 1)), none, none, none, none] [] τ Q := by
    intro n
    induction n with
    | zero =>
      intro _ hf
      apply b_X9_nextOrder_0_4
      refine bt (by omega) ?_
      rw [← hf] at l31
      exact l31
    | succ n ih =>
      intro hn hf
      have a1 := hA.2 n (by omega) (by omega)
      have a2 := hA.2 ((n : Int) + 1) (by omega) (by omega)
      apply b_X9_nextOrder_0_4
      rw [show ((n + 1 : Nat) : Int) - 1 = (n : Int) by omega, jadd_eq (b := 1) (by omega) (by omega), a1, a2]
      simp only [fiF] at hf
      refine bf (by omega) ⟨by omega, by omega, fun y => ?_, fun y => ?_⟩
      · rw [if_pos y] at hf
        rw [← hf, show ((n + 1 : Nat) : Int) - 1 = (n : Int) by omega] at l31
        exact l31
      · rw [if_neg y] at hf
        rw [jadd_eq (by omega) (by omega), show (n : Int) + -1 = (n : Int) - 1 by omega]
        exact ih (by omega) hf
  apply e_X9_nextOrder_0
  rw [jsub_eq (by omega) (by omega), show (z : Int) - 2 = ((z - 1 : Nat) : Int) - 1 by omega]
  exact l4 (z - 1) (by omega) rfl
