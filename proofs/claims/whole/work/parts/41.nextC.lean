/-! the class's next order -/
theorem fi_le (f : Int → Int) : ∀ n, fiF f n ≤ n
  | 0 => Nat.le_refl _
  | n + 1 => by
    have := fi_le f n
    simp only [fiF]
    split <;> omega
theorem fj_le (f : Int → Int) (i : Nat) : ∀ n, fjF f i n ≤ n
  | 0 => Nat.le_refl _
  | n + 1 => by
    have := fj_le f i n
    simp only [fjF]
    split <;> omega
theorem l_revC {z : Nat} {c : Int} {σ0 : Mem} {Q : Int → Mem → Prop} (hz : z ≤ 4) (hc : 0 ≤ c ∧ c < 4) : ∀ (m lo hi : Nat) (f : Int → Int) (σ : Mem), hi < lo + m → hi < z → AC z c f σ0 σ → (∀ σ', AC z c (rvF m lo hi f) σ0 σ' → Q 1 σ') → WP GC M_X0_nextOrder 111 [some (mr 35), none, none, none, none, none, some (mi (4 * c + lo)), some (mi (4 * c + hi))] [] σ Q
  | 0, lo, hi, f, σ, h, hh, hA, hQ => by
    apply b_X0_nextOrder_35_111
    exact bt (by omega) (hQ σ hA)
  | m + 1, lo, hi, f, σ, h, hh, hA, hQ => by
    apply b_X0_nextOrder_35_111
    simp only [rvF] at hQ
    by_cases e : hi ≤ lo
    · rw [if_pos e] at hQ
      exact bt (by omega) (hQ σ hA)
    · rw [if_neg e] at hQ
      refine bf (by omega) (c_swap hz hc hA (by omega) (by omega) (fun σ' h1 => ?_))
      rw [jadd_eq (by omega) (by omega), jadd_eq (by omega) (by omega), show 4 * c + (lo : Int) + 1 = 4 * c + ((lo + 1 : Nat) : Int) by omega, show 4 * c + (hi : Int) + -1 = 4 * c + ((hi - 1 : Nat) : Int) by omega]
      exact l_revC hz hc m (lo + 1) (hi - 1) _ σ' (by omega) (by omega) h1 hQ
theorem c_next {z : Nat} {c : Int} {f : Int → Int} {σ0 σ : Mem} {Q : Int → Mem → Prop} (hz : 1 ≤ z ∧ z ≤ 4) (hc : 0 ≤ c ∧ c < 4) (h37 : σ0 37 c = z) (hA : AC z c f σ0 σ) (hQ : ∀ σ', AC z c (nxF z f).2 σ0 σ' → Q ((nxF z f).1 : Int) σ') : HT GC M_X0_nextOrder [mr 35, mi c] σ Q := by
  have hp := fi_le f (z - 1)
  have l62 : ∀ (i : Nat), i + 1 < z → ∀ (j : Nat), j < z → 0 < j → (∀ σ', AC z c (rvF 4 (i + 1) (z - 1) (swF f i (fjF f i j))) σ0 σ' → Q 1 σ') → WP GC M_X0_nextOrder 62 [some (mr 35), none, none, some (mi (4 * c + ((z - 1 : Nat) : Int))), some (mi (4 * c + i)), some (mi (4 * c + j)), none, none] [] σ Q := by
    intro i hi j
    induction j with
    | zero => intro _ h; omega
    | succ j ih =>
      intro hj _ h
      have a1 := hA.2.1 i (by omega) (by omega)
      have a2 := hA.2.1 ((j + 1 : Nat) : Int) (by omega) (by omega)
      have fin : (j ≤ i ∨ f i ≤ f ((j : Int) + 1)) → WP GC M_X0_nextOrder 94 [some (mr 35), none, none, some (mi (4 * c + ((z - 1 : Nat) : Int))), some (mi (4 * c + i)), some (mi (4 * c + ((j + 1 : Nat) : Int))), none, none] [] σ Q := by
        intro y
        simp only [fjF] at h
        rw [if_pos y] at h
        apply b_X0_nextOrder_35_94
        refine c_swap hz.2 hc hA (by omega) (by omega) (fun σ' h1 => ?_)
        rw [jadd_eq (by omega) (by omega), show 4 * c + (i : Int) + 1 = 4 * c + ((i + 1 : Nat) : Int) by omega]
        exact l_revC hz.2 hc 4 (i + 1) (z - 1) _ σ' (by omega) (by omega) h1 h
      apply b_X0_nextOrder_35_62
      rw [jadd_eq (by omega) (by omega), a1, a2]
      by_cases e : j ≤ i
      · exact bt (by omega) (fin (Or.inl e))
      · refine bf (by omega) ⟨by omega, by omega, fun y => fin (Or.inr ?_), fun y => ?_⟩
        · rw [show ((j : Int) + 1) = ((j + 1 : Nat) : Int) by omega]; exact y
        · rw [jadd_eq (by omega) (by omega), show 4 * c + ((j + 1 : Nat) : Int) + -1 = 4 * c + (j : Int) by omega]
          refine ih (by omega) (by omega) (fun σ' h1 => h σ' ?_)
          simp only [fjF]
          rw [if_neg (fun q => by
            rcases q with q | q
            · exact e q
            · rw [show ((j : Int) + 1) = ((j + 1 : Nat) : Int) by omega] at q; exact y q)]
          exact h1
  have l51 : WP GC M_X0_nextOrder 51 [some (mr 35), none, some (mi (4 * c)), some (mi (4 * c + ((z - 1 : Nat) : Int))), some (mi (4 * c + (fiF f (z - 1) : Int) - 1)), none, none, none] [] σ Q := by
    apply b_X0_nextOrder_35_51
    by_cases e : fiF f (z - 1) = 0
    · refine bf (by omega) ?_
      have h := hQ σ
      unfold nxF at h
      rw [if_pos e] at h
      exact h hA
    · refine bt (by omega) ?_
      unfold nxF at hQ
      rw [if_neg e] at hQ
      obtain ⟨i, hi⟩ : ∃ i, fiF f (z - 1) = i + 1 := ⟨fiF f (z - 1) - 1, by omega⟩
      rw [hi] at hQ ⊢
      rw [show 4 * c + ((i + 1 : Nat) : Int) - 1 = 4 * c + (i : Int) by omega]
      refine l62 i (by omega) (z - 1) (by omega) (by omega) (fun σ' h1 => ?_)
      refine hQ σ' ?_
      rw [show (((i + 1 : Nat) : Int) - 1) = (i : Int) by omega, show i + 1 - 1 = i by omega]
      exact h1
  have l20 : ∀ n : Nat, n < z → fiF f n = fiF f (z - 1) → WP GC M_X0_nextOrder 20 [some (mr 35), none, some (mi (4 * c)), some (mi (4 * c + ((z - 1 : Nat) : Int))), some (mi (4 * c + (n : Int) - 1)), none, none, none] [] σ Q := by
    intro n
    induction n with
    | zero =>
      intro _ hf
      apply b_X0_nextOrder_35_20
      refine bt (by omega) ?_
      rw [← hf] at l51
      exact l51
    | succ n ih =>
      intro hn hf
      have a1 := hA.2.1 n (by omega) (by omega)
      have a2 := hA.2.1 ((n : Int) + 1) (by omega) (by omega)
      apply b_X0_nextOrder_35_20
      rw [show 4 * c + ((n + 1 : Nat) : Int) - 1 = 4 * c + (n : Int) by omega, jadd_eq (b := 1) (by omega) (by omega), Int.add_assoc, a1, a2]
      simp only [fiF] at hf
      refine bf (by omega) ⟨by omega, by omega, fun y => ?_, fun y => ?_⟩
      · rw [if_pos y] at hf
        rw [← hf, show 4 * c + ((n + 1 : Nat) : Int) - 1 = 4 * c + (n : Int) by omega] at l51
        exact l51
      · rw [if_neg y] at hf
        rw [jadd_eq (by omega) (by omega), show 4 * c + (n : Int) + -1 = 4 * c + (n : Int) - 1 by omega]
        exact ih (by omega) hf
  apply e_X0_nextOrder_35
  rw [hA.1 37 (by decide), h37, jmul_eq (by omega) (by omega), Int.mul_comm c 4, jadd_eq (by omega) (by omega), jsub_eq (a := 4 * c + (z : Int)) (by omega) (by omega), jsub_eq (by omega) (by omega), show 4 * c + (z : Int) - 1 = 4 * c + ((z - 1 : Nat) : Int) by omega]
  exact ⟨hc, l20 (z - 1) (by omega) rfl⟩
