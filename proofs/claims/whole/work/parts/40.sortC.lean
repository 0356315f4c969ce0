/-! the class sorts a turn, and takes the next order -/
def AC (z : Nat) (c : Int) (f : Int → Int) (σ0 σ : Mem) : Prop := (∀ q, q ≠ 36 → σ q = σ0 q) ∧ (∀ j : Int, 0 ≤ j → j < z → σ 36 (4 * c + j) = f j) ∧ ∀ i, (i < 4 * c ∨ 4 * c + z ≤ i) → σ 36 i = σ0 36 i
theorem AC.sw {z : Nat} {c i j : Int} {f : Int → Int} {σ0 σ : Mem} (h : AC z c f σ0 σ) (hi : 0 ≤ i ∧ i < z) (hj : 0 ≤ j ∧ j < z) : AC z c (swF f i j) σ0 (mupd (mupd σ 36 (4 * c + i) (σ 36 (4 * c + j))) 36 (4 * c + j) (σ 36 (4 * c + i))) := by
  refine ⟨fun q hq => by rw [mupd_ne _ hq, mupd_ne _ hq, h.1 q hq], fun k k0 k1 => ?_, fun k hk => by rw [mupd_ri (by omega), mupd_ri (by omega)]; exact h.2.2 k hk⟩
  rw [mupd_ap, mupd_ap, h.2.1 i hi.1 hi.2, h.2.1 j hj.1 hj.2]
  unfold swF upF
  by_cases e : k = j
  · rw [if_pos (by omega), if_pos e]
  · rw [if_neg (by omega), if_neg e]
    by_cases e2 : k = i
    · rw [if_pos (by omega), if_pos e2]
    · rw [if_neg (by omega), if_neg e2]; exact h.2.1 k k0 k1
theorem c_swap {z : Nat} {c i j : Int} {f : Int → Int} {σ0 σ : Mem} {Q : Int → Mem → Prop} (hz : z ≤ 4) (hc : 0 ≤ c ∧ c < 4) (h : AC z c f σ0 σ) (hi : 0 ≤ i ∧ i < z) (hj : 0 ≤ j ∧ j < z) (hQ : ∀ σ', AC z c (swF f i j) σ0 σ' → Q 0 σ') : HT GC M_X0_swap [mr 35, mi (4 * c + i), mi (4 * c + j)] σ Q := by
  apply e_X0_swap_35
  exact ⟨by omega, by omega, by omega, by omega, hQ _ (h.sw hi hj)⟩
theorem l_sortC {z : Nat} {c : Int} {σ0 : Mem} {Q : Int → Mem → Prop} (hz : z ≤ 4) (hc : 0 ≤ c ∧ c < 4) (h37 : σ0 37 c = z) {i : Nat} (hi : i < z) : ∀ (m j : Nat) (f : Int → Int) (σ : Mem), j + m = z → AC z c f σ0 σ → (∀ σ', AC z c (sjC i m j f) σ0 σ' → WP GC M_X0_sortTurn 6 [some (mr 35), some (mi c), some (mi (4 * c)), some (mi (4 * c + ((i : Int) + 1))), none] [] σ' Q) → WP GC M_X0_sortTurn 23 [some (mr 35), some (mi c), some (mi (4 * c)), some (mi (4 * c + i)), some (mi (4 * c + j))] [] σ Q
  | 0, j, f, σ, hj, hA, hQ => by
    apply b_X0_sortTurn_35_23
    rw [hA.1 37 (by decide), h37, jadd_eq (a := 4 * c) (by omega) (by omega), jadd_eq (by omega) (by omega), Int.add_assoc]
    exact ⟨hc, bt (by omega) (hQ σ hA)⟩
  | m + 1, j, f, σ, hj, hA, hQ => by
    have a1 := hA.2.1 i (by omega) (by omega)
    have a2 := hA.2.1 j (by omega) (by omega)
    have nx : ∀ f' σ', AC z c f' σ0 σ' → (∀ σ2, AC z c (sjC i m (j + 1) f') σ0 σ2 → WP GC M_X0_sortTurn 6 [some (mr 35), some (mi c), some (mi (4 * c)), some (mi (4 * c + ((i : Int) + 1))), none] [] σ2 Q) → WP GC M_X0_sortTurn 59 [some (mr 35), some (mi c), some (mi (4 * c)), some (mi (4 * c + i)), some (mi (4 * c + j))] [] σ' Q := by
      intro f' σ' h1 h2
      apply b_X0_sortTurn_35_59
      rw [jadd_eq (by omega) (by omega), show 4 * c + (j : Int) + 1 = 4 * c + ((j + 1 : Nat) : Int) by omega]
      exact l_sortC hz hc h37 hi m (j + 1) f' σ' (by omega) h1 h2
    simp only [sjC] at hQ
    apply b_X0_sortTurn_35_23
    rw [hA.1 37 (by decide), h37, jadd_eq (a := 4 * c) (b := z) (by omega) (by omega), a1, a2]
    refine ⟨hc, bf (by omega) ⟨by omega, by omega, fun y => ?_, fun y => ?_⟩⟩
    · rw [if_pos y] at hQ
      exact nx f σ hA hQ
    · rw [if_neg y] at hQ
      exact c_swap hz hc hA (by omega) (by omega) (fun σ' h1 => nx _ σ' h1 hQ)
theorem c_sort {z : Nat} {c : Int} {f0 : Int → Int} {σ0 : Mem} {Q : Int → Mem → Prop} (hz : z ≤ 4) (hc : 0 ≤ c ∧ c < 4) (h37 : σ0 37 c = z) (hA0 : AC z c f0 σ0 σ0) (hQ : ∀ σ', AC z c (siC z 0 f0) σ0 σ' → Q 0 σ') : HT GC M_X0_sortTurn [mr 35, mi c] σ0 Q := by
  have key : ∀ (m i : Nat) (f : Int → Int) (σ : Mem), i + m = z → AC z c f σ0 σ → (∀ σ', AC z c (siC m i f) σ0 σ' → Q 0 σ') → WP GC M_X0_sortTurn 6 [some (mr 35), some (mi c), some (mi (4 * c)), some (mi (4 * c + i)), none] [] σ Q := by
    intro m
    induction m with
    | zero =>
      intro i f σ hi hA h
      apply b_X0_sortTurn_35_6
      rw [hA.1 37 (by decide), h37, jadd_eq (a := 4 * c) (b := z) (by omega) (by omega)]
      exact ⟨hc, bt (by omega) (h σ hA)⟩
    | succ m ih =>
      intro i f σ hi hA h
      apply b_X0_sortTurn_35_6
      rw [hA.1 37 (by decide), h37, jadd_eq (a := 4 * c) (b := z) (by omega) (by omega), jadd_eq (by omega) (by omega), show 4 * c + (i : Int) + 1 = 4 * c + ((i + 1 : Nat) : Int) by omega]
      refine ⟨hc, bf (by omega) (l_sortC hz hc h37 (by omega) m (i + 1) f σ (by omega) hA (fun σ' h1 => ?_))⟩
      rw [show ((i : Int) + 1) = ((i + 1 : Nat) : Int) by omega]
      exact ih (i + 1) _ σ' (by omega) h1 h
  apply e_X0_sortTurn_35
  rw [jmul_eq (by omega) (by omega), Int.mul_comm c 4]
  have h := key z 0 f0 σ0 (by omega) hA0 hQ
  rw [show 4 * c + ((0 : Nat) : Int) = 4 * c by omega] at h
  exact h
