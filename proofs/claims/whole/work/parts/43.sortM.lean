/-! the reference sorts a turn -/
theorem l_inM {k : Nat} {v c x2 x3 x4 x5 x6 : Int} {τ0 : Mem} {Q : Int → Mem → Prop} (hk : k < 4) : ∀ (j : Nat) (o : Int → Int) (τ : Mem), j ≤ k → (∀ q, q ≠ 12 → τ q = τ0 q) → τ0 14 k = v → (∀ i : Int, 0 ≤ i → i ≤ k → i ≠ j → τ 12 i = o i) → (∀ τ', (∀ q, q ≠ 12 → τ' q = τ0 q) → (∀ i : Int, 0 ≤ i → i ≤ k → τ' 12 i = inM v j o i) → WP GM M_X9_dealt 58 [some (mr 0), some (mi c), some (mi x2), some (mi x3), some (mi x4), some (mi x5), some (mi x6), some (mi ((k + 1 : Nat) : Int)), none, none, none] [] τ' Q) → WP GM M_X9_dealt 87 [some (mr 0), some (mi c), some (mi x2), some (mi x3), some (mi x4), some (mi x5), some (mi x6), some (mi (k : Int)), some (mi (j : Int)), none, none] [] τ Q
  | 0, o, τ, hj, f, hv, a, hQ => by
    apply b_X9_dealt_0_87
    refine bt (by omega) ?_
    apply b_X9_dealt_0_133
    rw [f 14 (by decide), hv, jadd_eq (by omega) (by omega), show (k : Int) + 1 = ((k + 1 : Nat) : Int) by omega]
    refine ⟨by omega, by omega, hQ _ (fun q hq => by rw [mupd_ne _ hq, f q hq]) (fun i i0 i1 => ?_)⟩
    simp only [inM]
    unfold upF
    rw [mupd_ap]
    by_cases e : i = 0
    · rw [if_pos (by omega), if_pos e]
    · rw [if_neg (by omega), if_neg e]; exact a i i0 i1 (by omega)
  | j + 1, o, τ, hj, f, hv, a, hQ => by
    have aj := a (j : Int) (by omega) (by omega) (by omega)
    simp only [inM] at hQ
    apply b_X9_dealt_0_87
    rw [jsub_eq (by omega) (by omega), show ((j + 1 : Nat) : Int) - 1 = (j : Int) by omega, aj, f 14 (by decide), hv]
    refine bf (by omega) ⟨by omega, by omega, fun y => ?_, fun y => ⟨by omega, by omega, ?_⟩⟩
    · rw [if_pos y] at hQ
      apply b_X9_dealt_0_133
      rw [f 14 (by decide), hv, jadd_eq (by omega) (by omega), show (k : Int) + 1 = ((k + 1 : Nat) : Int) by omega]
      refine ⟨by omega, by omega, hQ _ (fun q hq => by rw [mupd_ne _ hq, f q hq]) (fun i i0 i1 => ?_)⟩
      unfold upF
      rw [mupd_ap]
      by_cases e : i = (j : Int) + 1
      · rw [if_pos (by omega), if_pos e]
      · rw [if_neg (by omega), if_neg e]; exact a i i0 i1 (by omega)
    · rw [if_neg y] at hQ
      rw [jadd_eq (by omega) (by omega), show ((j + 1 : Nat) : Int) + -1 = (j : Int) by omega]
      refine l_inM hk j (upF o ((j : Int) + 1) (o j)) _ (by omega) (fun q hq => by rw [mupd_ne _ hq, f q hq]) hv (fun i i0 i1 i2 => ?_) hQ
      unfold upF
      rw [mupd_ap]
      by_cases e : i = (j : Int) + 1
      · rw [if_pos (by omega), if_pos e]
      · rw [if_neg (by omega), if_neg e]; exact a i i0 i1 (by omega)
theorem m_sort {z : Nat} {c x2 x3 x4 x6 : Int} {h : Int → Int} {τ0 : Mem} {Q : Int → Mem → Prop} (hz : 1 ≤ z ∧ z ≤ 4) (hc : 0 ≤ c ∧ c < 4) (hh : ∀ j : Int, 0 ≤ j → j < z → τ0 4 (4 * c + j) = h j) (hQ : ∀ τ', (∀ q, q ≠ 12 → q ≠ 14 → τ' q = τ0 q) → (∀ j : Int, 0 ≤ j → j < z → τ' 12 j = isM h z 0 (fun _ => 0) j) → (∀ j : Int, 0 ≤ j → j < z → τ' 14 j = h j) → WP GM M_X9_dealt 167 [some (mr 0), some (mi c), some (mi x2), some (mi x3), some (mi x4), some (mi (z : Int)), some (mi x6), some (mi (-4)), some (mi 1), none, none] [] (mupd τ' 2 c 0) Q) : WP GM M_X9_dealt 58 [some (mr 0), some (mi c), some (mi x2), some (mi x3), some (mi x4), some (mi (z : Int)), some (mi x6), some (mi 0), none, none, none] [] τ0 Q := by
  have key : ∀ (m k : Nat) (o : Int → Int) (τ : Mem), k + m = z → (∀ q, q ≠ 12 → q ≠ 14 → τ q = τ0 q) → (∀ j : Int, 0 ≤ j → j < k → τ 12 j = o j) → (∀ j : Int, 0 ≤ j → j < k → τ 14 j = h j) → (∀ τ', (∀ q, q ≠ 12 → q ≠ 14 → τ' q = τ0 q) → (∀ j : Int, 0 ≤ j → j < z → τ' 12 j = isM h m k o j) → (∀ j : Int, 0 ≤ j → j < z → τ' 14 j = h j) → WP GM M_X9_dealt 167 [some (mr 0), some (mi c), some (mi x2), some (mi x3), some (mi x4), some (mi (z : Int)), some (mi x6), some (mi (-4)), some (mi 1), none, none] [] (mupd τ' 2 c 0) Q) → WP GM M_X9_dealt 58 [some (mr 0), some (mi c), some (mi x2), some (mi x3), some (mi x4), some (mi (z : Int)), some (mi x6), some (mi (k : Int)), none, none, none] [] τ Q := by
    intro m
    induction m with
    | zero =>
      intro k o τ hk f a b hq
      obtain rfl : k = z := by omega
      apply b_X9_dealt_0_58
      exact bt (Int.le_refl _) ⟨hc, hq τ f a b⟩
    | succ m ih =>
      intro k o τ hk f a b hq
      simp only [isM] at hq
      apply b_X9_dealt_0_58
      rw [jmul_eq (by omega) (by omega), jadd_eq (by omega) (by omega), f 4 (by decide) (by decide), hh k (by omega) (by omega)]
      refine bf (by omega) ⟨by omega, by omega, ?_⟩
      refine l_inM (τ0 := mupd τ 14 k (h k)) (v := h k) (by omega) k o _ (Nat.le_refl _) (fun _ _ => rfl) (by rw [mupd_at]) (fun i i0 i1 i2 => by rw [mupd_rp (by decide)]; exact a i i0 (by omega)) (fun τ' g1 g2 => ?_)
      refine ih (k + 1) (inM (h k) k o) τ' (by omega) (fun q q1 q2 => by rw [g1 q q1, mupd_ne _ q2, f q q1 q2]) (fun j j0 j1 => g2 j j0 (by omega)) (fun j j0 j1 => ?_) hq
      rw [g1 14 (by decide), mupd_ap]
      by_cases e : j = k
      · rw [if_pos e, e]
      · rw [if_neg e]; exact b j j0 (by omega)
  exact key z 0 (fun _ => 0) τ0 (by omega) (fun _ _ _ => rfl) (fun j a b => by omega) (fun j a b => by omega) hQ
