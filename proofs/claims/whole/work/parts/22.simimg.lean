/-! image, restore in step -/
theorem cpA {c : Int} (h : 0 ≤ c ∧ c < 4) : (cp c = 1 ∧ ci c = c) ∧ (cp (4 + c) = 2 ∧ ci (4 + c) = c) ∧ (cp (8 + c) = 3 ∧ ci (8 + c) = c) := by
  unfold cp ci
  rw [if_pos (by omega), if_pos (by omega), if_pos (by omega), if_pos (by omega), if_pos (by omega), if_pos (by omega)]
  omega
theorem cpB {c : Int} (h : 0 ≤ c ∧ c < 16) : cp (12 + c) = 4 ∧ ci (12 + c) = c := by
  unfold cp ci
  rw [if_neg (by omega), if_pos (by omega), if_neg (by omega), if_pos (by omega)]
  omega
theorem cpC {c : Int} (h : 0 ≤ c ∧ c < 8) : (cp (28 + c) = 5 ∧ ci (28 + c) = c) ∧ (cp (36 + c) = 6 ∧ ci (36 + c) = c) ∧ (cp (44 + c) = 7 ∧ ci (44 + c) = c) ∧ (cp (52 + c) = 8 ∧ ci (52 + c) = c) := by
  unfold cp ci
  simp only [if_neg (show ¬ 28 + c < 12 by omega), if_neg (show ¬ 28 + c < 28 by omega), if_pos (show 28 + c < 60 by omega), if_neg (show ¬ 36 + c < 12 by omega), if_neg (show ¬ 36 + c < 28 by omega), if_pos (show 36 + c < 60 by omega), if_neg (show ¬ 44 + c < 12 by omega), if_neg (show ¬ 44 + c < 28 by omega), if_pos (show 44 + c < 60 by omega), if_neg (show ¬ 52 + c < 12 by omega), if_neg (show ¬ 52 + c < 28 by omega), if_pos (show 52 + c < 60 by omega)]
  omega
theorem cpD {c : Int} (h : 0 ≤ c ∧ c < 64) : cp (60 + c) = 9 ∧ ci (60 + c) = c := by
  unfold cp ci
  rw [if_neg (by omega), if_neg (by omega), if_neg (by omega), if_pos (by omega), if_neg (by omega), if_neg (by omega), if_neg (by omega), if_pos (by omega)]
  omega
theorem cpE : (cp 124 = 0 ∧ ci 124 = 4) ∧ (cp 125 = 0 ∧ ci 125 = 9) ∧ (cp 126 = 0 ∧ ci 126 = 11) ∧ (cp 127 = 0 ∧ ci 127 = 12) := by decide
/-- a row of 128 holds what another memory holds -/
theorem TCP.row {τ ρ : Mem} {row : Int → Int} (h : ∀ j, 0 ≤ j → j < 128 → row j = τ (cp j) (ci j)) (h2 : ∀ σ', σ' 17 = row → kv σ' = ρ) : TCP τ ρ := by
  have e := h2 (fun k => if k = 17 then row else fun _ => 0) rfl
  rw [← e]
  have e0 := cpE
  refine ⟨⟨?_, ?_, ?_, ?_⟩, fun c a b => ⟨?_, ?_, ?_⟩, fun c a b => ?_, fun c a b => ⟨?_, ?_, ?_, ?_⟩, fun c a b => ?_⟩
  · show row 124 = _; rw [h _ (by omega) (by omega), e0.1.1, e0.1.2]
  · show row 125 = _; rw [h _ (by omega) (by omega), e0.2.1.1, e0.2.1.2]
  · show row 126 = _; rw [h _ (by omega) (by omega), e0.2.2.1.1, e0.2.2.1.2]
  · show row 127 = _; rw [h _ (by omega) (by omega), e0.2.2.2.1, e0.2.2.2.2]
  · have q := cpA ⟨a, b⟩; show row c = _; rw [h _ (by omega) (by omega), q.1.1, q.1.2]
  · have q := cpA ⟨a, b⟩; show row (4 + c) = _; rw [h _ (by omega) (by omega), q.2.1.1, q.2.1.2]
  · have q := cpA ⟨a, b⟩; show row (8 + c) = _; rw [h _ (by omega) (by omega), q.2.2.1, q.2.2.2]
  · have q := cpB ⟨a, b⟩; show row (12 + c) = _; rw [h _ (by omega) (by omega), q.1, q.2]
  · have q := cpC ⟨a, b⟩; show row (28 + c) = _; rw [h _ (by omega) (by omega), q.1.1, q.1.2]
  · have q := cpC ⟨a, b⟩; show row (36 + c) = _; rw [h _ (by omega) (by omega), q.2.1.1, q.2.1.2]
  · have q := cpC ⟨a, b⟩; show row (44 + c) = _; rw [h _ (by omega) (by omega), q.2.2.1.1, q.2.2.1.2]
  · have q := cpC ⟨a, b⟩; show row (52 + c) = _; rw [h _ (by omega) (by omega), q.2.2.2.1, q.2.2.2.2]
  · have q := cpD ⟨a, b⟩; show row (60 + c) = _; rw [h _ (by omega) (by omega), q.1, q.2]
theorem TCP.kv {τ τ' : Mem} (h : ∀ j, 0 ≤ j → j < 128 → τ' 17 j = τ (cp j) (ci j)) : TCP τ (kv τ') := TCP.row (row := τ' 17) h (fun σ' e => kv_fr e)
theorem TCP.symm {τ ρ : Mem} (h : TCP τ ρ) : TCP ρ τ := by
  obtain ⟨⟨a, b, c, d⟩, e, f, g, i⟩ := h
  exact ⟨⟨a.symm, b.symm, c.symm, d.symm⟩, fun c a b => ⟨(e c a b).1.symm, (e c a b).2.1.symm, (e c a b).2.2.symm⟩, fun c a b => (f c a b).symm, fun c a b => ⟨(g c a b).1.symm, (g c a b).2.1.symm, (g c a b).2.2.1.symm, (g c a b).2.2.2.symm⟩, fun c a b => (i c a b).symm⟩
theorem c_keep {σ : Mem} {Q : Int → Mem → Prop} (hQ : ∀ σ', (∀ k, k < 13 ∨ 24 < k → σ' k = σ k) → SCP 0 12 σ σ' → Q 0 σ') : HT GC M_X4_become [mr 13, mr 1] σ Q := by
  apply e_X4_become_13_1; apply e_X0_become_15_3; apply e_X6_become_20_8
  refine hQ _ (fun k hk => ?_) ⟨?_, fun c a b => ?_, fun c a b => ?_, fun c a b => ?_, fun c a b => ?_⟩
  · rw [mupd_ne _ (by omega), mupd_ne _ (by omega), mcpy_ne _ (by omega), mcpy_ne _ (by omega), mcpy_ne _ (by omega), mcpy_ne _ (by omega), mcpy_ne _ (by omega), mupd_ne _ (by omega), mcpy_ne _ (by omega), mcpy_ne _ (by omega), mcpy_ne _ (by omega), mcpy_ne _ (by omega), mupd_ne _ (by omega)]
  all_goals simp (config := { decide := true }) [mupd, mcpy]
  all_goals omega
theorem c_back {σ : Mem} {Q : Int → Mem → Prop} (hQ : ∀ σ', (∀ k, k < 1 ∨ 12 < k → σ' k = σ k) → SCP 12 0 σ σ' → Q 0 σ') : HT GC M_X4_become [mr 1, mr 13] σ Q := by
  apply e_X4_become_1_13; apply e_X0_become_3_15; apply e_X6_become_8_20
  refine hQ _ (fun k hk => ?_) ⟨?_, fun c a b => ?_, fun c a b => ?_, fun c a b => ?_, fun c a b => ?_⟩
  · rw [mupd_ne _ (by omega), mupd_ne _ (by omega), mcpy_ne _ (by omega), mcpy_ne _ (by omega), mcpy_ne _ (by omega), mcpy_ne _ (by omega), mcpy_ne _ (by omega), mupd_ne _ (by omega), mcpy_ne _ (by omega), mcpy_ne _ (by omega), mcpy_ne _ (by omega), mcpy_ne _ (by omega), mupd_ne _ (by omega)]
  all_goals simp (config := { decide := true }) [mupd, mcpy]
  all_goals omega
theorem sim_image {σ τ : Mem} (hR : RR σ τ) : SIM M_X8_image M_X9_image [mr 0] σ τ RR := by
  refine ⟨1, fun σ' => (∀ k, k ≠ 0 → k < 13 ∨ 24 < k → σ' k = σ k) ∧ σ' 0 2 = 1 ∧ SCP 0 12 σ σ', fun τ' => (∀ q, q ≠ 0 → q ≠ 17 → τ' q = τ q) ∧ (∀ j, j ≠ 26 → τ' 0 j = τ 0 j) ∧ τ' 0 26 = 1 ∧ (∀ j, 0 ≤ j → j < 128 → τ' 17 j = τ (cp j) (ci j)), ?_, ?_, ?_⟩
  · apply e_X8_image_0
    refine c_keep (fun σ' h1 h2 => ⟨rfl, fun k k0 hk => by rw [mupd_ne _ k0, h1 k hk], by rw [mupd_at], ?_⟩)
    unfold SCP at *
    simp only [mupd_ne _ (show 12 + 1 ≠ 0 by decide), mupd_ne _ (show 12 + 2 ≠ 0 by decide), mupd_ne _ (show 12 + 3 ≠ 0 by decide), mupd_ne _ (show 12 + 4 ≠ 0 by decide), mupd_ne _ (show 12 + 5 ≠ 0 by decide), mupd_ne _ (show 12 + 6 ≠ 0 by decide), mupd_ne _ (show 12 + 7 ≠ 0 by decide), mupd_ne _ (show 12 + 8 ≠ 0 by decide), mupd_ne _ (show 12 + 9 ≠ 0 by decide), mupd_ne _ (show 12 + 10 ≠ 0 by decide), mupd_ne _ (show 12 + 11 ≠ 0 by decide), mupd_ne _ (show 12 + 12 ≠ 0 by decide)]
    exact h2
  · apply e_X9_image_0
    exact l_imageM (τ0 := τ) (fun τ' a b c d => ⟨rfl, a, b, c, d⟩) 128 0 τ (by omega) (fun _ _ => rfl) (fun j a b => by omega)
  · rintro σ' τ' - - ⟨s1, s0, s2⟩ ⟨t1, t0, t26, t17⟩
    have hT := TCP.kv t17
    refine ⟨hR.1.fr (fun k a b => t1 k (by omega) (by omega)) (fun j a => t0 j (by omega)), hR.2.1.fr (fun k a b => s1 k (by omega) (by omega)) (fun k a b => t1 k (by omega) (by omega)) (fun j a => t0 j (by omega)), ⟨by rw [s0, t26], Or.inr ⟨t26, hR.1.cp hT, ?_⟩⟩, hR.2.2.2.1.fr (by rw [s1 25 (by omega) (by omega)]) (s1 26 (by omega) (by omega)) (t0 14 (by decide)) (t1 10 (by omega) (by omega)), hR.2.2.2.2.fr (fun k a b => s1 k (by omega) (by omega)) (fun k a b => t1 k (by omega) (by omega))⟩
    exact EQ.cp (o := 0) (q := 12) hR.2.1 hR.1 s2 hT
theorem sim_restore {σ τ : Mem} (hR : RR σ τ) : SIM M_X8_restore M_X9_restore [mr 0] σ τ RR := by
  obtain ⟨i1, i2⟩ := hR.2.2.1
  rcases i2 with i2 | ⟨i2, iV, iE⟩
  · refine sim_same hR (-4) ?_ ?_
    · apply e_X8_restore_0
      exact nf (by rw [i1, i2]) ⟨rfl, rfl⟩
    · apply e_X9_restore_0
      exact nf i2 ⟨rfl, rfl⟩
  · refine ⟨1, fun σ' => (∀ k, k < 1 ∨ 12 < k → σ' k = σ k) ∧ SCP 12 0 σ σ', fun τ' => (∀ q, 10 ≤ q → τ' q = τ q) ∧ (∀ j, j ≠ 4 → j ≠ 9 → j ≠ 11 → j ≠ 12 → τ' 0 j = τ 0 j) ∧ (∀ j, 0 ≤ j → j < 128 → τ' (cp j) (ci j) = τ 17 j), ?_, ?_, ?_⟩
    · apply e_X8_restore_0
      exact nt (by omega) (c_back (fun σ' a b => ⟨rfl, a, b⟩))
    · apply e_X9_restore_0
      exact nt (by omega) (l_restM (τ0 := τ) (fun τ' a b c => ⟨rfl, a, b, c⟩) 128 0 τ (by omega) (fun _ _ => rfl) (fun _ _ _ _ _ => rfl) (fun j a b => by omega))
    · rintro σ' τ' - - ⟨s1, s2⟩ ⟨t1, t0, t17⟩
      have hT : TCP (kv τ) τ' := (TCP.row (τ := τ') (ρ := kv τ) (row := τ 17) (fun j a b => (t17 j a b).symm) (fun σ' e => kv_fr e)).symm
      refine ⟨iV.cp hT, EQ.cp (o := 12) (q := 0) iE iV s2 hT, hR.2.2.1.fr (fun k a b => s1 k (by omega)) (by rw [s1 0 (by omega)]) (t1 17 (by decide)) (t0 26 (by decide) (by decide) (by decide) (by decide)), hR.2.2.2.1.fr (by rw [s1 25 (by omega)]) (s1 26 (by omega)) (t0 14 (by decide) (by decide) (by decide) (by decide)) (t1 10 (by decide)), hR.2.2.2.2.fr (fun k a b => s1 k (by omega)) (fun k a b => t1 k (by omega))⟩
