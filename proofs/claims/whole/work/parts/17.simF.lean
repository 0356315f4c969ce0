/-! copy, owes -/
theorem l_cp1 {f i t j n : Int} {Q : Int → Mem → Prop} (hf : 0 ≤ f ∧ f < 4) (hn : 0 ≤ n ∧ n ≤ 24) (hi : 0 ≤ i ∧ i + n ≤ 24) : ∀ (m : Nat) (k : Nat) (τ : Mem), (k : Int) + m = n → (∀ τ', (∀ a, a ≠ 22 → τ' a = τ a) → (∀ q : Int, τ' 22 q = if (k : Int) ≤ q ∧ q < n then τ 20 (24 * f + i + q) else τ 22 q) → WP GM M_X9_copy 154 [some (mr 0), none, none, some (mi t), some (mi j), some (mi n), some (mi 0)] [] τ' Q) → WP GM M_X9_copy 117 [some (mr 0), some (mi f), some (mi i), some (mi t), some (mi j), some (mi n), some (mi (k : Int))] [] τ Q
  | 0, k, τ, hk, hQ => b_X9_copy_0_117 _ _ _ _ _ _ ⟨fun _ => hQ τ (fun _ _ => rfl) (fun q => by rw [if_neg (by omega)]), fun z => absurd (by omega) z⟩
  | m + 1, k, τ, hk, hQ => by
    apply b_X9_copy_0_117
    rw [jmul_eq (by omega) (by omega), jadd_eq (a := 24 * f) (by omega) (by omega), jadd_eq (a := 24 * f + i) (by omega) (by omega), jadd_eq (a := (k : Int)) (by omega) (by omega)]
    refine ⟨fun z => absurd z (by omega), fun _ => ⟨by omega, by omega, ?_⟩⟩
    have ih := l_cp1 (t := t) (j := j) (Q := Q) hf hn hi m (k + 1) (mupd τ 22 k (τ 20 (24 * f + i + k))) (by omega)
    refine ih (fun τ' s1 s2 => hQ τ' (fun a ha => by rw [s1 a ha, mupd_ne _ ha]) (fun q => ?_))
    rw [s2 q, mupd_rp (by decide)]
    unfold mupd
    by_cases c1 : ((k + 1 : Nat) : Int) ≤ q ∧ q < n
    · rw [if_pos c1, if_pos (by omega)]
    · rw [if_neg c1]
      by_cases c2 : q = k
      · rw [if_pos ⟨rfl, c2⟩, if_pos (by omega), c2]
      · rw [if_neg (fun z => c2 z.2), if_neg (by omega)]
theorem l_cp2 {t j n : Int} {Q : Int → Mem → Prop} (ht : 0 ≤ t ∧ t < 4) (hn : 0 ≤ n ∧ n ≤ 24) (hj : 0 ≤ j ∧ j + n ≤ 24) : ∀ (m : Nat) (k : Nat) (τ : Mem), (k : Int) + m = n → (∀ τ', (∀ a, a ≠ 20 → τ' a = τ a) → (∀ q, τ' 20 q = if 24 * t + j + k ≤ q ∧ q < 24 * t + j + n then τ 22 (q - (24 * t + j)) else τ 20 q) → Q n τ') → WP GM M_X9_copy 154 [some (mr 0), none, none, some (mi t), some (mi j), some (mi n), some (mi (k : Int))] [] τ Q
  | 0, k, τ, hk, hQ => b_X9_copy_0_154 _ _ _ _ ⟨fun _ => hQ τ (fun _ _ => rfl) (fun q => by rw [if_neg (by omega)]), fun z => absurd (by omega) z⟩
  | m + 1, k, τ, hk, hQ => by
    apply b_X9_copy_0_154
    rw [jmul_eq (by omega) (by omega), jadd_eq (a := 24 * t) (by omega) (by omega), jadd_eq (a := 24 * t + j) (by omega) (by omega), jadd_eq (a := (k : Int)) (by omega) (by omega)]
    refine ⟨fun z => absurd z (by omega), fun _ => ⟨by omega, by omega, ?_⟩⟩
    have ih := l_cp2 (Q := Q) ht hn hj m (k + 1) (mupd τ 20 (24 * t + j + k) (τ 22 k)) (by omega)
    refine ih (fun τ' s1 s2 => hQ τ' (fun a ha => by rw [s1 a ha, mupd_ne _ ha]) (fun q => ?_))
    rw [s2 q, mupd_rp (by decide)]
    unfold mupd
    by_cases c1 : 24 * t + j + ((k + 1 : Nat) : Int) ≤ q ∧ q < 24 * t + j + n
    · rw [if_pos c1, if_pos (by omega)]
    · rw [if_neg c1]
      by_cases c2 : q = 24 * t + j + k
      · rw [if_pos ⟨rfl, c2⟩, if_pos (by omega), c2]
        congr 1
        omega
      · rw [if_neg (fun z => c2 z.2), if_neg (by omega)]
theorem SH1.held {σ τ : Mem} {s : Int} (h : SH1 σ τ s) : (σ 46 s = 0 ↔ τ 18 s < 0) := by
  rcases h with h | h <;> omega
theorem sim_copy {f i t j n : Int} {σ τ : Mem} (hR : RR σ τ) (hn32 : R32 n) : SIM M_X8_copy M_X9_copy [mr 0, mi f, mi i, mi t, mi j, mi n] σ τ RR := by
  by_cases h : (0 ≤ f ∧ f < 4) ∧ (0 ≤ t ∧ t < 4)
  · have hF := hR.2.2.2.2.1 f h.1.1 h.1.2
    have hT := hR.2.2.2.2.1 t h.2.1 h.2.2
    by_cases hh : τ 18 f < 0 ∨ τ 18 t < 0
    · refine sim_same hR (-11) ?_ ?_
      · apply e_X8_copy_0
        refine c_within (fun _ => br1 (c_within (fun _ => bn1 ⟨h.1, fun z => ⟨rfl, rfl⟩, fun z => ⟨h.2, fun z2 => ?_, fun z2 => ⟨rfl, rfl⟩⟩⟩) (fun z => absurd h.2 z))) (fun z => absurd h.1 z)
        rw [hF.held] at z
        rw [hT.held] at z2
        omega
      · apply e_X9_copy_0
        refine c_in (fun _ => br1 (c_in (fun _ => bn1 ⟨h.1, fun z => ⟨rfl, rfl⟩, fun z => ⟨h.2, fun z2 => by omega, fun z2 => ⟨rfl, rfl⟩⟩⟩) (fun z => absurd (by omega) z))) (fun z => absurd (by omega) z)
    · have hf0 : ¬ σ 46 f = 0 := fun z => hh (Or.inl (hF.held.mp z))
      have ht0 : ¬ σ 46 t = 0 := fun z => hh (Or.inr (hT.held.mp z))
      have l47 : σ 47 t = τ 18 t := by rcases hT with q | q
                                       · exact absurd q.1 ht0
                                       · exact q.2.1
      have hgo : ∀ (r : Int) (PC PM : Mem → Prop), WP GC M_X8_copy 95 [some (mr 0), some (mi f), some (mi i), some (mi t), some (mi j), some (mi n), some (mi (if fnd τ f (τ 18 t) i n = 0 then fnd τ t (τ 18 t) j n else fnd τ f (τ 18 t) i n))] [] σ (fun a σ' => a = r ∧ PC σ') → ((τ 18 f = τ 18 t → (n < 0 → (-13 = r ∧ PM τ)) ∧ (¬ n < 0 → ((0 ≤ i ∧ i ≤ τ 19 f - n) → (0 ≤ j ∧ j ≤ τ 19 t - n) → WP GM M_X9_copy 117 [some (mr 0), some (mi f), some (mi i), some (mi t), some (mi j), some (mi n), some (mi 0)] [] τ (fun a τ' => a = r ∧ PM τ')) ∧ (¬ ((0 ≤ i ∧ i ≤ τ 19 f - n) ∧ (0 ≤ j ∧ j ≤ τ 19 t - n)) → (-13 = r ∧ PM τ)))) ∧ (¬ τ 18 f = τ 18 t → (-12 = r ∧ PM τ))) → (∀ σ' τ', mokm σ' → mokm τ' → PC σ' → PM τ' → RR σ' τ') → SIM M_X8_copy M_X9_copy [mr 0, mi f, mi i, mi t, mi j, mi n] σ τ RR := by
        intro r PC PM hC hM hRR
        refine ⟨r, PC, PM, ?_, ?_, hRR⟩
        · apply e_X8_copy_0
          refine c_within (fun _ => br1 (c_within (fun _ => bn1 ⟨h.1, fun z => absurd z hf0, fun z => ⟨h.2, fun z2 => ⟨h.2, ?_⟩, fun z2 => absurd z2 ht0⟩⟩) (fun z => absurd h.2 z))) (fun z => absurd h.1 z)
          rw [l47]
          refine c_find (τ := τ) hF h.1 hn32 ⟨fun q => ?_, fun q => ⟨h.2, ?_⟩⟩
          · rw [if_neg q] at hC; exact hC
          · rw [if_pos q] at hC
            rw [l47]
            exact c_find (τ := τ) hT h.2 hn32 hC
        · apply e_X9_copy_0
          refine c_in (fun _ => br1 (c_in (fun _ => bn1 ⟨h.1, fun z => absurd (Or.inl z) hh, fun z => ⟨h.2, fun z2 => ⟨h.1, h.2, fun q => ⟨(hM.1 q).1, fun q1 => ⟨h.1, ?_⟩⟩, hM.2⟩, fun z2 => by omega⟩⟩) (fun z => absurd (by omega) z))) (fun z => absurd (by omega) z)
          have hfz : 0 ≤ τ 19 f ∧ τ 19 f ≤ 24 := by rcases hF with q | q
                                                    · omega
                                                    · exact q.2.2.2.2
          have htz : 0 ≤ τ 19 t ∧ τ 19 t ≤ 24 := by rcases hT with q | q
                                                    · omega
                                                    · exact q.2.2.2.2
          rw [jlsub_eq (by omega) (by omega)]
          have hM2 := (hM.1 q).2 q1
          refine c_in (fun q2 => br1 ⟨h.2, ?_⟩) (fun q2 => br0 (hM2.2 (fun q4 => q2 q4.1)))
          rw [jlsub_eq (by omega) (by omega)]
          exact c_in (fun q3 => bn1 (hM2.1 q2 q3)) (fun q3 => bn0 (hM2.2 (fun q4 => q3 q4.2)))
      by_cases h1 : fnd τ f (τ 18 t) i n = 0
      · have e18 : τ 18 f = τ 18 t := by
          have hx := h1
          unfold fnd at hx
          rw [if_neg (by omega)] at hx
          by_cases q : τ 18 f = τ 18 t
          · exact q
          · rw [if_pos q] at hx; omega
        have f1 := fnd_0 h1
        have zf := hF.sz h1
        have hfx : ∀ c : Prop, ¬ n < 0 → True := fun _ _ => trivial
        by_cases h2 : fnd τ t (τ 18 t) j n = 0
        · have f2 := fnd_0 h2
          have zt := hT.sz h2
          have ex : jadd (jmul f 24) i = 24 * f + i := by rw [jmul_eq (by omega) (by omega), jadd_eq (by omega) (by omega)]; omega
          have ey : jadd (jmul t 24) j = 24 * t + j := by rw [jmul_eq (by omega) (by omega), jadd_eq (by omega) (by omega)]; omega
          refine hgo n (· = mcpy σ 49 (24 * f + i) 49 (24 * t + j) n) (fun τ' => (∀ a, a ≠ 20 → a ≠ 22 → τ' a = τ a) ∧ ∀ q, τ' 20 q = if 24 * t + j ≤ q ∧ q < 24 * t + j + n then τ 20 (24 * f + i + (q - (24 * t + j))) else τ 20 q) ?_ ⟨fun _ => ⟨fun z => by omega, fun _ => ⟨fun _ _ => ?_, fun z => absurd (by omega) z⟩⟩, fun z => absurd e18 z⟩ ?_
          · rw [if_pos h1, h2]
            apply b_X8_copy_0_95
            rw [ex, ey]
            exact br0 ⟨by omega, rfl, rfl⟩
          · refine l_cp1 h.1 (by omega) (by omega) n.toNat 0 τ (by omega) (fun τ1 s1 s2 => ?_)
            refine l_cp2 h.2 (by omega) (by omega) n.toNat 0 τ1 (by omega) (fun τ' u1 u2 => ⟨rfl, fun a ha hb => by rw [u1 a ha, s1 a hb], fun q => ?_⟩)
            rw [u2 q, show ((0 : Nat) : Int) = 0 from rfl, Int.add_zero]
            by_cases c : 24 * t + j ≤ q ∧ q < 24 * t + j + n
            · rw [if_pos c, if_pos c, s2, if_pos (by omega)]
            · rw [if_neg c, if_neg c, s1 20 (by decide)]
          · rintro σ' τ' - - hs ⟨t1, t2⟩
            refine hR.items (fun a ha => by rw [hs, mcpy_ne _ ha]) (fun a ha hb => t1 a ha hb) (fun q q1 q2 => ?_)
            rw [hs, t2 q]
            unfold mcpy
            by_cases c : 24 * t + j ≤ q ∧ q < 24 * t + j + n
            · rw [if_pos ⟨rfl, c⟩, if_pos c]
              exact hR.2.2.2.2.2 _ (by omega) (by omega)
            · rw [if_neg (fun z => c z.2), if_neg c]
              exact hR.2.2.2.2.2 q q1 q2
        · have f2 : fnd τ t (τ 18 t) j n = -13 ∧ ¬ (0 ≤ j ∧ 0 ≤ n ∧ j ≤ τ 19 t - n) := by
            have hx := h2
            unfold fnd at hx ⊢
            rw [if_neg (by omega), if_neg (fun z => z rfl)] at hx ⊢
            by_cases q : 0 ≤ j ∧ 0 ≤ n ∧ j ≤ τ 19 t - n
            · rw [if_pos q] at hx; exact absurd rfl hx
            · rw [if_neg q]; exact ⟨rfl, q⟩
          refine hgo (-13) (· = σ) (· = τ) ?_ ⟨fun _ => ⟨fun z => ⟨rfl, rfl⟩, fun _ => ⟨fun q1 q2 => absurd (by omega) f2.2, fun z => ⟨rfl, rfl⟩⟩⟩, fun z => absurd e18 z⟩ (fun _ _ _ _ a b => by rw [a, b]; exact hR)
          rw [if_pos h1, f2.1]
          apply b_X8_copy_0_95
          exact ⟨fun z => absurd z (by decide), fun _ => ⟨rfl, rfl⟩⟩
      · by_cases e18 : τ 18 f = τ 18 t
        · have f1 : fnd τ f (τ 18 t) i n = -13 ∧ ¬ (0 ≤ i ∧ 0 ≤ n ∧ i ≤ τ 19 f - n) := by
            have hx := h1
            unfold fnd at hx ⊢
            rw [if_neg (by omega), if_neg (fun z => z e18)] at hx ⊢
            by_cases q : 0 ≤ i ∧ 0 ≤ n ∧ i ≤ τ 19 f - n
            · rw [if_pos q] at hx; exact absurd rfl hx
            · rw [if_neg q]; exact ⟨rfl, q⟩
          refine hgo (-13) (· = σ) (· = τ) ?_ ⟨fun _ => ⟨fun z => ⟨rfl, rfl⟩, fun _ => ⟨fun q1 q2 => absurd (by omega) f1.2, fun z => ⟨rfl, rfl⟩⟩⟩, fun z => absurd e18 z⟩ (fun _ _ _ _ a b => by rw [a, b]; exact hR)
          rw [if_neg h1, f1.1]
          apply b_X8_copy_0_95
          exact ⟨fun z => absurd z (by decide), fun _ => ⟨rfl, rfl⟩⟩
        · have f1 : fnd τ f (τ 18 t) i n = -12 := by
            unfold fnd
            rw [if_neg (by omega), if_pos e18]
          refine hgo (-12) (· = σ) (· = τ) ?_ ⟨fun z => absurd z e18, fun _ => ⟨rfl, rfl⟩⟩ (fun _ _ _ _ a b => by rw [a, b]; exact hR)
          rw [if_neg h1, f1]
          apply b_X8_copy_0_95
          exact ⟨fun z => absurd z (by decide), fun _ => ⟨rfl, rfl⟩⟩
  · refine sim_same hR (-1) ?_ ?_
    · apply e_X8_copy_0
      exact c_within (fun z1 => br1 (c_within (fun z2 => absurd ⟨z1, z2⟩ h) (fun _ => bn0 ⟨rfl, rfl⟩))) (fun _ => br0 ⟨rfl, rfl⟩)
    · apply e_X9_copy_0
      exact c_in (fun z1 => br1 (c_in (fun z2 => absurd ⟨by omega, by omega⟩ h) (fun _ => bn0 ⟨rfl, rfl⟩))) (fun _ => br0 ⟨rfl, rfl⟩)
/-! debts of a sheet, one behind the other -/
def fup (D : Int → Int) (i v : Int) : Int → Int := fun j => if j = i then v else D j
abbrev dbOk (D : Int → Int) (a b v : Int) : Prop := ((0 ≤ a ∧ a < 8) ∧ (0 ≤ b ∧ b < 8) ∧ ¬ a = b) ∧ (0 ≤ v ∧ v ≤ 999) ∧ D (8 * a + b) + v ≤ 999
def dbR (it : Int → Int) (base : Int) : Nat → Nat → (Int → Int) → Int → Option ((Int → Int) × Int)
  | 0, _, D, s => some (D, s)
  | n + 1, k, D, s => if dbOk D (it (base + 3 * k)) (it (base + 3 * k + 1)) (it (base + 3 * k + 2)) then dbR it base n (k + 1) (fup D (8 * it (base + 3 * k) + it (base + 3 * k + 1)) (D (8 * it (base + 3 * k) + it (base + 3 * k + 1)) + it (base + 3 * k + 2))) (s + it (base + 3 * k + 2)) else none
theorem fup_in {D : Int → Int} {i v : Int} (hD : ∀ j, 0 ≤ j → j < 64 → 0 ≤ D j ∧ D j ≤ 999) (hv : 0 ≤ v ∧ v ≤ 999) : ∀ j, 0 ≤ j → j < 64 → 0 ≤ fup D i v j ∧ fup D i v j ≤ 999 := by
  intro j a b
  unfold fup
  split
  · exact hv
  · exact hD j a b
theorem dbR_in {it : Int → Int} {base : Int} : ∀ (n k : Nat) (D : Int → Int) (s : Int) (D' : Int → Int) (s' : Int), (∀ j, 0 ≤ j → j < 64 → 0 ≤ D j ∧ D j ≤ 999) → dbR it base n k D s = some (D', s') → ∀ j, 0 ≤ j → j < 64 → 0 ≤ D' j ∧ D' j ≤ 999
  | 0, k, D, s, D', s', hD, h => by
    simp only [dbR, Option.some.injEq, Prod.mk.injEq] at h
    rw [← h.1]; exact hD
  | n + 1, k, D, s, D', s', hD, h => by
    unfold dbR at h
    split at h
    · rename_i hok
      have h1 := hD (8 * it (base + 3 * k) + it (base + 3 * k + 1)) (by omega) (by omega)
      exact dbR_in n (k + 1) _ _ D' s' (fup_in hD (by omega)) h
    · cases h
theorem l_debC {it : Int → Int} {base cnt : Int} {Q : Int → Mem → Prop} (N : Nat) (hN : cnt = N) (h6 : N ≤ 6) (hb : 0 ≤ base ∧ base + 3 * N ≤ 96) {σ0 : Mem} (hit : ∀ j, 0 ≤ j → j < 96 → σ0 49 j = it j) : ∀ (n k : Nat) (σ : Mem) (D : Int → Int) (s : Int), k + n = N → (∀ a, a ≠ 41 → σ a = σ0 a) → (∀ j, 0 ≤ j → j < 64 → σ 41 j = D j) → (∀ j, 0 ≤ j → j < 64 → 0 ≤ D j ∧ D j ≤ 999) → (0 ≤ s ∧ s ≤ 999 * k) → (∀ D' s', dbR it base n k D s = some (D', s') → ∀ σ', (∀ a, a ≠ 41 → σ' a = σ0 a) → (∀ j, 0 ≤ j → j < 64 → σ' 41 j = D' j) → Q s' (mcpy σ' 41 0 2 0 64)) → (dbR it base n k D s = none → ∀ σ', (∀ a, a ≠ 41 → σ' a = σ0 a) → Q (-2) σ') → WP GC M_X1_addDebts 21 [some (mr 40), some (mr 1), some (mr 49), some (mi base), some (mi cnt), some (mi s), some (mi (k : Int)), none] [] σ Q
  | 0, k, σ, D, s, hk, hf, hD, hDb, hs, h1, h0 => by
    apply b_X1_addDebts_40_1_49_21
    exact ⟨fun _ => h1 D s rfl σ hf hD, fun z => absurd (by omega) z⟩
  | n + 1, k, σ, D, s, hk, hf, hD, hDb, hs, h1, h0 => by
    have e0 : jadd base (jmul (k : Int) 3) = base + 3 * k := by rw [jmul_eq (by omega) (by omega), jadd_eq (by omega) (by omega)]; omega
    have e1 : jadd (base + 3 * (k : Int)) 1 = base + 3 * k + 1 := jadd_eq (by omega) (by omega)
    have e2 : jadd (base + 3 * (k : Int)) 2 = base + 3 * k + 2 := jadd_eq (by omega) (by omega)
    have i0 : ∀ j, 0 ≤ j → j < 96 → σ 49 j = it j := fun j a b => by rw [hf 49 (by decide)]; exact hit j a b
    have g0 := i0 (base + 3 * k) (by omega) (by omega)
    have g1 := i0 (base + 3 * k + 1) (by omega) (by omega)
    have g2 := i0 (base + 3 * k + 2) (by omega) (by omega)
    apply b_X1_addDebts_40_1_49_21
    rw [e0, e1, e2, jadd_eq (a := (k : Int)) (by omega) (by omega), g0, g1, g2]
    refine ⟨fun z => absurd z (by omega), fun _ => ⟨by omega, by omega, by omega, ?_⟩⟩
    unfold dbR at h1 h0
    have fail : ¬ dbOk D (it (base + 3 * k)) (it (base + 3 * k + 1)) (it (base + 3 * k + 2)) → Q (-2) σ := fun z => h0 (by rw [if_neg z]) σ hf
    apply e_X1_addDebt_40
    refine c_isPair (fun p => br1 (c_within (fun w => br1 ?_) (fun w => br0 (bn0 (fail (fun z => w (by omega))))))) (fun p => br0 (bn0 (fail (fun z => p z.1))))
    have ei : jadd (jmul (it (base + 3 * k)) 8) (it (base + 3 * k + 1)) = 8 * it (base + 3 * k) + it (base + 3 * k + 1) := by rw [jmul_eq (by omega) (by omega), jadd_eq (by omega) (by omega)]; omega
    have hi : 0 ≤ 8 * it (base + 3 * k) + it (base + 3 * k + 1) ∧ 8 * it (base + 3 * k) + it (base + 3 * k + 1) < 64 := by omega
    have hDi := hDb _ hi.1 hi.2
    rw [ei, hD _ hi.1 hi.2, jadd_eq (a := D _) (by omega) (by omega)]
    refine ⟨hi, fun q => ⟨hi, hi, bn1 ⟨by omega, ?_⟩⟩, fun q => bn0 (fail (fun z => q z.2.2))⟩
    have hok : dbOk D (it (base + 3 * k)) (it (base + 3 * k + 1)) (it (base + 3 * k + 2)) := ⟨p, by omega, q⟩
    rw [if_pos hok] at h1 h0
    rw [mupd_rp (by decide), g2, jadd_eq (a := s) (by omega) (by omega)]
    refine l_debC N hN h6 hb hit n (k + 1) _ _ _ (by omega) (fun a ha => by rw [mupd_ne _ ha, hf a ha]) (fun j a b => ?_) (fup_in hDb (by omega)) (by omega) h1 h0
    unfold mupd fup
    by_cases e : j = 8 * it (base + 3 * k) + it (base + 3 * k + 1)
    · rw [if_pos ⟨rfl, e⟩, if_pos e]
    · rw [if_neg (fun z => e z.2), if_neg e]
      exact hD j a b
theorem l_ow1 {x1 x3 x4 : Int} {Q : Int → Mem → Prop} : ∀ (n k : Nat) (τ : Mem), k + n = 64 → (∀ τ', (∀ a, a ≠ 21 → τ' a = τ a) → (∀ q : Int, τ' 21 q = if (k : Int) ≤ q ∧ q < 64 then τ 9 q else τ 21 q) → WP GM M_X9_owes 80 [some (mr 0), some (mi x1), none, some (mi x3), some (mi x4), none, some (mi 0), some (mi 0), none, none, none, none] [] τ' Q) → WP GM M_X9_owes 47 [some (mr 0), some (mi x1), none, some (mi x3), some (mi x4), none, some (mi (k : Int)), none, none, none, none, none] [] τ Q
  | 0, k, τ, hk, hQ => b_X9_owes_0_47 _ _ _ _ ⟨fun _ => hQ τ (fun _ _ => rfl) (fun q => by rw [if_neg (by omega)]), fun z => absurd (by omega) z⟩
  | n + 1, k, τ, hk, hQ => by
    apply b_X9_owes_0_47
    rw [jadd_eq (by omega) (by omega)]
    refine ⟨fun z => absurd z (by omega), fun _ => ⟨by omega, by omega, ?_⟩⟩
    refine l_ow1 n (k + 1) (mupd τ 21 k (τ 9 k)) (by omega) (fun τ' s1 s2 => hQ τ' (fun a ha => by rw [s1 a ha, mupd_ne _ ha]) (fun q => ?_))
    rw [s2 q, mupd_rp (by decide)]
    unfold mupd
    by_cases c1 : ((k + 1 : Nat) : Int) ≤ q ∧ q < 64
    · rw [if_pos c1, if_pos (by omega)]
    · rw [if_neg c1]
      by_cases c2 : q = k
      · rw [if_pos ⟨rfl, c2⟩, if_pos (by omega), c2]
      · rw [if_neg (fun z => c2 z.2), if_neg (by omega)]
theorem l_ow3 {x6 : Int} {Q : Int → Mem → Prop} : ∀ (n k : Nat) (τ : Mem), k + n = 64 → (∀ τ', (∀ a, a ≠ 9 → τ' a = τ a) → (∀ q : Int, τ' 9 q = if (k : Int) ≤ q ∧ q < 64 then τ 21 q else τ 9 q) → Q x6 τ') → WP GM M_X9_owes 213 [some (mr 0), none, none, none, none, none, some (mi x6), some (mi (k : Int)), none, none, none, none] [] τ Q
  | 0, k, τ, hk, hQ => b_X9_owes_0_213 _ _ ⟨fun _ => hQ τ (fun _ _ => rfl) (fun q => by rw [if_neg (by omega)]), fun z => absurd (by omega) z⟩
  | n + 1, k, τ, hk, hQ => by
    apply b_X9_owes_0_213
    rw [jadd_eq (by omega) (by omega)]
    refine ⟨fun z => absurd z (by omega), fun _ => ⟨by omega, by omega, ?_⟩⟩
    refine l_ow3 n (k + 1) (mupd τ 9 k (τ 21 k)) (by omega) (fun τ' s1 s2 => hQ τ' (fun a ha => by rw [s1 a ha, mupd_ne _ ha]) (fun q => ?_))
    rw [s2 q, mupd_rp (by decide)]
    unfold mupd
    by_cases c1 : ((k + 1 : Nat) : Int) ≤ q ∧ q < 64
    · rw [if_pos c1, if_pos (by omega)]
    · rw [if_neg c1]
      by_cases c2 : q = k
      · rw [if_pos ⟨rfl, c2⟩, if_pos (by omega), c2]
      · rw [if_neg (fun z => c2 z.2), if_neg (by omega)]
theorem l_debM {x1 x3 cnt : Int} {Q : Int → Mem → Prop} (N : Nat) (hN : cnt = N) (h6 : N ≤ 6) (hs4 : 0 ≤ x1 ∧ x1 < 4) (hx3 : 0 ≤ x3 ∧ x3 + 3 * N ≤ 24) {τ0 : Mem} : ∀ (n k : Nat) (τ : Mem) (D : Int → Int) (s : Int), k + n = N → (∀ a, a ≠ 21 → τ a = τ0 a) → (∀ j, 0 ≤ j → j < 64 → τ 21 j = D j) → (∀ j, 0 ≤ j → j < 64 → 0 ≤ D j ∧ D j ≤ 999) → (0 ≤ s ∧ s ≤ 999 * k) → (∀ D' s', dbR (τ0 20) (24 * x1 + x3) n k D s = some (D', s') → ∀ τ', (∀ a, a ≠ 21 → a ≠ 9 → τ' a = τ0 a) → (∀ j, 0 ≤ j → j < 64 → τ' 9 j = D' j) → Q s' τ') → (dbR (τ0 20) (24 * x1 + x3) n k D s = none → ∀ τ', (∀ a, a ≠ 21 → τ' a = τ0 a) → Q (-2) τ') → WP GM M_X9_owes 80 [some (mr 0), some (mi x1), none, some (mi x3), some (mi cnt), none, some (mi s), some (mi (k : Int)), none, none, none, none] [] τ Q
  | 0, k, τ, D, s, hk, hf, hD, hDb, hs, h1, h0 => by
    apply b_X9_owes_0_80
    refine ⟨fun _ => ?_, fun z => absurd (by omega) z⟩
    refine l_ow3 64 0 τ (by omega) (fun τ' s1 s2 => h1 D s rfl τ' (fun a ha hb => by rw [s1 a hb, hf a ha]) (fun j a b => ?_))
    rw [s2 j, if_pos (by omega), hD j a b]
  | n + 1, k, τ, D, s, hk, hf, hD, hDb, hs, h1, h0 => by
    have ez : jadd (jadd (jmul 24 x1) x3) (jmul 3 (k : Int)) = 24 * x1 + x3 + 3 * k := by rw [jmul_eq (by omega) (by omega), jmul_eq (by omega) (by omega), jadd_eq (a := 24 * x1) (by omega) (by omega), jadd_eq (by omega) (by omega)]
    generalize hbase : 24 * x1 + x3 = base at ez h1 h0
    have e1 : jadd (base + 3 * (k : Int)) 1 = base + 3 * k + 1 := jadd_eq (by omega) (by omega)
    have e2 : jadd (base + 3 * (k : Int)) 2 = base + 3 * k + 2 := jadd_eq (by omega) (by omega)
    have ih := l_debM N hN h6 hs4 hx3 (Q := Q) (τ0 := τ0) n (k + 1)
    rw [hbase] at ih
    have h20 : τ 20 = τ0 20 := hf 20 (by decide)
    apply b_X9_owes_0_80
    rw [ez, e1, e2, jadd_eq (a := (k : Int)) (by omega) (by omega), h20]
    generalize τ0 20 = it at h1 h0 ih ⊢
    refine ⟨fun z => absurd z (by omega), fun _ => ⟨by omega, by omega, by omega, ?_⟩⟩
    unfold dbR at h1 h0
    have fail : ¬ dbOk D (it (base + 3 * k)) (it (base + 3 * k + 1)) (it (base + 3 * k + 2)) → Q (-2) τ := fun z => h0 (by rw [if_neg z]) τ hf
    refine c_areTwo (fun p => br1 (c_in (fun w => br1 ?_) (fun w => br0 (fail (fun z => w z.2.1))))) (fun p => br0 (fail (fun z => p z.1)))
    have ei : jadd (jmul 8 (it (base + 3 * k))) (it (base + 3 * k + 1)) = 8 * it (base + 3 * k) + it (base + 3 * k + 1) := by rw [jmul_eq (by omega) (by omega), jadd_eq (by omega) (by omega)]
    have hi : 0 ≤ 8 * it (base + 3 * k) + it (base + 3 * k + 1) ∧ 8 * it (base + 3 * k) + it (base + 3 * k + 1) < 64 := by omega
    have hDi := hDb _ hi.1 hi.2
    rw [ei, hD _ hi.1 hi.2, jadd_eq (a := D _) (by omega) (by omega), jadd_eq (a := s) (by omega) (by omega)]
    refine ⟨hi, fun q => ⟨hi, hi, ?_⟩, fun q => fail (fun z => q z.2.2)⟩
    have hok : dbOk D (it (base + 3 * k)) (it (base + 3 * k + 1)) (it (base + 3 * k + 2)) := ⟨p, w, q⟩
    rw [if_pos hok] at h1 h0
    refine ih _ _ _ (by omega) (fun a ha => by rw [mupd_ne _ ha, hf a ha]) (fun j a b => ?_) (fup_in hDb (by omega)) (by omega) h1 h0
    unfold mupd fup
    by_cases e : j = 8 * it (base + 3 * k) + it (base + 3 * k + 1)
    · rw [if_pos ⟨rfl, e⟩, if_pos e]
    · rw [if_neg (fun z => e z.2), if_neg e]
      exact hD j a b
theorem sim_owes {s lane f n : Int} {σ τ : Mem} (hR : RR σ τ) : SIM M_X8_owes M_X9_owes [mr 0, mi s, mi lane, mi f, mi n] σ τ RR := by
  by_cases h : (0 ≤ s ∧ s < 4) ∧ (0 ≤ lane ∧ lane < 3)
  · by_cases hn : 1 ≤ n ∧ n ≤ 6
    · have hS := hR.2.2.2.2.1 s h.1.1 h.1.2
      have en : jmul n 3 = 3 * n := by rw [jmul_eq (by omega) (by omega)]; omega
      have en2 : jmul 3 n = 3 * n := jmul_eq (by omega) (by omega)
      by_cases h0 : fnd τ s lane f (3 * n) = 0
      · have hf := fnd_0 h0
        have hz := hS.sz h0
        have ex : jadd (jmul s 24) f = 24 * s + f := by rw [jmul_eq (by omega) (by omega), jadd_eq (by omega) (by omega)]; omega
        obtain ⟨N, hN⟩ := nn_of (show 0 ≤ n by omega)
        have hob := hR.1.2.2.2.2.1
        have hgo : ∀ (r : Int) (PC PM : Mem → Prop), (∀ σ1, (∀ a, a ≠ 41 → σ1 a = σ a) → (∀ D' s', dbR (τ 20) (24 * s + f) N 0 (τ 9) 0 = some (D', s') → (∀ j, 0 ≤ j → j < 64 → σ1 41 j = D' j) → s' = r ∧ PC (mcpy σ1 41 0 2 0 64)) ∧ (dbR (τ 20) (24 * s + f) N 0 (τ 9) 0 = none → -2 = r ∧ PC σ1)) → (∀ τ', ((∀ a, a ≠ 21 → a ≠ 9 → τ' a = τ a) → ∀ D' s', dbR (τ 20) (24 * s + f) N 0 (τ 9) 0 = some (D', s') → (∀ j, 0 ≤ j → j < 64 → τ' 9 j = D' j) → s' = r ∧ PM τ') ∧ ((∀ a, a ≠ 21 → τ' a = τ a) → dbR (τ 20) (24 * s + f) N 0 (τ 9) 0 = none → -2 = r ∧ PM τ')) → (∀ σ' τ', mokm σ' → mokm τ' → PC σ' → PM τ' → RR σ' τ') → SIM M_X8_owes M_X9_owes [mr 0, mi s, mi lane, mi f, mi n] σ τ RR := by
          intro r PC PM hC hM hRR
          refine ⟨r, PC, PM, ?_, ?_, hRR⟩
          · apply e_X8_owes_0
            rw [ex, en]
            refine c_within (fun _ => br1 (c_within (fun _ => br1 ⟨fun z => absurd z (by omega), fun _ => ⟨fun _ => c_find (τ := τ) hS h.1 ⟨by omega, by omega⟩ ?_, fun z => absurd hn.2 z⟩⟩) (fun z => absurd h.2 z))) (fun z => absurd h.1 z)
            rw [h0]
            refine br0 ?_
            apply e_X1_addDebts_40_1_49
            refine l_debC (it := τ 20) N hN (by omega) (by omega) (σ0 := σ) (fun j a b => hR.2.2.2.2.2 j a b) N 0 (mcpy σ 2 0 41 0 64) (τ 9) 0 (by omega) (fun a ha => mcpy_ne _ ha) (fun j a b => ?_) hob (by omega) (fun D' s' e σ1 g1 g2 => (hC σ1 g1).1 D' s' e g2) (fun e σ1 g1 => (hC σ1 g1).2 e)
            unfold mcpy
            rw [if_pos ⟨rfl, by omega, by omega⟩, show (0 : Int) + (j - 0) = j by omega]
            exact hR.2.1.2.2.2.2.2.2 j a b
          · apply e_X9_owes_0
            rw [en2]
            refine c_isSheet (fun _ => br1 (c_in (fun _ => bn1 (c_lacks (σ := σ) hS h.1 h.2 (by omega) ?_)) (fun z => absurd hn z))) (fun z => absurd h z)
            rw [h0]
            refine ⟨fun _ => ?_, fun z => absurd (by decide) z⟩
            refine l_ow1 64 0 τ (by omega) (fun τ1 s1 s2 => ?_)
            have e20 : τ1 20 = τ 20 := s1 20 (by decide)
            refine l_debM N hN (by omega) h.1 (by omega) (τ0 := τ1) N 0 τ1 (τ 9) 0 (by omega) (fun _ _ => rfl) (fun j a b => by rw [s2 j, if_pos (by omega)]) hob (by omega) (fun D' s' e τ' g1 g2 => ?_) (fun e τ' g1 => ?_)
            · rw [e20] at e
              exact (hM τ').1 (fun a ha hb => by rw [g1 a ha hb, s1 a ha]) D' s' e g2
            · rw [e20] at e
              exact (hM τ').2 (fun a ha => by rw [g1 a ha, s1 a ha]) e
        cases hd : dbR (τ 20) (24 * s + f) N 0 (τ 9) 0 with
        | none =>
          refine hgo (-2) (fun σ' => ∀ a, a ≠ 41 → σ' a = σ a) (fun τ' => ∀ a, a ≠ 21 → τ' a = τ a) (fun σ1 g => ⟨fun D' s' e => (by rw [hd] at e; cases e), fun _ => ⟨rfl, g⟩⟩) (fun τ' => ⟨fun g D' s' e => (by rw [hd] at e; cases e), fun g _ => ⟨rfl, g⟩⟩) ?_
          intro σ' τ' _ _ g1 g2
          exact hR.fr (fun k k1 k2 => g1 k (by omega)) (fun k k1 k2 => g1 k (by omega)) (by rw [g1 0 (by decide)]) (by rw [g1 25 (by decide)]) (g1 26 (by decide)) (fun k k1 k2 => g2 k (by omega)) (fun k k1 k2 => g2 k (by omega)) (fun j _ => by rw [g2 0 (by decide)])
        | some ds =>
          obtain ⟨D', s'⟩ := ds
          refine hgo s' (fun σ' => (∀ a, a ≠ 2 → a ≠ 41 → σ' a = σ a) ∧ ∀ j, 0 ≤ j → j < 64 → σ' 2 j = D' j) (fun τ' => (∀ a, a ≠ 9 → a ≠ 21 → τ' a = τ a) ∧ ∀ j, 0 ≤ j → j < 64 → τ' 9 j = D' j) (fun σ1 g => ⟨fun D2 s2 e g2 => ?_, fun e => (by rw [hd] at e; cases e)⟩) (fun τ' => ⟨fun g D2 s2 e g2 => ?_, fun g e => (by rw [hd] at e; cases e)⟩) ?_
          · rw [hd] at e
            cases e
            refine ⟨rfl, fun a ha hb => by rw [mcpy_ne _ ha, g a hb], fun j a b => ?_⟩
            unfold mcpy
            rw [if_pos ⟨rfl, by omega, by omega⟩, show (0 : Int) + (j - 0) = j by omega]
            exact g2 j a b
          · rw [hd] at e
            cases e
            exact ⟨rfl, fun a ha hb => g a hb ha, g2⟩
          · intro σ' τ' _ _ g1 g2
            have hDin := dbR_in N 0 (τ 9) 0 D' s' hob hd
            exact hR.debts g1.1 g2.1 (fun i a b => by rw [g1.2 i a b, g2.2 i a b]; exact ⟨hDin i a b, rfl⟩)
      · refine sim_same hR (fnd τ s lane f (3 * n)) ?_ ?_
        · apply e_X8_owes_0
          rw [en]
          refine c_within (fun _ => br1 (c_within (fun _ => br1 ⟨fun z => absurd z (by omega), fun _ => ⟨fun _ => c_find (τ := τ) hS h.1 ⟨by omega, by omega⟩ ?_, fun z => absurd hn.2 z⟩⟩) (fun z => absurd h.2 z))) (fun z => absurd h.1 z)
          exact ⟨fun z => absurd z h0, fun _ => ⟨rfl, rfl⟩⟩
        · apply e_X9_owes_0
          rw [en2]
          refine c_isSheet (fun _ => br1 (c_in (fun _ => bn1 (c_lacks (σ := σ) hS h.1 h.2 (by omega) ?_)) (fun z => absurd hn z))) (fun z => absurd h z)
          have := fnd_lt h0
          exact ⟨fun z => by omega, fun _ => ⟨rfl, rfl⟩⟩
    · refine sim_same hR (-1) ?_ ?_
      · apply e_X8_owes_0
        exact c_within (fun _ => br1 (c_within (fun _ => br1 ⟨fun z => ⟨rfl, rfl⟩, fun _ => ⟨fun z => absurd (by omega) hn, fun z => ⟨rfl, rfl⟩⟩⟩) (fun z => absurd h.2 z))) (fun z => absurd h.1 z)
      · apply e_X9_owes_0
        exact c_isSheet (fun _ => br1 (c_in (fun z => absurd z hn) (fun _ => bn0 ⟨rfl, rfl⟩))) (fun z => absurd h z)
  · refine sim_same hR (-1) ?_ ?_
    · apply e_X8_owes_0
      exact c_within (fun z1 => br1 (c_within (fun z2 => absurd ⟨z1, z2⟩ h) (fun _ => br0 ⟨rfl, rfl⟩))) (fun _ => br0 ⟨rfl, rfl⟩)
    · apply e_X9_owes_0
      exact c_isSheet (fun z => absurd z h) (fun _ => br0 ⟨rfl, rfl⟩)
