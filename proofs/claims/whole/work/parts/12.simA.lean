/-! thing, told, seed, owe, balance, hole, of, count -/
theorem CO.fr {τ τ' : Mem} {c : Int} (h : CO τ c) (h1 : ∀ k, 1 ≤ k → k ≤ 4 → τ' k = τ k) : CO τ' c := by
  unfold CO at *
  rw [h1 1 (by decide) (by decide), h1 2 (by decide) (by decide), h1 3 (by decide) (by decide), h1 4 (by decide) (by decide)]
  exact h
theorem TH.fr {τ τ' : Mem} {t : Int} (h : TH τ t) (h0 : τ' 0 4 = τ 0 4) (h1 : ∀ k, 5 ≤ k → k ≤ 8 → τ' k t = τ k t) : TH τ' t := by
  unfold TH at *
  rw [h0, h1 5 (by decide) (by decide), h1 6 (by decide) (by decide), h1 7 (by decide) (by decide), h1 8 (by decide) (by decide)]
  exact h
theorem EQC.fr {b z u h : Nat} {σ σ' τ τ' : Mem} {c : Int} (hE : EQC b z u h σ τ c) (h1 : σ' b = σ b ∧ σ' z = σ z ∧ σ' u = σ u ∧ σ' h = σ h) (h2 : ∀ k, 1 ≤ k → k ≤ 4 → τ' k = τ k) : EQC b z u h σ' τ' c := by
  unfold EQC at *
  rw [h1.1, h1.2.1, h1.2.2.1, h1.2.2.2, h2 1 (by decide) (by decide), h2 2 (by decide) (by decide), h2 3 (by decide) (by decide), h2 4 (by decide) (by decide)]
  exact hE
theorem sim_told {t w : Int} {σ τ : Mem} (hR : RR σ τ) : SIM M_X8_told M_X9_told [mr 0, mi t, mi w] σ τ RR := by
  have hV := hR.1
  have hE := hR.2.1
  have h8 := hV.2.1
  have bad : (0 ≤ t ∧ t < τ 0 9 → ¬ (0 ≤ w ∧ w ≤ 2)) → SIM M_X8_told M_X9_told [mr 0, mi t, mi w] σ τ RR := by
    intro hb
    refine ⟨-1, (· = σ), (· = τ), ?_, ?_, fun _ _ _ _ a b => by rw [a, b]; exact hR⟩
    · apply e_X8_told_0
      refine c_hasT (fun z => bn1 ?_) (fun _ => bn0 ⟨rfl, rfl⟩)
      rw [hE.2.1] at z
      have hw := hb z
      exact ⟨fun q => by omega, fun q => by omega, fun q => by omega, fun _ _ _ => ⟨rfl, rfl⟩⟩
    · apply e_X9_told_0
      refine c_isThing h8 (fun z => br1 ?_) (fun _ => br0 ?_)
      · refine c_in (fun q => absurd q (hb z)) (fun _ => bn0 ?_)
        exact b_X9_told_0_20 ⟨rfl, rfl⟩
      · exact b_X9_told_0_20 ⟨rfl, rfl⟩
  by_cases h : 0 ≤ t ∧ t < τ 0 9
  · by_cases hw : 0 ≤ w ∧ w ≤ 2
    · have hT := hE.2.2.2.2.2.1 t h.1 h.2
      have hi : 0 ≤ t ∧ t < 8 := by omega
      refine ⟨if w = 0 then τ 5 t else if w = 1 then τ 7 t else τ 8 t, (· = σ), (· = τ), ?_, ?_, fun _ _ _ _ a b => by rw [a, b]; exact hR⟩
      · apply e_X8_told_0
        refine c_hasT (fun z => bn1 ?_) (fun z => absurd (by rw [hE.2.1]; exact h) z)
        exact ⟨fun q => ⟨hi, by rw [if_pos q]; exact hT.1, rfl⟩, fun q => ⟨hi, by rw [if_neg (by omega), if_pos q]; exact hT.2.2.1, rfl⟩, fun q => ⟨hi, by rw [if_neg (by omega), if_neg (by omega)]; exact hT.2.2.2, rfl⟩, fun _ _ _ => by omega⟩
      · apply e_X9_told_0
        refine c_isThing h8 (fun z => br1 ?_) (fun z => absurd h z)
        refine c_in (fun q => bn1 ?_) (fun z => absurd hw z)
        refine ⟨fun q0 => ⟨fun q1 => ⟨hi, by rw [if_neg q0, if_neg q1], rfl⟩, fun q1 => ⟨hi, by rw [if_neg q0, if_pos q1], rfl⟩⟩, fun q0 => ⟨hi, by rw [if_pos q0], rfl⟩⟩
    · exact bad (fun _ => hw)
  · exact bad (fun z => absurd z h)
theorem sim_thing {x1 x2 : Int} {σ τ : Mem} (hR : RR σ τ) : SIM M_X8_thing M_X9_thing [mr 0, mi x1, mi x2] σ τ RR := by
  have hV := hR.1
  have hE := hR.2.1
  have h8 := hV.2.1
  by_cases h1 : 0 ≤ x1 ∧ x1 < 4
  · by_cases h2 : 0 ≤ x2 ∧ x2 < 8
    · by_cases h3 : τ 0 9 < 8
      · have hi : 0 ≤ τ 0 9 ∧ τ 0 9 < 8 := by omega
        refine ⟨τ 0 9, (· = mupd (mupd (mupd (mupd (mupd σ 9 (τ 0 9) x1) 10 (τ 0 9) x2) 11 (τ 0 9) 0) 12 (τ 0 9) 8) 8 0 (τ 0 9 + 1)), (· = mupd (mupd (mupd (mupd (mupd τ 5 (τ 0 9) x1) 6 (τ 0 9) x2) 7 (τ 0 9) 0) 8 (τ 0 9) 8) 0 9 (τ 0 9 + 1)), ?_, ?_, ?_⟩
        · apply e_X8_thing_0
          refine c_within (fun _ => br1 ?_) (fun z => absurd h1 z)
          refine c_within (fun _ => bn1 ⟨fun _ => ?_, fun z => absurd (by rw [hE.2.1]; exact h3) z⟩) (fun z => absurd h2 z)
          apply e_X6_add_8
          rw [hE.2.1, jadd_eq (by omega) (by omega), jsub_eq (by omega) (by omega)]
          exact ⟨hi, hi, hi, hi, by omega, rfl⟩
        · apply e_X9_thing_0
          refine c_in (fun _ => br1 ?_) (fun z => absurd (by omega) z)
          refine c_isBoy (fun _ => bn1 ⟨fun _ => ?_, fun z => by omega⟩) (fun z => absurd h2 z)
          rw [jadd_eq (by omega) (by omega), jsub_eq (by omega) (by omega)]
          exact ⟨hi, hi, hi, hi, by omega, rfl⟩
        · rintro σ' τ' - - hs ht
          have e9 : τ' 0 9 = τ 0 9 + 1 := by rw [ht, mupd_at]
          have e0 : ∀ j, j ≠ 9 → τ' 0 j = τ 0 j := fun j hj => by rw [ht, mupd_ri hj, mupd_rp (by decide), mupd_rp (by decide), mupd_rp (by decide), mupd_rp (by decide)]
          have e1 : ∀ k, (1 ≤ k ∧ k ≤ 4) ∨ 9 ≤ k → τ' k = τ k := fun k hk => by rw [ht, mupd_ne _ (by omega), mupd_ne _ (by omega), mupd_ne _ (by omega), mupd_ne _ (by omega), mupd_ne _ (by omega)]
          have s1 : ∀ k, k ≤ 7 ∨ 13 ≤ k → σ' k = σ k := fun k hk => by rw [hs, mupd_ne _ (by omega), mupd_ne _ (by omega), mupd_ne _ (by omega), mupd_ne _ (by omega), mupd_ne _ (by omega)]
          have s8 : σ' 8 0 = τ 0 9 + 1 := by rw [hs, mupd_at]
          have tn : τ' 5 (τ 0 9) = x1 ∧ τ' 6 (τ 0 9) = x2 ∧ τ' 7 (τ 0 9) = 0 ∧ τ' 8 (τ 0 9) = 8 := by rw [ht]; simp [mupd]
          have sn : σ' 9 (τ 0 9) = x1 ∧ σ' 10 (τ 0 9) = x2 ∧ σ' 11 (τ 0 9) = 0 ∧ σ' 12 (τ 0 9) = 8 := by rw [hs]; simp [mupd]
          have to_ : ∀ t, t ≠ τ 0 9 → ∀ k, 5 ≤ k → k ≤ 8 → τ' k t = τ k t := fun t hn k k1 k2 => by rw [ht]; simp [mupd, hn]; omega
          have so : ∀ t, t ≠ τ 0 9 → ∀ k, 9 ≤ k → k ≤ 12 → σ' k t = σ k t := fun t hn k k1 k2 => by rw [hs]; simp [mupd, hn]; omega
          refine ⟨⟨by rw [e0 4 (by decide)]; exact hV.1, by omega, fun c c1 c2 => ?_, fun t t1 t2 => ?_, ?_, ?_, ?_⟩, ⟨?_, ?_, ?_, ?_, ?_, ?_, ?_⟩, ?_, ?_, ?_⟩
          · rw [e0 4 (by decide)] at c2
            exact (hV.2.2.1 c c1 c2).fr (fun k k1 k2 => e1 k (by omega))
          · by_cases hn : t = τ 0 9
            · subst hn
              unfold TH
              rw [tn.1, tn.2.1, tn.2.2.1, tn.2.2.2]
              exact ⟨by omega, Or.inl h2, by omega, by omega⟩
            · exact (hV.2.2.2.1 t t1 (by omega)).fr (e0 4 (by decide)) (to_ t hn)
          · rw [e1 9 (by omega)]; exact hV.2.2.2.2.1
          · rw [e0 11 (by decide)]; exact hV.2.2.2.2.2.1
          · rw [e0 12 (by decide)]; exact hV.2.2.2.2.2.2
          · rw [s1 3 (by omega), e0 4 (by decide)]; exact hE.1
          · rw [s8, e9]
          · rw [s1 1 (by omega), e0 11 (by decide)]; exact hE.2.2.1
          · rw [s1 1 (by omega), e0 12 (by decide)]; exact hE.2.2.2.1
          · intro c c1 c2
            rw [e0 4 (by decide)] at c2
            exact (hE.2.2.2.2.1 c c1 c2).fr ⟨s1 4 (by omega), s1 5 (by omega), s1 6 (by omega), s1 7 (by omega)⟩ (fun k k1 k2 => e1 k (by omega))
          · intro t t1 t2
            by_cases hn : t = τ 0 9
            · subst hn
              unfold EQT
              rw [tn.1, tn.2.1, tn.2.2.1, tn.2.2.2]
              exact sn
            · have hq := hE.2.2.2.2.2.1 t t1 (by omega)
              unfold EQT at *
              rw [so t hn 9 (by decide) (by decide), so t hn 10 (by decide) (by decide), so t hn 11 (by decide) (by decide), so t hn 12 (by decide) (by decide), to_ t hn 5 (by decide) (by decide), to_ t hn 6 (by decide) (by decide), to_ t hn 7 (by decide) (by decide), to_ t hn 8 (by decide) (by decide)]
              exact hq
          · rw [s1 2 (by omega), e1 9 (by omega)]; exact hE.2.2.2.2.2.2
          · exact hR.2.2.1.fr (fun k k1 k2 => s1 k (by omega)) (by rw [s1 0 (by omega)]) (e1 17 (by omega)) (e0 26 (by decide))
          · exact hR.2.2.2.1.fr (by rw [s1 25 (by omega)]) (s1 26 (by omega)) (e0 14 (by decide)) (e1 10 (by omega))
          · exact hR.2.2.2.2.fr (fun k k1 k2 => s1 k (by omega)) (fun k k1 k2 => e1 k (by omega))
      · refine ⟨-3, (· = σ), (· = τ), ?_, ?_, fun _ _ _ _ a b => by rw [a, b]; exact hR⟩
        · apply e_X8_thing_0
          refine c_within (fun _ => br1 ?_) (fun z => absurd h1 z)
          exact c_within (fun _ => bn1 ⟨fun z => absurd (by rw [hE.2.1] at z; exact z) h3, fun z => ⟨rfl, rfl⟩⟩) (fun z => absurd h2 z)
        · apply e_X9_thing_0
          refine c_in (fun _ => br1 ?_) (fun z => absurd (by omega) z)
          exact c_isBoy (fun _ => bn1 ⟨fun z => absurd (by omega) z, fun z => ⟨rfl, rfl⟩⟩) (fun z => absurd h2 z)
    · refine ⟨-1, (· = σ), (· = τ), ?_, ?_, fun _ _ _ _ a b => by rw [a, b]; exact hR⟩
      · apply e_X8_thing_0
        refine c_within (fun _ => br1 ?_) (fun z => absurd h1 z)
        exact c_within (fun z => absurd z h2) (fun z => bn0 ⟨rfl, rfl⟩)
      · apply e_X9_thing_0
        refine c_in (fun _ => br1 ?_) (fun z => absurd (by omega) z)
        exact c_isBoy (fun z => absurd z h2) (fun z => bn0 ⟨rfl, rfl⟩)
  · refine ⟨-1, (· = σ), (· = τ), ?_, ?_, fun _ _ _ _ a b => by rw [a, b]; exact hR⟩
    · apply e_X8_thing_0
      exact c_within (fun z => absurd z h1) (fun _ => br0 ⟨rfl, rfl⟩)
    · apply e_X9_thing_0
      exact c_in (fun z => absurd (by omega) h1) (fun _ => br0 ⟨rfl, rfl⟩)
theorem sim_seed {v : Int} {σ τ : Mem} (hv : R32 v) (hR : RR σ τ) : SIM M_X8_seed M_X9_seed [mr 0, mi v] σ τ RR := by
  have hV := hR.1
  have hE := hR.2.1
  by_cases h : 0 ≤ v
  · refine ⟨τ 0 12, (· = mupd σ 1 4 v), (· = mupd τ 0 12 v), ?_, ?_, ?_⟩
    · exact e_X8_seed_0 v ⟨fun _ => ⟨hE.2.2.2.1, rfl⟩, fun z => absurd h z⟩
    · exact e_X9_seed_0 v ⟨fun _ => ⟨rfl, rfl⟩, fun z => absurd h z⟩
    · rintro σ' τ' - - hs ht
      have e0 : ∀ j, j ≠ 12 → τ' 0 j = τ 0 j := fun j hj => by rw [ht, mupd_ri hj]
      have e12 : τ' 0 12 = v := by rw [ht, mupd_at]
      have e1 : ∀ k, 1 ≤ k → τ' k = τ k := fun k hk => by rw [ht, mupd_ne _ (by omega)]
      have s1 : ∀ k, k ≠ 1 → σ' k = σ k := fun k hk => by rw [hs, mupd_ne _ hk]
      have s13 : σ' 1 3 = σ 1 3 := by rw [hs, mupd_ri (by decide)]
      have s14 : σ' 1 4 = v := by rw [hs, mupd_at]
      refine ⟨⟨?_, ?_, ?_, ?_, ?_, ?_, ?_⟩, ⟨?_, ?_, ?_, ?_, ?_, ?_, ?_⟩, ?_, ?_, ?_⟩
      · rw [e0 4 (by decide)]; exact hV.1
      · rw [e0 9 (by decide)]; exact hV.2.1
      · intro c c1 c2
        rw [e0 4 (by decide)] at c2
        exact (hV.2.2.1 c c1 c2).fr (fun k k1 k2 => e1 k k1)
      · intro t t1 t2
        rw [e0 9 (by decide)] at t2
        exact (hV.2.2.2.1 t t1 t2).fr (e0 4 (by decide)) (fun k k1 k2 => by rw [e1 k (by omega)])
      · rw [e1 9 (by decide)]; exact hV.2.2.2.2.1
      · rw [e0 11 (by decide)]; exact hV.2.2.2.2.2.1
      · rw [e12]; exact ⟨h, hv.2⟩
      · rw [s1 3 (by decide), e0 4 (by decide)]; exact hE.1
      · rw [s1 8 (by decide), e0 9 (by decide)]; exact hE.2.1
      · rw [s13, e0 11 (by decide)]; exact hE.2.2.1
      · rw [s14, e12]
      · intro c c1 c2
        rw [e0 4 (by decide)] at c2
        exact (hE.2.2.2.2.1 c c1 c2).fr ⟨s1 4 (by decide), s1 5 (by decide), s1 6 (by decide), s1 7 (by decide)⟩ (fun k k1 k2 => e1 k k1)
      · intro t t1 t2
        rw [e0 9 (by decide)] at t2
        have hq := hE.2.2.2.2.2.1 t t1 t2
        unfold EQT at *
        rw [s1 9 (by decide), s1 10 (by decide), s1 11 (by decide), s1 12 (by decide), e1 5 (by decide), e1 6 (by decide), e1 7 (by decide), e1 8 (by decide)]
        exact hq
      · rw [s1 2 (by decide), e1 9 (by decide)]; exact hE.2.2.2.2.2.2
      · exact hR.2.2.1.fr (fun k k1 k2 => s1 k (by omega)) (by rw [s1 0 (by decide)]) (e1 17 (by decide)) (e0 26 (by decide))
      · exact hR.2.2.2.1.fr (by rw [s1 25 (by decide)]) (s1 26 (by decide)) (e0 14 (by decide)) (e1 10 (by decide))
      · exact hR.2.2.2.2.fr (fun k k1 k2 => s1 k (by omega)) (fun k k1 k2 => e1 k (by omega))
  · refine ⟨-1, (· = σ), (· = τ), ?_, ?_, fun _ _ _ _ a b => by rw [a, b]; exact hR⟩
    · exact e_X8_seed_0 v ⟨fun z => absurd z h, fun z => ⟨rfl, rfl⟩⟩
    · exact e_X9_seed_0 v ⟨fun z => absurd z h, fun z => ⟨rfl, rfl⟩⟩
