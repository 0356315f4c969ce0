/-! day in step -/
theorem l_run {b : Int → Int} {L tn nc : Int} {ra rv rw : Int → Int} (hB : BY b L) : ∀ (N : Nat) (n p : Int) (σ τ : Mem), CH b L tn nc ra rv rw N p n → TC b L p σ → RW σ τ → τ 0 4 = nc → τ 0 9 = tn → τ 0 16 = n + N → 0 ≤ n → n + N ≤ 51 → (∀ i, n ≤ i → i < n + N → AMV (3 * i) (ra i) (rv i) (rw i) τ) → ∃ r σ' τ', (∀ Q : Int → Mem → Prop, Q r σ' → WP GC M_X2_runDay 7 [some (mr 27), some (mr 25), some (mr 1), some (mi n)] [] σ Q) ∧ (∀ Q : Int → Mem → Prop, Q r τ' → WP GM M_X9_day 33 [some (mr 0), none, some (mi n)] [] τ Q) ∧ RW σ' τ' ∧ τ' 0 14 = τ 0 14 := by
  intro N
  induction N with
  | zero => intro n p σ τ h; exact absurd h id
  | succ N ih =>
    intro n p σ τ hCH hT hR h4 h9 h16 hn hN hA
    obtain ⟨p', ⟨hO, hp', hP⟩, hnext⟩ := hCH
    have hnt := hR.nt
    have hnc := hR.nc
    obtain ⟨σ1, ⟨c1, c2, c3⟩, c4⟩ := hP σ hT (by rw [hnt.2, h9]) (by rw [hnc.2, h4])
    have hR1 : RW σ1 τ := hR.fr c2 (fun _ _ => rfl) (fun _ _ _ _ => rfl)
    obtain ⟨r, σ2, τ2, d1, d2, d3⟩ := act_do hR1 hO c3 (hA n (by omega) (by omega)) h4 h9 (by omega)
    have t2 : TC b L p' σ2 := c1.fr (d3.2.1 25 (by decide)) (d3.2.1 26 (by decide))
    have e16 : τ2 0 16 = n + ((N + 1 : Nat) : Int) := by rw [d3.2.2.2 16 (by decide) (by decide), h16]
    have e14 : τ2 0 14 = τ 0 14 := d3.2.2.2 14 (by decide) (by decide)
    have hq := sk_ok (b := b) hp'
    have run : ∀ Q : Int → Mem → Prop, ((0 ≤ r → HT GC M_X5_passes [mr 25, mi 59] σ2 (fun r35 σ35 => (¬ r35 = 0 → WP GC M_X2_runDay 7 [some (mr 27), some (mr 25), some (mr 1), some (mi (jadd n 1))] [] σ35 Q) ∧ (r35 = 0 → Q (jadd n 1) σ35))) ∧ (¬ 0 ≤ r → Q n σ2)) → WP GC M_X2_runDay 7 [some (mr 27), some (mr 25), some (mr 1), some (mi n)] [] σ Q := by
      intro Q h
      apply b_X2_runDay_27_25_1_7
      exact bf (by omega) (c4 _ (bf (by decide) (d1 _ h)))
    have day : ∀ Q : Int → Mem → Prop, ((¬ (if r < 0 then (0 : Int) else 1) = 0 → WP GM M_X9_day 33 [some (mr 0), none, some (mi (n + 1))] [] τ2 Q) ∧ ((if r < 0 then (0 : Int) else 1) = 0 → Q n τ2)) → WP GM M_X9_day 33 [some (mr 0), none, some (mi n)] [] τ Q := by
      intro Q h
      apply b_X9_day_0_33
      rw [h16, jmul_eq (by omega) (by omega), jadd_eq (by omega) (by omega)]
      exact bf (by omega) (d2 _ h)
    by_cases hr : 0 ≤ r
    · have ei : (if r < 0 then (0 : Int) else 1) = 1 := if_neg (by omega)
      rw [ei] at day
      rcases hnext with ⟨h0, hE⟩ | ⟨q1, q2, q3⟩
      · subst h0
        refine ⟨n + 1, mupd σ2 25 2 (sk b L p'), τ2, fun Q hQ => run Q (bt hr ?_), fun Q hQ => day Q (bn1 ?_), d3.1.fr (fun k k1 k2 => mupd_ne _ k1) (fun _ _ => rfl) (fun _ _ _ _ => rfl), e14⟩
        · refine c_passes hB t2 (fun k _ => by omega) (fun _ => bn0 ?_)
          rw [jadd_eq (by omega) (by omega)]; exact hQ
        · apply b_X9_day_0_33
          rw [e16]
          exact bt (by omega) hQ
      · obtain ⟨r2, σ3, τ3, f1, f2, f3, f4⟩ := ih (n + 1) (sk b L p' + 1) (mupd σ2 25 2 (sk b L p' + 1)) τ2 q3 (t2.up (by omega)) (d3.1.fr (fun k k1 k2 => mupd_ne _ k1) (fun _ _ => rfl) (fun _ _ _ _ => rfl)) (by rw [d3.2.2.2 4 (by decide) (by decide), h4]) (by rw [d3.2.2.2 9 (by decide) (by decide), h9]) (by rw [e16]; omega) (by omega) (by omega) (fun i i1 i2 => (hA i (by omega) (by omega)).eq (d3.2.2.1 11 (by decide)))
        refine ⟨r2, σ3, τ3, fun Q hQ => run Q (bt hr ?_), fun Q hQ => day Q (bn1 (f2 Q hQ)), f3, by rw [f4, e14]⟩
        refine c_passes hB t2 (fun _ _ => bn1 ?_) (fun k => absurd ⟨q1, q2⟩ k)
        rw [jadd_eq (by omega) (by omega)]
        exact f1 Q hQ
    · have ei : (if r < 0 then (0 : Int) else 1) = 0 := if_pos (by omega)
      rw [ei] at day
      exact ⟨n, σ2, τ2, fun Q hQ => run Q (bf hr hQ), fun Q hQ => day Q (bn0 hQ), d3.1, e14⟩
theorem sim_day {σ τ : Mem} (hR : RR σ τ) : SIM M_X8_day M_X9_day [mr 0] σ τ RR := by
  obtain ⟨hB, b1, b2⟩ := hR.by
  have hL := hB.1
  have hnc := hR.nc
  have hnt := hR.nt
  obtain ⟨ok, F, N, ra, rv, rw', ⟨k1, k2, k3⟩, kC, kM⟩ := l_dayp hB hnt.1 hnc.1 101 0 0 (by omega) (by omega) (by omega) (by omega)
  have tc0 : TC (τ 10) (τ 0 14) 0 (mupd σ 25 2 0) := ⟨by rw [mupd_ri (by decide)]; exact b1, by rw [mupd_at], by omega, fun i a c => by rw [mupd_rp (by decide)]; exact b2 i a c⟩
  obtain ⟨σ1, ⟨c1, c2, c3⟩, c4⟩ := kC (mupd σ 25 2 0) tc0 (by rw [mupd_rp (by decide)]; exact hnt.2) (by rw [mupd_rp (by decide)]; exact hnc.2)
  have tm0 : TM (τ 10) (τ 0 14) 0 (mupd (mupd τ 0 15 0) 0 16 0) := TM.s ⟨by rw [mupd_ri (by decide)], by rw [mupd_at], by omega, fun i a c => by rw [mupd_rp (by decide)]⟩
  obtain ⟨τ1, p1, ⟨f1, f2, f3, f4⟩, f5⟩ := kM _ tm0 (by rw [mupd_ri (by decide), mupd_ri (by decide)]) (by rw [mupd_ri (by decide), mupd_ri (by decide)]) (by rw [mupd_at])
  have fc : ∀ k, k ≠ 25 → k ≠ 27 → σ1 k = σ k := fun k a c => by rw [c3 k a c, mupd_ne _ a]
  have fm : ∀ k, (1 ≤ k ∧ k ≤ 10) ∨ 12 ≤ k → τ1 k = τ k := fun k hk => by rw [f2.1 k hk, mupd_ne _ (by omega), mupd_ne _ (by omega)]
  have fm0 : ∀ j, j ≠ 15 → j ≠ 16 → τ1 0 j = τ 0 j := fun j a c => by rw [f2.2.1 j a c, mupd_ri c, mupd_ri a]
  rcases k1 with k1 | k1
  · subst k1
    rw [if_neg (by decide)] at c4
    have g1 := f3 rfl
    refine ⟨-20 - F, (· = mupd σ1 25 1 0), fun τ' => (∀ k, (1 ≤ k ∧ k ≤ 10) ∨ 12 ≤ k → τ' k = τ k) ∧ (∀ j, j ≠ 14 → j ≠ 15 → j ≠ 16 → τ' 0 j = τ 0 j) ∧ τ' 0 14 = 0, ?_, ?_, ?_⟩
    · apply e_X8_day_0; apply e_X2_checkDay_27_25_1
      refine c4 _ (bnt (by omega) ?_)
      apply b_X8_day_0_39; apply e_X5_clear_25
      exact ⟨rfl, rfl⟩
    · apply e_X9_day_0; apply e_X9_readDay_0
      refine f5 _ (bn0 ?_)
      refine m_next hB f1 (fun _ => ?_) (fun _ => ?_)
      all_goals
        apply b_X9_day_0_14
        refine ⟨fun z => absurd rfl z, fun _ => ?_⟩
        rw [mupd_at, g1, jsub_eq (by omega) (by omega)]
        refine ⟨rfl, fun k hk => ?_, fun j j1 j2 j3 => ?_, by rw [mupd_at]⟩
        · rw [mupd_ne _ (by omega), mupd_ne _ (by omega), fm k hk]
        · rw [mupd_ri j1, mupd_ri j2, fm0 j j2 j3]
    · rintro σ' τ' - - rfl ⟨t1, t2, t3⟩
      exact (hR.w.fr (fun k a c => by rw [mupd_ne _ a, fc k a c]) t1 t2).rr (TP.nil (by rw [mupd_at]) t3)
  · subst k1
    rw [if_pos rfl] at c4
    obtain ⟨z1, z2, z3⟩ := k3 rfl
    obtain ⟨g1, g2⟩ := f4 rfl
    have hRW : RW (mupd σ1 25 2 0) (mupd τ1 0 14 0) := hR.w.fr (fun k a c => by rw [mupd_ne _ a, fc k a c]) (fun k hk => by rw [mupd_ne _ (by omega), fm k hk]) (fun j a c d => by rw [mupd_ri a, fm0 j c d])
    obtain ⟨r, σ2, τ2, d1, d2, d3, d4⟩ := l_run hB N 0 0 (mupd σ1 25 2 0) (mupd τ1 0 14 0) z3 ⟨by rw [mupd_ri (by decide)]; exact c1, by rw [mupd_at], by omega, fun i a c => by rw [mupd_rp (by decide)]; exact c2 i a c⟩ hRW (by rw [mupd_ri (by decide), fm0 4 (by decide) (by decide)]) (by rw [mupd_ri (by decide), fm0 9 (by decide) (by decide)]) (by rw [mupd_ri (by decide)]; exact g1) (by omega) (by omega) (fun i a c => (g2 i a c).eq (mupd_ne _ (by decide)))
    refine ⟨r, (· = mupd σ2 25 1 0), (· = τ2), ?_, ?_, ?_⟩
    · apply e_X8_day_0; apply e_X2_checkDay_27_25_1
      refine c4 _ (bn0 ?_)
      apply e_X2_runDay_27_25_1
      refine d1 _ ?_
      apply b_X8_day_0_39; apply e_X5_clear_25
      exact ⟨rfl, rfl⟩
    · apply e_X9_day_0; apply e_X9_readDay_0
      refine f5 _ (bn1 ?_)
      apply b_X9_day_0_14
      exact nt (by decide) (d2 _ ⟨rfl, rfl⟩)
    · rintro σ' τ' - - rfl rfl
      exact (d3.fr (fun k a c => mupd_ne _ a) (fun _ _ => rfl) (fun _ _ _ _ => rfl)).rr (TP.nil (by rw [mupd_at]) (by rw [d4, mupd_at]))
