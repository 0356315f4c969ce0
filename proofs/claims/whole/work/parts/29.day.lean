/-! day -/
theorem RW.fr {σ σ' τ τ' : Mem} (h : RW σ τ) (s : ∀ k, k ≠ 25 → k ≠ 27 → σ' k = σ k) (t : ∀ k, (1 ≤ k ∧ k ≤ 10) ∨ 12 ≤ k → τ' k = τ k) (t0 : ∀ j, j ≠ 14 → j ≠ 15 → j ≠ 16 → τ' 0 j = τ 0 j) : RW σ' τ' :=
  ⟨h.1.fr (fun k a c => t k (by omega)) (fun j a => t0 j (by omega) (by omega) (by omega)), h.2.1.fr (fun k a c => s k (by omega) (by omega)) (fun k a c => t k (by omega)) (fun j a => t0 j (by omega) (by omega) (by omega)), h.2.2.1.fr (fun k a c => s k (by omega) (by omega)) (by rw [s 0 (by decide) (by decide)]) (t 17 (by omega)) (t0 26 (by decide) (by decide) (by decide)), trivial, h.2.2.2.2.fr (fun k a c => s k (by omega) (by omega)) (fun k a c => t k (by omega))⟩
theorem RW.rr {σ τ : Mem} (h : RW σ τ) (p : TP σ τ) : RR σ τ := ⟨h.1, h.2.1, h.2.2.1, p, h.2.2.2.2⟩
def PA (b : Int → Int) (L tn nc a v1 v2 p p' : Int) : Prop := AOK tn nc a v1 v2 ∧ (0 ≤ p' ∧ p' ≤ L) ∧ ∀ (σ : Mem), TC b L p σ → σ 8 0 = tn → σ 3 0 = nc → ∃ σ', (TC b L p' σ' ∧ FAC σ σ' ∧ ACV a v1 v2 σ') ∧ ∀ Q : Int → Mem → Prop, Q 1 σ' → HT GC M_X2_readAct [mr 27, mr 25, mr 1] σ Q
/-- the acts from p on are the rows from i on -/
def CH (b : Int → Int) (L tn nc : Int) (ra rv rw : Int → Int) : Nat → Int → Int → Prop
  | 0, _, _ => False
  | m + 1, p, i => ∃ p', PA b L tn nc (ra i) (rv i) (rw i) p p' ∧ ((m = 0 ∧ L ≤ sk b L p') ∨ (sk b L p' < L ∧ b (sk b L p') = 59 ∧ CH b L tn nc ra rv rw m (sk b L p' + 1) (i + 1)))
theorem CH.add {b : Int → Int} {L tn nc n a v w : Int} {ra rv rw : Int → Int} : ∀ (m : Nat) (p i : Int), n < i → CH b L tn nc ra rv rw m p i → CH b L tn nc (aD ra n a) (aD rv n v) (aD rw n w) m p i
  | 0, _, _, _, h => h
  | m + 1, p, i, hi, h => by
    obtain ⟨p', hp, hq⟩ := h
    refine ⟨p', ?_, ?_⟩
    · rw [aD_ne (by omega), aD_ne (by omega), aD_ne (by omega)]; exact hp
    · rcases hq with hq | ⟨h1, h2, h3⟩
      · exact Or.inl hq
      · exact Or.inr ⟨h1, h2, CH.add m _ _ (by omega) h3⟩
def FRD (n : Int) (τ τ' : Mem) : Prop := (∀ k, (1 ≤ k ∧ k ≤ 10) ∨ 12 ≤ k → τ' k = τ k) ∧ (∀ j, j ≠ 15 → j ≠ 16 → τ' 0 j = τ 0 j) ∧ ∀ i, i < 3 * n → τ' 11 i = τ 11 i
theorem FRA.d {n : Int} {τ τ' : Mem} (h : FRA (3 * n) τ τ') : FRD n τ τ' := ⟨h.1, fun j a _ => h.2.1 j a, h.2.2⟩
theorem FRD.tr {n m : Int} {a b c : Mem} (h : FRD n a b) (g : FRD m b c) (hm : n ≤ m) : FRD n a c :=
  ⟨fun k hk => by rw [g.1 k hk, h.1 k hk], fun i h1 h2 => by rw [g.2.1 i h1 h2, h.2.1 i h1 h2], fun q hq => by rw [g.2.2 q (by omega), h.2.2 q hq]⟩
theorem FRD.p {n q j : Int} {τ : Mem} (hj : j = 15 ∨ j = 16) : FRD n τ (mupd τ 0 j q) := ⟨fun k hk => mupd_ne _ (by omega), fun i a c => mupd_ri (by omega), fun i _ => by rw [mupd_rp (by decide)]⟩
theorem AMV.fr {n a v w : Int} {τ τ' : Mem} (h : AMV (3 * n) a v w τ) (f : ∀ i, i < 3 * (n + 1) → τ' 11 i = τ 11 i) : AMV (3 * n) a v w τ' := by
  unfold AMV at *
  rw [f _ (by omega), f _ (by omega), f _ (by omega)]; exact h
theorem AMV.eq {m a v w : Int} {τ τ' : Mem} (h : AMV m a v w τ) (f : τ' 11 = τ 11) : AMV m a v w τ' := by
  unfold AMV at *
  rw [f]; exact h
def LDay (b : Int → Int) (L tn nc n p : Int) : Prop := ∃ (ok F : Int) (N : Nat) (ra rv rw : Int → Int), ((ok = 0 ∨ ok = 1) ∧ (0 ≤ F ∧ F ≤ L) ∧ (ok = 1 → 1 ≤ N ∧ n + N ≤ 51 ∧ CH b L tn nc ra rv rw N p n)) ∧ (∀ (σ : Mem), TC b L p σ → σ 8 0 = tn → σ 3 0 = nc → ∃ σ', (σ' 25 1 = L ∧ (∀ i, 0 ≤ i → i < L → σ' 26 i = b i) ∧ FAC σ σ') ∧ ∀ Q : Int → Mem → Prop, Q (if ok = 1 then 0 else -20 - F) σ' → WP GC M_X2_checkDay 7 [some (mr 27), some (mr 25), some (mr 1), some (mi n)] [] σ Q) ∧ (∀ (τ : Mem), TM b L p τ → τ 0 4 = nc → τ 0 9 = tn → τ 0 16 = n → ∃ τ' p', (TM b L p' τ' ∧ FRD n τ τ' ∧ (ok = 0 → sk b L p' = F) ∧ (ok = 1 → τ' 0 16 = n + N ∧ ∀ i, n ≤ i → i < n + N → AMV (3 * i) (ra i) (rv i) (rw i) τ')) ∧ ∀ Q : Int → Mem → Prop, Q ok τ' → WP GM M_X9_readDay 12 [some (mr 0), some (mi 1)] [] τ Q)
theorem m_day55 {b : Int → Int} {L p : Int} {τ : Mem} {Q : Int → Mem → Prop} (hB : BY b L) (hT : TM b L p τ) (hs : sk b L p = p) (hQ : Q (if L ≤ p then 1 else 0) τ) : WP GM M_X9_readDay 55 [some (mr 0), none] [mi 0] τ Q := by
  have hL := hB.1
  have hp := hT.2.2.1
  apply b_X9_readDay_0_55
  refine bt rfl ?_
  apply b_X9_readDay_0_70
  rw [hT.2.1, jadd_eq (by omega) (by omega), Int.add_zero, mupd_self hT.2.1]
  apply b_X9_readDay_0_12
  refine bt rfl (m_next hB hT (fun z => ?_) (fun z => ?_))
  · rw [hs, mupd_self hT.2.1]
    rw [hs] at z
    rw [if_pos z] at hQ
    exact bf (by decide) hQ
  · rw [hs, mupd_self hT.2.1]
    rw [hs] at z
    have hy := hB.2 _ hp.1 z
    rw [if_neg (by omega)] at hQ
    exact bt (by omega) hQ
theorem l_dayp {b : Int → Int} {L tn nc : Int} (hB : BY b L) (htn : 0 ≤ tn ∧ tn ≤ 8) (hnc : 0 ≤ nc ∧ nc ≤ 4) : ∀ (m : Nat) (n p : Int), L - p < m → (0 ≤ p ∧ p ≤ L) → 0 ≤ n → 2 * n ≤ p → LDay b L tn nc n p := by
  intro m
  induction m with
  | zero => intro n p hm hp; omega
  | succ m ih =>
    intro n p hm hp hn h2
    have hL := hB.1
    obtain ⟨ok1, a, v1, v2, p', ⟨hp', hC⟩, rC, rM⟩ := r_act hB hp htn hnc (n := n) (by omega)
    have hq := sk_ok (b := b) hp'
    have hle := sk_in (b := b) hp'.2
    have hss := sk_sk (b := b) hp'.2
    rcases hC with ⟨o1, o2⟩ | ⟨o1, o2, o3⟩
    · subst o1
      refine ⟨0, p', 0, fun _ => 0, fun _ => 0, fun _ => 0, ⟨Or.inl rfl, hp', fun z => absurd z (by decide)⟩, fun σ hT h8 h3 => ?_, fun τ hT h4 h9 h16 => ?_⟩
      · obtain ⟨σ', ⟨c1, c2, c3⟩, c4⟩ := rC σ hT h8 h3
        refine ⟨σ', ⟨c1.1, c1.2.2.2, c2⟩, fun Q hQ => ?_⟩
        rw [if_neg (by decide)] at hQ
        apply b_X2_checkDay_27_25_1_7
        exact bf (by omega) (c4 _ (bn0 (c_fault hB c1 hQ)))
      · obtain ⟨τ', ⟨d1, d2, d3⟩, d4⟩ := rM τ hT h4 h9
        refine ⟨τ', p', ⟨d1, d2.d, fun _ => o2, fun z => absurd z (by decide)⟩, fun Q hQ => ?_⟩
        apply b_X9_readDay_0_12
        rw [h16, jmul_eq (by omega) (by omega)]
        exact bf (by decide) (d4 _ (bn0 hQ))
    · subst o1
      have hPA : PA b L tn nc a v1 v2 p p' := ⟨o3, hp', fun σ hT h8 h3 => by
        obtain ⟨σ', ⟨c1, c2, c3⟩, c4⟩ := rC σ hT h8 h3
        exact ⟨σ', ⟨c1, c2, c3 rfl⟩, c4⟩⟩
      by_cases hE : L ≤ sk b L p'
      · refine ⟨1, 0, 1, fun _ => a, fun _ => v1, fun _ => v2, ⟨Or.inr rfl, by omega, fun _ => ⟨by omega, by omega, p', hPA, Or.inl ⟨rfl, hE⟩⟩⟩, fun σ hT h8 h3 => ?_, fun τ hT h4 h9 h16 => ?_⟩
        · obtain ⟨σ', ⟨c1, c2, c3⟩, c4⟩ := rC σ hT h8 h3
          have t2 := c1.up hq
          refine ⟨mupd σ' 25 2 (sk b L p'), ⟨t2.1, t2.2.2.2, c2.tr (FAC.p (Or.inl rfl))⟩, fun Q hQ => ?_⟩
          rw [if_pos rfl] at hQ
          apply b_X2_checkDay_27_25_1_7
          exact bf (by omega) (c4 _ (bn1 (c_atEnd hB c1 (fun _ => bf (by decide) hQ) (fun k => by omega))))
        · obtain ⟨τ', ⟨d1, d2, d3⟩, d4⟩ := rM τ hT h4 h9
          have t2 := (d1.s (v := n + 1)).up hq
          refine ⟨mupd (mupd τ' 0 16 (n + 1)) 0 15 (sk b L p'), sk b L p', ⟨t2, (d2.d.tr (FRD.p (Or.inr rfl)) (Int.le_refl _)).tr (FRD.p (Or.inl rfl)) (Int.le_refl _), fun z => absurd z (by decide), fun _ => ⟨by rw [mupd_ri (by decide), mupd_at]; rfl, fun i i1 i2 => ?_⟩⟩, fun Q hQ => ?_⟩
          · obtain rfl : i = n := by omega
            exact (d3 rfl).eq (by rw [mupd_ne _ (by decide), mupd_ne _ (by decide)])
          · apply b_X9_readDay_0_12
            rw [h16, jmul_eq (by omega) (by omega)]
            refine bf (by decide) (d4 _ (bn1 ?_))
            have e16 : τ' 0 16 = n := by rw [d2.2.1 16 (by decide), h16]
            rw [e16, jadd_eq (by omega) (by omega)]
            refine m_next hB (d1.s (v := n + 1)) (fun _ => bnt (by decide) ?_) (fun k => by omega)
            refine m_day55 hB t2 hss ?_
            rw [if_pos hE]; exact hQ
      · by_cases h59 : b (sk b L p') = 59
        · obtain ⟨ok, F, N, ra, rv, rw', ⟨k1, k2, k3⟩, kC, kM⟩ := ih (n + 1) (sk b L p' + 1) (by omega) (by omega) (by omega) (by omega)
          refine ⟨ok, F, N + 1, aD ra n a, aD rv n v1, aD rw' n v2, ⟨k1, k2, fun z => ?_⟩, fun σ hT h8 h3 => ?_, fun τ hT h4 h9 h16 => ?_⟩
          · obtain ⟨z1, z2, z3⟩ := k3 z
            refine ⟨by omega, by omega, p', ?_, Or.inr ⟨by omega, h59, CH.add N _ _ (by omega) z3⟩⟩
            rw [aD_at rfl, aD_at rfl, aD_at rfl]; exact hPA
          · obtain ⟨σ', ⟨c1, c2, c3⟩, c4⟩ := rC σ hT h8 h3
            obtain ⟨σ2, ⟨e1, e2, e3⟩, e4⟩ := kC (mupd σ' 25 2 (sk b L p' + 1)) (c1.up (by omega)) (by rw [mupd_rp (by decide), c2 8 (by decide) (by decide)]; exact h8) (by rw [mupd_rp (by decide), c2 3 (by decide) (by decide)]; exact h3)
            refine ⟨σ2, ⟨e1, e2, (c2.tr (FAC.p (Or.inl rfl))).tr e3⟩, fun Q hQ => ?_⟩
            apply b_X2_checkDay_27_25_1_7
            refine bf (by omega) (c4 _ (bn1 (c_atEnd hB c1 (fun k => by omega) (fun _ => bt rfl ?_))))
            refine c_passes hB (c1.up hq) (fun _ _ => ?_) (fun k => absurd ⟨by omega, by rw [hss]; exact h59⟩ k)
            rw [hss, mupd_up, jadd_eq (by omega) (by omega)]
            exact bn1 (e4 Q hQ)
          · obtain ⟨τ', ⟨d1, d2, d3⟩, d4⟩ := rM τ hT h4 h9
            have t2 := (d1.s (v := n + 1)).up hq
            obtain ⟨τ2, p2, ⟨f1, f2, f3, f4⟩, f5⟩ := kM (mupd (mupd τ' 0 16 (n + 1)) 0 15 (sk b L p' + 1)) ((d1.s).up (by omega)) (by rw [mupd_ri (by decide), mupd_ri (by decide), d2.2.1 4 (by decide)]; exact h4) (by rw [mupd_ri (by decide), mupd_ri (by decide), d2.2.1 9 (by decide)]; exact h9) (by rw [mupd_ri (by decide), mupd_at])
            refine ⟨τ2, p2, ⟨f1, ((d2.d.tr (FRD.p (Or.inr rfl)) (Int.le_refl _)).tr (FRD.p (Or.inl rfl)) (Int.le_refl _)).tr f2 (by omega), f3, fun z => ⟨?_, fun i i1 i2 => ?_⟩⟩, fun Q hQ => ?_⟩
            · rw [(f4 z).1]; omega
            · by_cases e : i = n
              · rw [aD_at e, aD_at e, aD_at e, e]
                exact ((d3 rfl).eq (τ' := mupd (mupd τ' 0 16 (n + 1)) 0 15 (sk b L p' + 1)) (by rw [mupd_ne _ (by decide), mupd_ne _ (by decide)])).fr (fun j hj => f2.2.2 j hj)
              · rw [aD_ne e, aD_ne e, aD_ne e]
                exact (f4 z).2 i (by omega) (by omega)
            · apply b_X9_readDay_0_12
              rw [h16, jmul_eq (by omega) (by omega)]
              refine bf (by decide) (d4 _ (bn1 ?_))
              have e16 : τ' 0 16 = n := by rw [d2.2.1 16 (by decide), h16]
              rw [e16, jadd_eq (by omega) (by omega)]
              refine m_next hB (d1.s (v := n + 1)) (fun k => by omega) (fun _ => nf h59 ?_)
              apply b_X9_readDay_0_55
              refine bf (by decide) ?_
              apply b_X9_readDay_0_70
              rw [t2.2.1, jadd_eq (by omega) (by omega), mupd_up]
              exact f5 Q hQ
        · refine ⟨0, sk b L p', 0, fun _ => 0, fun _ => 0, fun _ => 0, ⟨Or.inl rfl, hq, fun z => absurd z (by decide)⟩, fun σ hT h8 h3 => ?_, fun τ hT h4 h9 h16 => ?_⟩
          · obtain ⟨σ', ⟨c1, c2, c3⟩, c4⟩ := rC σ hT h8 h3
            have t2 := c1.up hq
            refine ⟨mupd σ' 25 2 (sk b L p'), ⟨t2.1, t2.2.2.2, c2.tr (FAC.p (Or.inl rfl))⟩, fun Q hQ => ?_⟩
            rw [if_neg (by decide)] at hQ
            apply b_X2_checkDay_27_25_1_7
            refine bf (by omega) (c4 _ (bn1 (c_atEnd hB c1 (fun k => by omega) (fun _ => bt rfl ?_))))
            refine c_passes hB t2 (fun _ k => absurd (by rw [hss] at k; exact k) h59) (fun _ => bn0 ?_)
            rw [hss, mupd_up]
            exact c_fault hB t2 hQ
          · obtain ⟨τ', ⟨d1, d2, d3⟩, d4⟩ := rM τ hT h4 h9
            have t2 := (d1.s (v := n + 1)).up hq
            refine ⟨mupd (mupd τ' 0 16 (n + 1)) 0 15 (sk b L p'), sk b L p', ⟨t2, (d2.d.tr (FRD.p (Or.inr rfl)) (Int.le_refl _)).tr (FRD.p (Or.inl rfl)) (Int.le_refl _), fun _ => hss, fun z => absurd z (by decide)⟩, fun Q hQ => ?_⟩
            apply b_X9_readDay_0_12
            rw [h16, jmul_eq (by omega) (by omega)]
            refine bf (by decide) (d4 _ (bn1 ?_))
            have e16 : τ' 0 16 = n := by rw [d2.2.1 16 (by decide), h16]
            rw [e16, jadd_eq (by omega) (by omega)]
            refine m_next hB (d1.s (v := n + 1)) (fun k => by omega) (fun _ => nt h59 ?_)
            refine m_day55 hB t2 hss ?_
            rw [if_neg hE]; exact hQ
theorem DSIM.out {M M' : MI} {as as' : List MV} {σ τ : Mem} {R : Int → Mem → Mem → Prop} (h : DSIM M as M' as' σ τ R) : ∃ r σ' τ', (∀ Q : Int → Mem → Prop, Q r σ' → HT GC M as σ Q) ∧ (∀ Q : Int → Mem → Prop, Q r τ' → HT GM M' as' τ Q) ∧ R r σ' τ' := by
  obtain ⟨r, σ', τ', h1, h2, h3⟩ := h
  exact ⟨r, σ', τ', fun Q hQ => HT.mono h1 (fun a s _ _ q => by rw [q.1, q.2]; exact hQ), fun Q hQ => HT.mono h2 (fun a s _ _ q => by rw [q.1, q.2]; exact hQ), h3⟩
theorem act_do {tn nc a v1 v2 n : Int} {σ τ : Mem} (hR : RW σ τ) (hA : AOK tn nc a v1 v2) (hC : ACV a v1 v2 σ) (hM : AMV (3 * n) a v1 v2 τ) (h4 : τ 0 4 = nc) (h9 : τ 0 9 = tn) (hn : 0 ≤ n ∧ n ≤ 50) : ∃ r σ' τ', (∀ Q : Int → Mem → Prop, Q r σ' → HT GC M_X2_doAct [mr 27, mr 1] σ Q) ∧ (∀ Q : Int → Mem → Prop, Q (if r < 0 then 0 else 1) τ' → HT GM M_X9_does [mr 0, mi (3 * n)] τ Q) ∧ ACT σ τ σ' τ' := by
  have fin : ∀ {r : Int} {τ' : Mem} {Q : Int → Mem → Prop}, Q (if r < 0 then 0 else 1) τ' → (r < 0 → Q 0 τ') ∧ (¬ r < 0 → Q 1 τ') := fun h => ⟨fun z => by rw [if_pos z] at h; exact h, fun z => by rw [if_neg z] at h; exact h⟩
  obtain ⟨c1, c2, c3⟩ := hC
  obtain ⟨m1, m2, m3⟩ := hM
  subst h4 h9
  rcases hA with e | ⟨e, hv⟩ | ⟨e, hv, hw⟩ | ⟨e, hv, hw⟩
  · obtain ⟨r, σ', τ', h1, h2, h3⟩ := (act_bell hR).out
    refine ⟨r, σ', τ', fun Q hQ => ?_, fun Q hQ => ?_, h3⟩
    · apply e_X2_doAct_27_1
      rw [c1]
      exact ⟨fun z => by omega, fun z => by omega, fun z => by omega, fun z => by omega, fun _ _ _ _ => h1 _ hQ⟩
    · apply e_X9_does_0
      rw [jadd_eq (by omega) (by omega), jadd_eq (by omega) (by omega), m1]
      exact ⟨by omega, by omega, by omega, nt (by omega) (nt (by omega) (nt (by omega) (nt (by omega) (h2 _ (fin hQ)))))⟩
  · obtain ⟨r, σ', τ', h1, h2, h3, -⟩ := (act_search hR hv).out
    refine ⟨r, σ', τ', fun Q hQ => ?_, fun Q hQ => ?_, h3⟩
    · apply e_X2_doAct_27_1
      rw [c1, c2 e]
      exact ⟨fun z => by omega, fun z => by omega, fun _ => h1 _ hQ, fun z => by omega, fun _ _ z => by omega⟩
    · apply e_X9_does_0
      rw [jadd_eq (by omega) (by omega), jadd_eq (by omega) (by omega), m1, m2 (by omega)]
      exact ⟨by omega, by omega, by omega, nt (by omega) (nt (by omega) (nf e (h2 _ (fin hQ))))⟩
  · obtain ⟨c4, c5⟩ := c3 (by omega) (by omega)
    rcases e with e | e
    · obtain ⟨r, σ', τ', h1, h2, h3⟩ := (act_put hR hv hw).out
      refine ⟨r, σ', τ', fun Q hQ => ?_, fun Q hQ => ?_, h3⟩
      · apply e_X2_doAct_27_1
        rw [c1, c4, c5]
        exact ⟨fun z => by omega, fun _ => h1 _ hQ, fun z => by omega, fun z => by omega, fun _ z => by omega⟩
      · apply e_X9_does_0
        rw [jadd_eq (by omega) (by omega), jadd_eq (by omega) (by omega), m1, m2 (by omega), m3 (by omega) (by omega)]
        exact ⟨by omega, by omega, by omega, nf e (h2 _ (fin hQ))⟩
    · obtain ⟨r, σ', τ', h1, h2, h3⟩ := (act_take hR hv hw).out
      refine ⟨r, σ', τ', fun Q hQ => ?_, fun Q hQ => ?_, h3⟩
      · apply e_X2_doAct_27_1
        rw [c1, c4, c5]
        exact ⟨fun z => by omega, fun z => by omega, fun z => by omega, fun _ => h1 _ hQ, fun _ _ _ z => by omega⟩
      · apply e_X9_does_0
        rw [jadd_eq (by omega) (by omega), jadd_eq (by omega) (by omega), m1, m2 (by omega), m3 (by omega) (by omega)]
        exact ⟨by omega, by omega, by omega, nt (by omega) (nf e (h2 _ (fin hQ)))⟩
  · obtain ⟨c4, c5⟩ := c3 (by omega) (by omega)
    obtain ⟨r, σ', τ', h1, h2, h3⟩ := (act_give hR hv hw).out
    refine ⟨r, σ', τ', fun Q hQ => ?_, fun Q hQ => ?_, h3⟩
    · apply e_X2_doAct_27_1
      rw [c1, c4, c5]
      exact ⟨fun _ => h1 _ hQ, fun z => by omega, fun z => by omega, fun z => by omega, fun z => by omega⟩
    · apply e_X9_does_0
      rw [jadd_eq (by omega) (by omega), jadd_eq (by omega) (by omega), m1, m2 (by omega), m3 (by omega) (by omega)]
      exact ⟨by omega, by omega, by omega, nt (by omega) (nt (by omega) (nt (by omega) (nf e (h2 _ (fin hQ)))))⟩
