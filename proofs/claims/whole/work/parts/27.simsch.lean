/-! school in step -/
/-- where a thing lies once the coats are new -/
def lv (p : Int) : Int := if p < 10 ∨ 30 ≤ p then p else 0
theorem lv_pl {n N p : Int} (hn : n ≤ 4) (hN : 0 ≤ N) (h : PLC n p) : PLC N (lv p) := by
  unfold PLC lv at *
  split <;> omega
theorem c_leave {σ0 : Mem} {Q : Int → Mem → Prop} (hn : 0 ≤ σ0 8 0 ∧ σ0 8 0 ≤ 8) (hQ : ∀ σ', (∀ k, k ≠ 10 → σ' k = σ0 k) → (∀ t, 0 ≤ t → t < σ0 8 0 → σ' 10 t = lv (σ0 10 t)) → Q 0 σ') : ∀ (m : Nat) (i : Int) (σ : Mem), i + m = σ0 8 0 → 0 ≤ i → (∀ k, k ≠ 10 → σ k = σ0 k) → (∀ t, 0 ≤ t → t < i → σ 10 t = lv (σ0 10 t)) → (∀ t, i ≤ t → σ 10 t = σ0 10 t) → WP GC M_X6_leaveCoats 2 [some (mr 8), some (mi i)] [] σ Q
  | 0, i, σ, hi, h0, f, a, c => by
    apply b_X6_leaveCoats_8_2
    rw [f 8 (by decide)]
    exact bt (by omega) (hQ σ f (fun t t0 t1 => a t t0 (by omega)))
  | m + 1, i, σ, hi, h0, f, a, c => by
    have nxt : ∀ σ1, (∀ k, k ≠ 10 → σ1 k = σ0 k) → (∀ t, 0 ≤ t → t < i + 1 → σ1 10 t = lv (σ0 10 t)) → (∀ t, i + 1 ≤ t → σ1 10 t = σ0 10 t) → WP GC M_X6_leaveCoats 39 [some (mr 8), some (mi i)] [] σ1 Q := by
      intro σ1 f1 a1 c1
      apply b_X6_leaveCoats_8_39
      rw [jadd_eq (by omega) (by omega)]
      exact c_leave hn hQ m (i + 1) σ1 (by omega) (by omega) f1 a1 c1
    have same : lv (σ0 10 i) = σ0 10 i → WP GC M_X6_leaveCoats 39 [some (mr 8), some (mi i)] [] σ Q := fun e => nxt σ f (fun t t0 t1 => by
      by_cases q : t = i
      · rw [q, e, c i (by omega)]
      · exact a t t0 (by omega)) (fun t ht => c t (by omega))
    apply b_X6_leaveCoats_8_2
    rw [f 8 (by decide), c i (by omega)]
    refine bf (by omega) ⟨by omega, ⟨fun z => same (if_pos (Or.inl z)), fun z => ⟨by omega, ⟨fun y => same (if_pos (Or.inr y)), fun y => ⟨by omega, ?_⟩⟩⟩⟩⟩
    refine nxt _ (fun k hk => by rw [mupd_ne _ hk, f k hk]) (fun t t0 t1 => ?_) (fun t ht => by rw [mupd_ri (by omega), c t (by omega)])
    rw [mupd_ap]
    by_cases q : t = i
    · rw [if_pos q, q]
      exact (if_neg (by omega)).symm
    · rw [if_neg q]; exact a t t0 (by omega)
theorem m_leave {τ0 : Mem} {Q : Int → Mem → Prop} {N : Int} (hN : 0 ≤ N ∧ N ≤ 4) (hn : 0 ≤ τ0 0 9 ∧ τ0 0 9 ≤ 8) (hp : ∀ t, 0 ≤ t → t < τ0 0 9 → τ0 6 t ≤ 30) (hQ : ∀ τ', (∀ k, k ≠ 6 → τ' k = τ0 k) → (∀ t, 0 ≤ t → t < τ0 0 9 → τ' 6 t = lv (τ0 6 t)) → Q (τ0 0 4) τ') : ∀ (m : Nat) (i : Int) (τ : Mem), i + m = τ0 0 9 → 0 ≤ i → (∀ k, k ≠ 6 → τ k = τ0 k) → (∀ t, 0 ≤ t → t < i → τ 6 t = lv (τ0 6 t)) → (∀ t, i ≤ t → τ 6 t = τ0 6 t) → WP GM M_X9_school 137 [some (mr 0), none, some (mi i), none] [] τ Q
  | 0, i, τ, hi, h0, f, a, c => by
    apply b_X9_school_0_137
    rw [f 0 (by decide)]
    exact bt (by omega) (hQ τ f (fun t t0 t1 => a t t0 (by omega)))
  | m + 1, i, τ, hi, h0, f, a, c => by
    have hpi := hp i h0 (by omega)
    have wr : ∀ v, v = lv (τ0 6 i) → WP GM M_X9_school 182 [some (mr 0), none, some (mi i), none] [mi v, mi i, mr 6] τ Q := by
      intro v hv
      apply b_X9_school_0_182
      rw [jadd_eq (by omega) (by omega)]
      refine ⟨by omega, m_leave hN hn hp hQ m (i + 1) _ (by omega) (by omega) (fun k hk => by rw [mupd_ne _ hk, f k hk]) (fun t t0 t1 => ?_) (fun t ht => by rw [mupd_ri (by omega), c t (by omega)])⟩
      rw [mupd_ap]
      by_cases q : t = i
      · rw [if_pos q, hv, q]
      · rw [if_neg q]; exact a t t0 (by omega)
    have same : lv (τ0 6 i) = τ0 6 i → WP GM M_X9_school 172 [some (mr 0), none, some (mi i), none] [mi i, mr 6] τ Q := by
      intro e
      apply b_X9_school_0_172
      exact ⟨by omega, wr _ (by rw [e, c i (by omega)])⟩
    apply b_X9_school_0_137
    rw [f 0 (by decide), c i (by omega)]
    refine bf (by omega) ⟨by omega, ⟨fun z => same (if_pos (Or.inl z)), fun z => ⟨by omega, ⟨fun y => wr _ (if_neg (by omega)).symm, fun y => same (if_pos (by omega))⟩⟩⟩⟩
def DN (c : Int) (sz ho : Int → Int) (bo : Int → Int → Int) (τ : Mem) : Prop := ∀ i, 0 ≤ i → i < c → τ 1 i = sz i ∧ τ 2 i = 0 ∧ τ 3 i = ho i ∧ ∀ k, 0 ≤ k → k < sz i → τ 4 (4 * i + k) = bo i k
theorem l_cp90 {N c : Int} {sz ho : Int → Int} {bo : Int → Int → Int} {τ0 : Mem} {Q : Int → Mem → Prop} (hc : 0 ≤ c ∧ c < N) (hN : N ≤ 4) (hK : KM N sz ho bo τ0) (hO : OKC N sz ho bo) (hQ : ∀ τ', (∀ k, k = 0 ∨ 5 ≤ k → τ' k = τ0 k) → DN (c + 1) sz ho bo τ' → WP GM M_X9_school 41 [some (mr 0), none, some (mi (c + 1)), none] [] τ' Q) : ∀ (m : Nat) (k : Int) (τ : Mem), k + m = sz c → 0 ≤ k → (∀ k, k = 0 ∨ 5 ≤ k → τ k = τ0 k) → DN c sz ho bo τ → τ 1 c = sz c → τ 2 c = 0 → τ 3 c = ho c → (∀ j, 0 ≤ j → j < k → τ 4 (4 * c + j) = bo c j) → WP GM M_X9_school 90 [some (mr 0), none, some (mi c), some (mi k)] [] τ Q
  | 0, k, τ, hk, h0, f, D, e1, e2, e3, a => by
    apply b_X9_school_0_90
    rw [e1, jadd_eq (a := c) (by omega) (by omega)]
    refine ⟨by omega, bt (by omega) (hQ τ f (fun i i0 i1 => ?_))⟩
    by_cases q : i = c
    · rw [q]; exact ⟨e1, e2, e3, fun j j0 j1 => a j j0 (by omega)⟩
    · exact D i i0 (by omega)
  | m + 1, k, τ, hk, h0, f, D, e1, e2, e3, a => by
    have o := hO c hc.1 hc.2
    apply b_X9_school_0_90
    rw [e1]
    refine ⟨by omega, bf (by omega) ?_⟩
    rw [jmul_eq (by omega) (by omega), jmul_eq (by omega) (by omega), jadd_eq (a := 6 * c) (by omega) (by omega), jadd_eq (a := 6 * c + 2) (by omega) (by omega), jadd_eq (a := 4 * c) (by omega) (by omega), jadd_eq (a := k) (by omega) (by omega), f 11 (by decide), (hK c hc.1 hc.2).2.2 k h0 (by omega)]
    refine ⟨by omega, by omega, l_cp90 hc hN hK hO hQ m (k + 1) _ (by omega) (by omega) (fun q hq => by rw [mupd_ne _ (by omega), f q hq]) (fun i i0 i1 => ?_) (by rw [mupd_rp (by decide)]; exact e1) (by rw [mupd_rp (by decide)]; exact e2) (by rw [mupd_rp (by decide)]; exact e3) (fun j j0 j1 => ?_)⟩
    · have d := D i i0 i1
      have oi := hO i i0 (by omega)
      exact ⟨by rw [mupd_rp (by decide)]; exact d.1, by rw [mupd_rp (by decide)]; exact d.2.1, by rw [mupd_rp (by decide)]; exact d.2.2.1, fun j j0 j1 => by rw [mupd_ri (by omega)]; exact d.2.2.2 j j0 j1⟩
    · by_cases q : j = k
      · rw [q, mupd_at]
      · rw [mupd_ri (by omega)]; exact a j j0 (by omega)
theorem l_cp41 {N : Int} {sz ho : Int → Int} {bo : Int → Int → Int} {τ0 : Mem} {Q : Int → Mem → Prop} (hN : N ≤ 4) (h4 : τ0 0 4 = N) (hK : KM N sz ho bo τ0) (hO : OKC N sz ho bo) (hQ : ∀ τ', (∀ k, k = 0 ∨ 5 ≤ k → τ' k = τ0 k) → DN N sz ho bo τ' → WP GM M_X9_school 137 [some (mr 0), none, some (mi 0), none] [] τ' Q) : ∀ (m : Nat) (c : Int) (τ : Mem), c + m = N → 0 ≤ c → (∀ k, k = 0 ∨ 5 ≤ k → τ k = τ0 k) → DN c sz ho bo τ → WP GM M_X9_school 41 [some (mr 0), none, some (mi c), none] [] τ Q
  | 0, c, τ, hc, h0, f, D => by
    apply b_X9_school_0_41
    rw [f 0 (Or.inl rfl), h4]
    obtain rfl : c = N := by omega
    exact bt (by omega) (hQ τ f D)
  | m + 1, c, τ, hc, h0, f, D => by
    have o := hO c h0 (by omega)
    have k := hK c h0 (by omega)
    apply b_X9_school_0_41
    rw [f 0 (Or.inl rfl), h4, jmul_eq (by omega) (by omega), jadd_eq (by omega) (by omega), f 11 (by decide), k.1, k.2.1]
    refine bf (by omega) ⟨by omega, by omega, by omega, by omega, by omega, ?_⟩
    refine l_cp90 ⟨h0, by omega⟩ hN hK hO (fun τ' f' D' => l_cp41 hN h4 hK hO hQ m (c + 1) τ' (by omega) (by omega) f' D') (sz c).toNat 0 _ (by omega) (by omega) (fun q hq => by rw [mupd_ne _ (by omega), mupd_ne _ (by omega), mupd_ne _ (by omega), f q hq]) (fun i i0 i1 => ?_) (by rw [mupd_rp (by decide), mupd_rp (by decide), mupd_at]) (by rw [mupd_rp (by decide), mupd_at]) (by rw [mupd_at]) (fun j j0 j1 => by omega)
    have d := D i i0 i1
    exact ⟨by rw [mupd_rp (by decide), mupd_rp (by decide), mupd_ri (by omega)]; exact d.1, by rw [mupd_rp (by decide), mupd_ri (by omega), mupd_rp (by decide)]; exact d.2.1, by rw [mupd_ri (by omega), mupd_rp (by decide), mupd_rp (by decide)]; exact d.2.2.1, fun j j0 j1 => by rw [mupd_rp (by decide), mupd_rp (by decide), mupd_rp (by decide)]; exact d.2.2.2 j j0 j1⟩
theorem RR.by {σ τ : Mem} (hR : RR σ τ) : BY (τ 10) (τ 0 14) ∧ (σ 25 1 = τ 0 14 ∧ ∀ i, 0 ≤ i → i < τ 0 14 → σ 26 i = τ 10 i) :=
  ⟨⟨hR.2.2.2.1.2.1, fun i a c => (hR.2.2.2.1.2.2 i a c).2⟩, hR.2.2.2.1.1, fun i a c => (hR.2.2.2.1.2.2 i a c).1⟩
theorem TP.nil {σ τ : Mem} (h1 : σ 25 1 = 0) (h2 : τ 0 14 = 0) : TP σ τ := ⟨by rw [h1, h2], by omega, fun i a c => by omega⟩
theorem sim_school {σ τ : Mem} (hR : RR σ τ) : SIM M_X8_school M_X9_school [mr 0] σ τ RR := by
  obtain ⟨hB, b1, b2⟩ := hR.by
  have hL := hB.1
  obtain ⟨h4, e4⟩ := hR.nc
  obtain ⟨h9, e9⟩ := hR.nt
  obtain ⟨ok, F, N, sz, ho, bo, ⟨p1, p2, p3, p4⟩, hC, hM⟩ := l_school hB 3 0 0 (fun _ => 0) (fun _ => 0) (fun _ _ => 0) (by omega) (by omega) (by omega) (fun c a d => by omega)
  rcases p1 with p1 | p1
  · subst p1
    refine ⟨-20 - F, fun σ' => FS σ σ' ∧ σ' 25 1 = 0, fun τ' => (∀ k, (1 ≤ k ∧ k ≤ 10) ∨ 12 ≤ k → τ' k = τ k) ∧ (∀ j, j ≠ 14 → j ≠ 15 → j ≠ 16 → τ' 0 j = τ 0 j) ∧ τ' 0 14 = 0, ?_, ?_, ?_⟩
    · apply e_X8_school_0; apply e_X2_readSchool_27_25
      refine hC _ _ ⟨by rw [mupd_rp (by decide), mupd_ri (by decide)]; exact b1, by rw [mupd_rp (by decide), mupd_at], by omega, fun i a c => by rw [mupd_rp (by decide), mupd_rp (by decide)]; exact b2 i a c⟩ ⟨by rw [mupd_at], fun c a d => by omega⟩ (fun σ' a c e => ?_)
      rw [if_neg (by decide)]
      apply e_X5_clear_25
      refine ⟨fun z => absurd z (by omega), fun _ => ⟨rfl, ?_, by rw [mupd_at]⟩⟩
      intro k hk
      rw [mupd_ne _ (by omega), c k hk, mupd_ne _ (by omega), mupd_ne _ (by omega)]
    · apply e_X9_school_0; apply e_X9_readSchool_0
      refine hM _ _ ⟨by rw [mupd_ri (by decide)], by rw [mupd_at], by omega, fun i a c => by rw [mupd_rp (by decide)]⟩ (fun c a d => by omega) (fun τ' q t f g1 g2 => bn0 ?_)
      have gq := g1 rfl
      refine m_next hB t (fun _ => ?_) (fun _ => ?_)
      all_goals
        apply b_X9_school_0_14
        refine ⟨fun z => absurd rfl z, fun _ => ?_⟩
        rw [mupd_at, gq, jsub_eq (by omega) (by omega)]
        refine ⟨rfl, fun k hk => ?_, fun j j1 j2 j3 => ?_, by rw [mupd_at]⟩
        · rw [mupd_ne _ (by omega), mupd_ne _ (by omega), f.1 k hk, mupd_ne _ (by omega)]
        · rw [mupd_ri j1, mupd_ri j2, f.2 j j2 j3, mupd_ri j2]
    · rintro σ' τ' - - ⟨s1, s2⟩ ⟨t1, t2, t3⟩
      exact hR.tape (fun k a => s1 k (by omega)) (fun k a c => s1 k (by omega)) (fun k a => t1 k (by omega)) (fun j a => t2 j (by omega) (by omega) (by omega)) (TP.nil s2 t3)
  · subst p1
    refine ⟨N, fun σ' => (∀ k, k = 0 ∨ k = 1 ∨ k = 2 ∨ k = 8 ∨ k = 9 ∨ k = 11 ∨ k = 12 ∨ (13 ≤ k ∧ k ≤ 24) ∨ 33 ≤ k → σ' k = σ k) ∧ σ' 25 1 = 0 ∧ σ' 3 0 = N ∧ (∀ c, 0 ≤ c → c < N → σ' 5 c = sz c ∧ σ' 6 c = 0 ∧ σ' 7 c = ho c ∧ ∀ k, 0 ≤ k → k < sz c → σ' 4 (4 * c + k) = bo c k) ∧ (∀ t, 0 ≤ t → t < τ 0 9 → σ' 10 t = lv (σ 10 t)), fun τ' => (∀ k, k = 5 ∨ k = 7 ∨ k = 8 ∨ k = 9 ∨ 12 ≤ k → τ' k = τ k) ∧ (∀ j, j ≠ 4 → j ≠ 14 → j ≠ 15 → j ≠ 16 → τ' 0 j = τ 0 j) ∧ τ' 0 14 = 0 ∧ τ' 0 4 = N ∧ DN N sz ho bo τ' ∧ (∀ t, 0 ≤ t → t < τ 0 9 → τ' 6 t = lv (τ 6 t)), ?_, ?_, ?_⟩
    · apply e_X8_school_0; apply e_X2_readSchool_27_25
      refine hC _ _ ⟨by rw [mupd_rp (by decide), mupd_ri (by decide)]; exact b1, by rw [mupd_rp (by decide), mupd_at], by omega, fun i a c => by rw [mupd_rp (by decide), mupd_rp (by decide)]; exact b2 i a c⟩ ⟨by rw [mupd_at], fun c a d => by omega⟩ (fun σ' a c e => ?_)
      have hK := e rfl
      rw [if_pos rfl]
      apply e_X5_clear_25
      refine bt rfl ?_
      apply e_X0_become_3_28
      generalize hσ2 : mcpy (mcpy (mcpy (mcpy (mupd (mupd σ' 25 1 0) 3 0 ((mupd σ' 25 1 0) 28 0)) 29 0 4 0 16) 30 0 5 0 4) 31 0 6 0 4) 32 0 7 0 4 = σ2
      have f2 : ∀ k, k ≠ 25 → k ≠ 3 → k ≠ 4 → k ≠ 5 → k ≠ 6 → k ≠ 7 → σ2 k = σ' k := fun k k1 k2 k3 k4 k5 k6 => by rw [← hσ2, mcpy_ne _ (by omega), mcpy_ne _ (by omega), mcpy_ne _ (by omega), mcpy_ne _ (by omega), mupd_ne _ (by omega), mupd_ne _ (by omega)]
      have f25 : σ2 25 1 = 0 := by rw [← hσ2]; simp (config := { decide := true }) [mupd, mcpy]
      have f3 : σ2 3 0 = N := by rw [← hσ2, ← hK.1]; simp (config := { decide := true }) [mupd, mcpy]
      have f4 : ∀ i, 0 ≤ i → i < 16 → σ2 4 i = σ' 29 i := fun i i0 i1 => by rw [← hσ2]; simp (config := { decide := true }) [mupd, mcpy]; omega
      have f5 : ∀ i, 0 ≤ i → i < 4 → σ2 5 i = σ' 30 i ∧ σ2 6 i = σ' 31 i ∧ σ2 7 i = σ' 32 i := fun i i0 i1 => by rw [← hσ2]; simp (config := { decide := true }) [mupd, mcpy]; omega
      have c8 : ∀ k, k = 8 ∨ k = 10 → σ' k = σ k := fun k hk => by rw [c k (by omega), mupd_ne _ (by omega), mupd_ne _ (by omega)]
      have f8 : σ2 8 0 = τ 0 9 := by rw [f2 8 (by decide) (by decide) (by decide) (by decide) (by decide) (by decide), c8 8 (by decide), e9]
      apply e_X6_leaveCoats_8
      refine c_leave (σ0 := σ2) (by omega) (fun σ3 g1 g2 => ?_) (τ 0 9).toNat 0 σ2 (by omega) (by omega) (fun _ _ => rfl) (fun t a d => by omega) (fun _ _ => rfl)
      refine ⟨by rw [g1 3 (by decide), f3], fun k hk => ?_, by rw [g1 25 (by decide), f25], by rw [g1 3 (by decide), f3], fun q q0 q1 => ?_, fun t t0 t1 => ?_⟩
      · rw [g1 k (by omega), f2 k (by omega) (by omega) (by omega) (by omega) (by omega) (by omega), c k (by omega), mupd_ne _ (by omega), mupd_ne _ (by omega)]
      · have kk := hK.2 q q0 q1
        have oo := (p4 q q0 q1).1
        have ff := f5 q q0 (by omega)
        rw [g1 5 (by decide), g1 6 (by decide), g1 7 (by decide), g1 4 (by decide), ff.1, ff.2.1, ff.2.2]
        exact ⟨kk.1, kk.2.1, kk.2.2.1, fun k k0 k1 => by rw [f4 _ (by omega) (by omega)]; exact kk.2.2.2 k k0 k1⟩
      · rw [g2 t t0 (by omega), f2 10 (by decide) (by decide) (by decide) (by decide) (by decide) (by decide), c8 10 (by decide)]
    · apply e_X9_school_0; apply e_X9_readSchool_0
      refine hM _ _ ⟨by rw [mupd_ri (by decide)], by rw [mupd_at], by omega, fun i a c => by rw [mupd_rp (by decide)]⟩ (fun c a d => by omega) (fun τ1 q t f g1 g2 => bn1 ?_)
      obtain ⟨g3, hK⟩ := g2 rfl
      apply b_X9_school_0_14
      refine nt (by decide) ?_
      rw [g3]
      have z9 : τ1 0 9 = τ 0 9 := by rw [f.2 9 (by decide) (by decide), mupd_ri (by decide)]
      have z6 : τ1 6 = τ 6 := by rw [f.1 6 (by decide), mupd_ne _ (by decide)]
      refine l_cp41 (N := N) (τ0 := mupd (mupd τ1 0 14 0) 0 4 N) p3.2 (by rw [mupd_at]) (hK.fr (by rw [mupd_ne _ (by decide), mupd_ne _ (by decide)])) p4 (fun τ2 f2 D2 => ?_) N.toNat 0 _ (by omega) (by omega) (fun _ _ => rfl) (fun i a c => by omega)
      have y9 : τ2 0 9 = τ 0 9 := by rw [f2 0 (Or.inl rfl), mupd_ri (by decide), mupd_ri (by decide), z9]
      have y6 : τ2 6 = τ 6 := by rw [f2 6 (by decide), mupd_ne _ (by decide), mupd_ne _ (by decide), z6]
      have y4 : τ2 0 4 = N := by rw [f2 0 (Or.inl rfl), mupd_at]
      refine m_leave (N := N) p3 (by omega) (fun t t0 t1 => ?_) (fun τ3 f3 a3 => ?_) (τ 0 9).toNat 0 τ2 (by omega) (by omega) (fun _ _ => rfl) (fun t a c => by omega) (fun _ _ => rfl)
      · have hh := (hR.th (t := t) ⟨t0, by omega⟩).1.2.1
        rw [y6]
        unfold PLC at hh
        omega
      · refine ⟨y4, fun k hk => ?_, fun j j1 j2 j3 j4 => ?_, ?_, by rw [f3 0 (by decide), y4], ?_, fun t t0 t1 => ?_⟩
        · rw [f3 k (by omega), f2 k (by omega), mupd_ne _ (by omega), mupd_ne _ (by omega), f.1 k (by omega), mupd_ne _ (by omega)]
        · rw [f3 0 (by decide), f2 0 (Or.inl rfl), mupd_ri j1, mupd_ri j2, f.2 j j3 j4, mupd_ri j3]
        · rw [f3 0 (by decide), f2 0 (Or.inl rfl), mupd_ri (by decide), mupd_at]
        · unfold DN at *
          rw [f3 1 (by decide), f3 2 (by decide), f3 3 (by decide), f3 4 (by decide)]
          exact D2
        · rw [a3 t t0 (by omega), y6]
    · rintro σ' τ' - - ⟨s1, s25, s3, sc, st⟩ ⟨t1, t0, t14, t4, tc, tt⟩
      refine hR.gen (fun k hk => s1 k (by omega)) (fun k hk => t1 k (by omega)) (fun j hj => t0 j (by omega) (by omega) (by omega) (by omega)) (by rw [s1 8 (by omega)]) (by omega) (by rw [s3, t4]) (fun c c0 c1 => ?_) (fun t q0 q1 => ?_) (TP.nil s25 t14)
      · have d := tc c c0 (by omega)
        have s := sc c c0 (by omega)
        have o := p4 c c0 (by omega)
        unfold CO EQC
        rw [d.1, d.2.1, d.2.2.1, s.1, s.2.1, s.2.2.1]
        exact ⟨⟨o.1, by omega, o.2.1, fun k a e => by rw [d.2.2.2 k a e]; exact o.2.2.1 k a e, fun j k a e g => by rw [d.2.2.2 j a (by omega), d.2.2.2 k (by omega) g]; exact o.2.2.2 j k a e g⟩, rfl, rfl, rfl, fun k a e => by rw [d.2.2.2 k a e, s.2.2.2 k a e]⟩
      · have hT := hR.th (t := t) ⟨q0, q1⟩
        have h1 := hT.1
        have h2 := hT.2
        unfold TH EQT at *
        rw [s1 9 (by omega), s1 11 (by omega), s1 12 (by omega), t1 5 (by omega), t1 7 (by omega), t1 8 (by omega), st t q0 q1, tt t q0 q1, t4, h2.2.1]
        exact ⟨⟨h1.1, lv_pl h4.2 p3.1 h1.2.1, h1.2.2⟩, h2.1, rfl, h2.2.2.1, h2.2.2.2⟩
