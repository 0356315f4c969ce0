/-! payments in step -/
theorem pw_all : ∀ c : Nat, c < 9 → jshl 1 c = ((2 ^ c : Nat) : Int) ∧ (1 ≤ jshl 1 c ∧ jshl 1 c ≤ 256) ∧ ∀ j : Nat, j < 8 → (tb (jshl 1 c - 1) j = true ↔ j < c) := by decide +kernel
theorem bit_lt {c : Nat} (hc : c < 9) {s : Int} (hs : 0 ≤ s ∧ s < jshl 1 c) {j : Nat} (h : tb s j = true) : j < c := by
  rw [(pw_all c hc).1] at hs
  refine Classical.byContradiction (fun q => ?_)
  rw [tb_high (p := c) hs (by omega)] at h
  exact absurd h (by decide)
theorem bit_ex {c : Nat} (hc : c < 9) {s : Int} (hs : 0 < s ∧ s < jshl 1 c) : ∃ j : Nat, j < c ∧ tb s j = true := by
  have h2 := (pw_all c hc).2.1
  refine Classical.byContradiction (fun q => ?_)
  have : s = 0 := tb_ext8 (by omega) (by omega) (fun j _ => ⟨fun y => absurd ⟨j, bit_lt hc ⟨by omega, hs.2⟩ y, y⟩ q, fun y => by rw [tb_0] at y; exact absurd y (by decide)⟩)
  omega
def FP (σ σ' : Mem) : Prop := ∀ q, q ≠ 42 → q ≠ 43 → q ≠ 44 → σ' q = σ q
theorem FP.tr {a b c : Mem} (h : FP a b) (g : FP b c) : FP a c := fun q a1 a2 a3 => by rw [g q a1 a2 a3, h q a1 a2 a3]
theorem c_most {C : Nat} {v : Nat → Int} {σ0 : Mem} {Q : Int → Mem → Prop} (hC : C ≤ 8) (hv : ∀ j : Nat, j < C → σ0 42 j = v j) (hb : ∀ j : Nat, j < C → -8000 ≤ v j ∧ v j ≤ 8000) (hQ : ∀ σ', FP σ0 σ' → Q (MO v C (jshl 1 C - 1)) σ') : HT GC M_X1_mostSets [mr 40, mi (C : Int)] σ0 Q := by
  obtain ⟨w1, w2, w3⟩ := pw_all C (by omega)
  have outer : ∀ (m : Nat) (s : Int) (σ : Mem), s + m = jshl 1 C → 1 ≤ s → (∀ q, q ≠ 43 → q ≠ 44 → σ q = σ0 q) → (∀ t, 0 ≤ t → t < s → σ 43 t = sumP v t C ∧ σ 44 t = MO v C t) → WP GC M_X1_mostSets 16 [some (mr 40), some (mi (C : Int)), some (mi s), none, none] [] σ Q := by
    intro m
    induction m with
    | zero =>
      intro s σ hs h1 f a
      apply b_X1_mostSets_40_16
      rw [jsub_eq (by omega) (by omega), (a (jshl 1 C - 1) (by omega) (by omega)).2]
      exact bt (by omega) ⟨by omega, hQ σ (fun q _ a1 a2 => f q a1 a2)⟩
    | succ m ih =>
      intro s σ hs h1 f a
      have hs2 : 0 ≤ s ∧ s < 256 := by omega
      have inner : ∀ (k j : Nat) (σ1 : Mem), j + k = C → (∀ q, q ≠ 43 → q ≠ 44 → σ1 q = σ0 q) → (∀ t, 0 ≤ t → t < s → σ1 43 t = sumP v t C ∧ σ1 44 t = MO v C t) → ((∃ i : Nat, i < j ∧ tb s i = true) → σ1 43 s = sumP v s C) → WP GC M_X1_mostSets 28 [some (mr 40), some (mi (C : Int)), some (mi s), some (mi (mxP (MO v C) s j)), some (mi (j : Int))] [] σ1 Q := by
        intro k
        induction k with
        | zero =>
          intro j σ1 hj f1 a1 e1
          obtain rfl : j = C := by omega
          have hsum := e1 (bit_ex (by omega) ⟨by omega, by omega⟩)
          have hmo := MO_s (v := v) hC (s := s) ⟨by omega, by omega⟩
          have hin := mxP_in (f := MO v j) (s := s) (by omega) j (fun i hi ht => by
            have r := (rm_in hs2 (by omega) ht).1
            have := MO_in (v := v) hC _ (rmI s i) rfl (by omega)
            omega)
          have nx : ∀ y, y = MO v j s → WP GC M_X1_mostSets 111 [some (mr 40), some (mi (j : Int)), some (mi s), none, none] [mi y, mi s, mr 44] σ1 Q := by
            intro y hy
            apply b_X1_mostSets_40_111
            rw [jadd_eq (by omega) (by omega)]
            refine ⟨hs2, ih (s + 1) _ (by omega) (by omega) (fun q q1 q2 => by rw [mupd_ne _ q2, f1 q q1 q2]) (fun t t0 t1 => ?_)⟩
            rw [mupd_rp (by decide), mupd_ap]
            by_cases e : t = s
            · rw [if_pos e, e, hy]; exact ⟨hsum, rfl⟩
            · rw [if_neg e]; exact a1 t t0 (by omega)
          apply b_X1_mostSets_40_28
          rw [hsum]
          refine bt (Int.le_refl _) ⟨hs2, fun y => nx _ ?_, fun y => nx _ ?_⟩
          · rw [hmo, if_neg y]; omega
          · rw [hmo, if_pos y, jadd_eq (by omega) (by omega)]
        | succ k ihk =>
          intro j σ1 hj f1 a1 e1
          apply b_X1_mostSets_40_28
          rw [bit_test ⟨hs2.1, by omega⟩ (by omega)]
          refine bf (by omega) ?_
          by_cases q : tb s j = true
          · rw [if_pos q]
            obtain ⟨r1, r2⟩ := rm_in hs2 (by omega) q
            have aj := a1 (rmI s j) r1.1 r1.2
            have sr := sum_rm (v := v) hs2 (by omega) q C (by omega) hC
            have sb1 := sumP_in (v := v) (s := rmI s j) C hb
            have vb := hb j (by omega)
            rw [r2, aj.1, aj.2, f1 42 (by decide) (by decide), hv j (by omega), jadd_eq (by omega) (by omega)]
            refine bf (by decide) ⟨by omega, by omega, by omega, by omega, ?_⟩
            apply b_X1_mostSets_40_84
            rw [jadd_eq (by omega) (by omega)]
            have h := ihk (j + 1) (mupd σ1 43 s (sumP v (rmI s j) C + v j)) (by omega) (fun q q1 q2 => by rw [mupd_ne _ q1, f1 q q1 q2]) (fun t t0 t1 => by rw [mupd_ri (by omega), mupd_rp (by decide)]; exact a1 t t0 t1) (fun _ => by rw [mupd_at]; exact sr)
            simp only [mxP] at h
            rw [if_pos q] at h
            exact h
          · rw [if_neg q]
            refine bt rfl ?_
            apply b_X1_mostSets_40_84
            rw [jadd_eq (by omega) (by omega)]
            have hx : (∃ i : Nat, i < j + 1 ∧ tb s i = true) → σ1 43 s = sumP v s C := by
              rintro ⟨i, i1, i2⟩
              refine e1 ⟨i, ?_, i2⟩
              by_cases e : i = j
              · subst e; exact absurd i2 q
              · omega
            have h := ihk (j + 1) σ1 (by omega) f1 a1 hx
            simp only [mxP] at h
            rw [if_neg q] at h
            exact h
      apply b_X1_mostSets_40_16
      exact bf (by omega) (inner C 0 σ (by omega) f a (fun ⟨i, i1, _⟩ => by omega))
  apply e_X1_mostSets_40
  have ss : ∀ m : Nat, sumP v 0 m = 0 := by
    intro m
    induction m with
    | zero => rfl
    | succ m ih => simp only [sumP]; rw [if_neg (by rw [tb_0]; decide)]; exact ih
  refine outer (jshl 1 C - 1).toNat 1 _ (by omega) (by omega) (fun q q1 q2 => by rw [mupd_ne _ q2, mupd_ne _ q1]) (fun t t0 t1 => ?_)
  obtain rfl : t = 0 := by omega
  rw [mupd_rp (by decide), mupd_at, mupd_at, ss]
  exact ⟨rfl, rfl⟩
theorem c_few {B : Nat → Int} {σ0 : Mem} {Q : Int → Mem → Prop} (ho : ∀ i, 0 ≤ i → i < 64 → 0 ≤ σ0 2 i ∧ σ0 2 i ≤ 999) (hB : ∀ b : Nat, b < 8 → B b = balN (σ0 2) b 8) (hQ : ∀ (v : Nat → Int) σ', FP σ0 σ' → (∀ b, b < 8 → ¬ B b = 0 → v (rk B b) = B b) → Q ((rk B 8 : Int) - MO v (rk B 8) (jshl 1 (rk B 8) - 1)) σ') : HT GC M_X1_fewest [mr 40, mr 1] σ0 Q := by
  have hbb : ∀ b : Nat, b < 8 → -8000 ≤ B b ∧ B b ≤ 8000 := fun b hb => by
    have := balN_in ho (b := (b : Int)) (by omega) 8 (by omega)
    rw [← hB b hb] at this
    omega
  have key : ∀ (m b : Nat) (σ : Mem), b + m = 8 → (∀ q, q ≠ 42 → σ q = σ0 q) → (∀ c, c < b → ¬ B c = 0 → σ 42 (rk B c) = B c) → WP GC M_X1_fewest 4 [some (mr 40), some (mr 1), some (mi (rk B b : Int)), some (mi (b : Int)), none] [] σ Q := by
    intro m
    induction m with
    | zero =>
      intro b σ hb f a
      obtain rfl : b = 8 := by omega
      have h8 := rk_le B 8
      apply b_X1_fewest_40_1_4
      generalize hCe : rk B 8 = C at *
      obtain ⟨w1, w2, w3⟩ := pw_all C (by omega)
      have hvB : ∀ j : Nat, j < C → -8000 ≤ σ 42 j ∧ σ 42 j ≤ 8000 := fun j hj => by
        obtain ⟨c, c1, c2, c3⟩ := rk_sur B 8 j (by rw [hCe]; exact hj)
        have := a c c1 c2
        rw [c3] at this
        rw [this]; exact hbb c c1
      refine bt (by omega) (c_most (v := fun j => σ 42 j) h8 (fun j _ => rfl) hvB (fun σ' f' => ?_))
      have hin := MO_in (v := fun j : Nat => σ 42 j) (n := C) h8 _ (jshl 1 C - 1) rfl (by omega)
      rw [jsub_eq (by omega) (by omega)]
      exact hQ _ σ' (fun q a1 a2 a3 => by rw [f' q a1 a2 a3, f q a1]) a
    | succ m ih =>
      intro b σ hb f a
      have hr := rk_le B b
      have e2 : σ 2 = σ0 2 := f 2 (by decide)
      apply b_X1_fewest_40_1_4
      refine bf (by omega) (c_balC (by rw [e2]; exact ho) (by omega) ?_)
      rw [e2, ← hB b (by omega)]
      refine ⟨fun y => ?_, fun y => ⟨by omega, ?_⟩⟩
      · apply b_X1_fewest_40_1_33
        rw [jadd_eq (by omega) (by omega)]
        have hx : ∀ c, c < b + 1 → ¬ B c = 0 → σ 42 (rk B c) = B c := by
          intro c hc hn
          refine a c ?_ hn
          by_cases e : c = b
          · subst e; exact absurd y hn
          · omega
        have h := ih (b + 1) σ (by omega) f hx
        simp only [rk] at h
        rw [if_pos y] at h
        exact h
      · apply b_X1_fewest_40_1_33
        rw [jadd_eq (a := (b : Int)) (by omega) (by omega), jadd_eq (by omega) (by omega)]
        have h := ih (b + 1) (mupd σ 42 (rk B b) (B b)) (by omega) (fun q hq => by rw [mupd_ne _ hq, f q hq]) (fun c hc hn => by
          by_cases e : c = b
          · rw [e, mupd_at]
          · have := rk_mono B hn b (by omega)
            rw [mupd_ri (by omega)]; exact a c (by omega) hn)
        simp only [rk] at h
        rw [if_neg y] at h
        exact h
  apply e_X1_fewest_40_1
  exact key 8 0 σ0 (by omega) (fun _ _ => rfl) (fun c hc => by omega)
/-- the reference's boys that are not even -/
def mk (B : Nat → Int) : Nat → Int
  | 0 => 0
  | b + 1 => jor (mk B b) (if B b = 0 then 0 else jshl 1 b)
theorem mk_in (B : Nat → Int) : ∀ b : Nat, b ≤ 8 → (0 ≤ mk B b ∧ mk B b < 256) ∧ (∀ j : Nat, (tb (mk B b) j = true ↔ j < b ∧ ¬ B j = 0)) ∧ pcI (mk B b) = rk B b
  | 0, _ => ⟨by simp [mk], fun j => by simp only [mk, tb_0]; exact ⟨fun y => absurd y (by decide), fun y => by omega⟩, by simp only [mk, rk]; decide⟩
  | b + 1, h => by
    obtain ⟨i1, i2, i3⟩ := mk_in B b (by omega)
    have hs := shl1_256 (k := (b : Int)) (by omega)
    simp only [mk, rk]
    by_cases q : B b = 0
    · rw [if_pos q, if_pos q, jor_0 ⟨by omega, by omega⟩]
      refine ⟨i1, fun j => ?_, i3⟩
      rw [i2 j]
      constructor
      · rintro ⟨a, c⟩; exact ⟨by omega, c⟩
      · rintro ⟨a, c⟩
        by_cases e : j = b
        · subst e; exact absurd q c
        · exact ⟨by omega, c⟩
    · rw [if_neg q, if_neg q]
      refine ⟨jor_256 i1 hs, fun j => ?_, ?_⟩
      · rw [tb_or ⟨i1.1, by omega⟩ ⟨hs.1, by omega⟩, tb_shl1 (by omega) (by omega), Bool.or_eq_true, i2 j, decide_eq_true_eq]
        constructor
        · rintro (⟨a, c⟩ | y)
          · exact ⟨by omega, c⟩
          · obtain rfl : b = j := by omega
            exact ⟨by omega, q⟩
        · rintro ⟨a, c⟩
          by_cases e : j = b
          · exact Or.inr (by omega)
          · exact Or.inl ⟨by omega, c⟩
      · obtain ⟨n, hn⟩ := nn_of i1.1
        have ad := add_all n (by omega) b (by omega)
        rw [← hn] at ad
        rw [ad, if_neg (fun y => by have := (i2 b).mp y; omega), i3]
        omega
def FPm (τ τ' : Mem) : Prop := ∀ q, q ≠ 15 → q ≠ 16 → τ' q = τ q
theorem m_pay {B : Nat → Int} {τ0 : Mem} {Q : Int → Mem → Prop} (ho : ∀ i, 0 ≤ i → i < 64 → 0 ≤ τ0 9 i ∧ τ0 9 i ≤ 999) (hB : ∀ b : Nat, b < 8 → B b = balN (τ0 9) b 8) (hQ : ∀ τ', FPm τ0 τ' → Q (if mk B 8 = 0 then 0 else (rk B 8 : Int) - MO B 8 (mk B 8)) τ') : HT GM M_X9_payments [mr 0] τ0 Q := by
  have hbb : ∀ b : Nat, b < 8 → -8000 ≤ B b ∧ B b ≤ 8000 := fun b hb => by
    have := balN_in ho (b := (b : Int)) (by omega) 8 (by omega)
    rw [← hB b hb] at this
    omega
  obtain ⟨k1, k2, k3⟩ := mk_in B 8 (by omega)
  have outer : ∀ (m : Nat) (s : Int) (τ : Mem), s + m = 256 → 0 ≤ s → FPm τ0 τ → (∀ t, 0 ≤ t → t < s → τ 16 t = MO B 8 t) → WP GM M_X9_payments 36 [some (mr 0), some (mi (mk B 8)), some (mi s), none, none] [] τ Q := by
    intro m
    induction m with
    | zero =>
      intro s τ hs h1 f a
      apply b_X9_payments_0_36
      refine bt (by omega) ⟨fun y => ?_, fun y => ?_⟩
      · have h := hQ τ f
        rw [if_neg y] at h
        apply e_X9_ones
        have hr := rk_le B 8
        have hin := MO_in (v := B) (n := 8) (by omega) _ (mk B 8) rfl k1
        refine c_ones 8 _ 0 k1 (by rw [k3]; omega) (by omega) ?_
        rw [Int.zero_add, k3, a _ k1.1 (by omega), jsub_eq (by omega) (by omega)]
        exact ⟨k1, h⟩
      · have h := hQ τ f
        rw [if_pos y] at h
        exact h
    | succ m ih =>
      intro s τ hs h1 f a
      have hs2 : 0 ≤ s ∧ s < 256 := by omega
      have inner : ∀ (k j : Nat) (τ1 : Mem), j + k = 8 → FPm τ0 τ1 → (∀ t, 0 ≤ t → t < s → τ1 16 t = MO B 8 t) → τ1 15 s = sumP B s j → τ1 16 s = mxP (MO B 8) s j → WP GM M_X9_payments 59 [some (mr 0), some (mi (mk B 8)), some (mi s), some (mi (j : Int)), none] [] τ1 Q := by
        intro k
        induction k with
        | zero =>
          intro j τ1 hj f1 a1 e1 e2
          obtain rfl : j = 8 := by omega
          have nx : ∀ y, jadd (mxP (MO B 8) s 8) y = MO B 8 s → WP GM M_X9_payments 160 [some (mr 0), some (mi (mk B 8)), some (mi s), none, none] [mi y, mi (mxP (MO B 8) s 8), mi s, mr 16] τ1 Q := by
            intro y hy
            apply b_X9_payments_0_160
            rw [jadd_eq (a := s) (by omega) (by omega), hy]
            refine ⟨hs2, ih (s + 1) _ (by omega) (by omega) (fun q q1 q2 => by rw [mupd_ne _ q2, f1 q q1 q2]) (fun t t0 t1 => ?_)⟩
            rw [mupd_ap]
            by_cases e : t = s
            · rw [if_pos e, e]
            · rw [if_neg e]; exact a1 t t0 (by omega)
          apply b_X9_payments_0_59
          rw [e1, e2]
          refine bt (by omega) ⟨hs2, fun y => ?_, fun y => ⟨hs2, ?_⟩⟩
          · apply b_X9_payments_0_159
            refine nx 0 ?_
            rw [y]
            have z0 : ∀ m : Nat, mxP (MO B 8) 0 m = 0 := by
              intro m
              induction m with
              | zero => rfl
              | succ m ih => simp only [mxP]; rw [if_neg (by rw [tb_0]; decide)]; exact ih
            rw [z0, MO_0]; decide
          · have hmo := MO_s (v := B) (n := 8) (by omega) (s := s) ⟨by omega, by omega⟩
            have hin := mxP_in (f := MO B 8) (s := s) (by omega) 8 (fun i hi ht => by
              have r := (rm_in hs2 (by omega) ht).1
              have := MO_in (v := B) (n := 8) (by omega) _ (rmI s i) rfl (by omega)
              omega)
            refine ⟨fun z => ?_, fun z => ?_⟩
            · apply b_X9_payments_0_159
              refine nx 0 ?_
              rw [hmo, if_neg z, jadd_eq (by omega) (by omega)]
            · refine nx 1 ?_
              rw [hmo, if_pos z, jadd_eq (by omega) (by omega)]
        | succ k ihk =>
          intro j τ1 hj f1 a1 e1 e2
          apply b_X9_payments_0_59
          refine bf (by omega) (m_has ⟨hs2.1, by omega⟩ (by omega) (fun q => br1 ⟨hs2, ?_⟩) (fun q => br0 ?_))
          · have e9 : τ1 9 = τ0 9 := f1 9 (by decide) (by decide)
            refine c_balM (by rw [e9]; exact ho) (by omega) ?_
            obtain ⟨r1, r2⟩ := rm_in hs2 (by omega) q
            have sb := sumP_in (v := B) (s := s) j (fun i hi => hbb i (by omega))
            have vb := hbb j (by omega)
            rw [e9, ← hB j (by omega), e1, e2]
            show (0 ≤ s ∧ s < 256) ∧ ((0 ≤ rmI s j ∧ rmI s j < 256) ∧ ((0 ≤ s ∧ s < 256) ∧ ((τ1 16 (rmI s j) ≤ mxP (MO B 8) s j → _) ∧ (¬ τ1 16 (rmI s j) ≤ mxP (MO B 8) s j → _))))
            rw [a1 (rmI s j) r1.1 r1.2, jadd_eq (by omega) (by omega)]
            have nx : ∀ y, y = mxP (MO B 8) s (j + 1) → WP GM M_X9_payments 128 [some (mr 0), some (mi (mk B 8)), some (mi s), some (mi (j : Int)), none] [mi y, mi s, mr 16] (mupd τ1 15 s (sumP B s j + B j)) Q := by
              intro y hy
              apply b_X9_payments_0_128
              refine ⟨hs2, ?_⟩
              apply b_X9_payments_0_129
              rw [jadd_eq (by omega) (by omega)]
              refine ihk (j + 1) _ (by omega) (fun q q1 q2 => by rw [mupd_ne _ q2, mupd_ne _ q1, f1 q q1 q2]) (fun t t0 t1 => by rw [mupd_ri (by omega), mupd_rp (by decide)]; exact a1 t t0 t1) ?_ (by rw [mupd_at, hy])
              rw [mupd_rp (by decide), mupd_at]
              simp only [sumP]
              rw [if_pos q]
            refine ⟨hs2, by omega, hs2, fun y => ⟨hs2, nx _ ?_⟩, fun y => nx _ ?_⟩
            · simp only [mxP]
              rw [if_pos q, jmax_eq]
              split <;> omega
            · show τ1 16 (rmI s j) = _
              rw [a1 (rmI s j) r1.1 r1.2]
              simp only [mxP]
              rw [if_pos q, jmax_eq]
              split <;> omega
          · apply b_X9_payments_0_129
            rw [jadd_eq (by omega) (by omega)]
            refine ihk (j + 1) τ1 (by omega) f1 a1 ?_ ?_
            · simp only [sumP]; rw [if_neg q]; exact e1
            · simp only [mxP]; rw [if_neg q]; exact e2
      apply b_X9_payments_0_36
      refine bf (by omega) ⟨hs2, hs2, inner 8 0 _ (by omega) (fun q q1 q2 => by rw [mupd_ne _ q2, mupd_ne _ q1, f q q1 q2]) (fun t t0 t1 => by rw [mupd_ri (by omega), mupd_rp (by decide)]; exact a t t0 t1) (by rw [mupd_rp (by decide), mupd_at]; rfl) (by rw [mupd_at]; rfl)⟩
  have first : ∀ (m b : Nat), b + m = 8 → WP GM M_X9_payments 4 [some (mr 0), some (mi (mk B b)), some (mi (b : Int)), none, none] [] τ0 Q := by
    intro m
    induction m with
    | zero =>
      intro b hb
      obtain rfl : b = 8 := by omega
      apply b_X9_payments_0_4
      exact bt (by omega) (outer 256 0 τ0 (by omega) (by omega) (fun _ _ _ => rfl) (fun t t0 t1 => by omega))
    | succ m ih =>
      intro b hb
      have h := ih (b + 1) (by omega)
      simp only [mk] at h
      apply b_X9_payments_0_4
      refine bf (by omega) (c_balM ho (by omega) ?_)
      rw [← hB b (by omega)]
      refine ⟨fun y => ?_, fun y => ?_⟩
      · apply b_X9_payments_0_26
        rw [jadd_eq (by omega) (by omega)]
        rw [if_pos y] at h; exact h
      · apply b_X9_payments_0_26
        rw [jadd_eq (by omega) (by omega)]
        rw [if_neg y] at h; exact h
  apply e_X9_payments_0
  exact first 8 0 (by omega)
theorem sim_payments {σ τ : Mem} (hR : RR σ τ) : SIM M_X8_payments M_X9_payments [mr 0] σ τ RR := by
  obtain ⟨ho, he⟩ := hR.owed
  have ho2 := hR.1.2.2.2.2.1
  obtain ⟨B, hBd⟩ : ∃ B : Nat → Int, B = fun b : Nat => balN (τ 9) (b : Int) 8 := ⟨_, rfl⟩
  have hB2 : ∀ b : Nat, b < 8 → B b = balN (τ 9) b 8 := fun b _ => by rw [hBd]
  have hB1 : ∀ b : Nat, b < 8 → B b = balN (σ 2) b 8 := fun b hb => by rw [hB2 b hb]; exact (balN_congr he (by omega) 8 (by omega)).symm
  obtain ⟨k1, k2, k3⟩ := mk_in B 8 (by omega)
  have h8 := rk_le B 8
  refine ⟨if mk B 8 = 0 then 0 else (rk B 8 : Int) - MO B 8 (mk B 8), FP σ, FPm τ, ?_, m_pay ho2 hB2 (fun τ' f => ⟨rfl, f⟩), fun σ' τ' _ _ f g => hR.fr (fun k a b => f k (by omega) (by omega) (by omega)) (fun k a b => f k (by omega) (by omega) (by omega)) (by rw [f 0 (by decide) (by decide) (by decide)]) (by rw [f 25 (by decide) (by decide) (by decide)]) (f 26 (by decide) (by decide) (by decide)) (fun k a b => g k (by omega) (by omega)) (fun k a b => g k (by omega) (by omega)) (fun j _ => by rw [g 0 (by decide) (by decide)])⟩
  apply e_X8_payments_0
  refine c_few ho hB1 (fun v σ' f hv => ⟨?_, f⟩)
  obtain ⟨C, hC⟩ : ∃ C, rk B 8 = C := ⟨_, rfl⟩
  rw [hC] at k3 h8 ⊢
  obtain ⟨w1, w2, w3⟩ := pw_all C (by omega)
  have hem := MO_em B v hC hv _ (jshl 1 C - 1) rfl (by omega) (fun j hj => bit_lt (by omega) (by omega) hj)
  have hE := Em_in B (jshl 1 C - 1) 8 (by omega)
  have hmk : Em B (jshl 1 C - 1) 8 = mk B 8 := by
    refine tb_ext8 hE.1 k1 (fun j hj => ?_)
    rw [hE.2 j, k2 j]
    constructor
    · rintro ⟨a1, a2, _⟩; exact ⟨a1, a2⟩
    · rintro ⟨a1, a2⟩
      have hr := rk_mono B a2 8 hj
      rw [hC] at hr
      have hl := rk_le B j
      exact ⟨a1, a2, (w3 _ (by omega)).mpr hr⟩
  rw [hmk] at hem
  rw [← hem]
  by_cases q : mk B 8 = 0
  · rw [if_pos q, q, MO_0]
    rw [q, show pcI 0 = 0 from by decide] at k3
    omega
  · rw [if_neg q]
