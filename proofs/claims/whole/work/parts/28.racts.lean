/-! the acts on the tape -/
def FAC (σ σ' : Mem) : Prop := ∀ k, k ≠ 25 → k ≠ 27 → σ' k = σ k
def FRA (m : Int) (τ τ' : Mem) : Prop := (∀ k, (1 ≤ k ∧ k ≤ 10) ∨ 12 ≤ k → τ' k = τ k) ∧ (∀ j, j ≠ 15 → τ' 0 j = τ 0 j) ∧ ∀ i, i < m → τ' 11 i = τ 11 i
theorem FAC.tr {a b c : Mem} (h : FAC a b) (g : FAC b c) : FAC a c := fun k k1 k2 => by rw [g k k1 k2, h k k1 k2]
theorem FRA.tr {m m' : Int} {a b c : Mem} (h : FRA m a b) (g : FRA m' b c) (hm : m ≤ m') : FRA m a c :=
  ⟨fun k hk => by rw [g.1 k hk, h.1 k hk], fun i hi => by rw [g.2.1 i hi, h.2.1 i hi], fun q hq => by rw [g.2.2 q (by omega), h.2.2 q hq]⟩
theorem FAC.p {k : Nat} {i v : Int} {σ : Mem} (hk : k = 25 ∨ k = 27) : FAC σ (mupd σ k i v) := fun q a c => mupd_ne _ (by omega)
theorem FRA.p {m q : Int} {τ : Mem} : FRA m τ (mupd τ 0 15 q) := ⟨fun k hk => mupd_ne _ (by omega), fun j h => mupd_ri h, fun i _ => by rw [mupd_rp (by decide)]⟩
theorem FRA.w {m i v : Int} {τ : Mem} (h : m ≤ i) : FRA m τ (mupd τ 11 i v) := ⟨fun k hk => mupd_ne _ (by omega), fun j _ => by rw [mupd_rp (by decide)], fun q _ => mupd_ri (by omega)⟩
theorem TC.w {b : Int → Int} {L p i v : Int} {σ : Mem} (h : TC b L p σ) : TC b L p (mupd σ 27 i v) := h.fr (mupd_ne _ (by decide)) (mupd_ne _ (by decide))
theorem bnt {c A B : Prop} (h : ¬ c) (a : A) : (¬ c → A) ∧ (c → B) := nt h a
/-- a way: thing, sign, target -/
theorem r_way {b : Int → Int} {L p nt B n : Int} (hB : BY b L) (hp : 0 ≤ p ∧ p ≤ L) (hnt : 0 ≤ nt ∧ nt ≤ 8) (hBB : 0 ≤ B ∧ B ≤ 8) (hn : 0 ≤ n ∧ n ≤ 50) : ∃ (ok th tg p' : Int), ((0 ≤ p' ∧ p' ≤ L) ∧ ((ok = 0 ∧ sk b L p' = p') ∨ (ok = 1 ∧ p ≤ p' ∧ (0 ≤ th ∧ th < nt) ∧ (0 ≤ tg ∧ tg < B)))) ∧ (∀ (σ : Mem), TC b L p σ → σ 8 0 = nt → ∃ σ', (TC b L p' σ' ∧ FAC σ σ' ∧ σ' 27 1 = σ 27 1 ∧ (ok = 1 → σ' 27 2 = th ∧ σ' 27 3 = tg)) ∧ ∀ Q : Int → Mem → Prop, Q ok σ' → HT GC M_X2_readWay [mr 27, mr 25, mr 1, mi B] σ Q) ∧ (∀ (τ : Mem) (x2 : Int), TM b L p τ → ¬ x2 = 115 → (x2 = 103 → B = 8) → (¬ x2 = 103 → B = τ 0 4) → (0 ≤ τ 0 4 ∧ τ 0 4 ≤ 4) → τ 0 9 = nt → ∃ τ', (TM b L p' τ' ∧ FRA (3 * n + 1) τ τ' ∧ (ok = 1 → τ' 11 (3 * n + 1) = th ∧ τ' 11 (3 * n + 2) = tg)) ∧ ∀ Q : Int → Mem → Prop, Q ok τ' → WP GM M_X9_readAct 91 [some (mr 0), some (mi (3 * n)), some (mi x2)] [mi (nt - 1), mr 0, mi (3 * n + 1), mr 11] τ Q) := by
  have hL := hB.1
  have hq := sk_ok (b := b) hp
  by_cases h1 : dgt b L p nt
  · have h11 := h1.1
    have h12 := h1.2.1
    have hp2 : 0 ≤ sk b L p + 1 ∧ sk b L p + 1 ≤ L := by omega
    have hq2 := sk_ok (b := b) hp2
    have hss := sk_sk (b := b) hp2.2
    have hle := sk_in (b := b) hp.2
    have hle2 := sk_in (b := b) hp2.2
    -- the reference, once the thing stands
    have mm : ∀ (τ : Mem) (x2 : Int) (Q : Int → Mem → Prop), TM b L p τ → ¬ x2 = 115 → HT GM M_X9_nextByte [mr 0] (mupd (mupd τ 0 15 (sk b L p + 1)) 11 (3 * n + 1) (b (sk b L p) - 48)) (fun r130 σ130 => (r130 = 62 → (¬ x2 = 103 → WP GM M_X9_readAct 175 [some (mr 0), some (mi (3 * n)), none] [mi (jsub (σ130 0 4) 1), mr 0, mi (jadd (3 * n) 2), mr 11] (mupd σ130 0 15 (jadd (σ130 0 15) 1)) Q) ∧ (x2 = 103 → WP GM M_X9_readAct 175 [some (mr 0), some (mi (3 * n)), none] [mi 7, mr 0, mi (jadd (3 * n) 2), mr 11] (mupd σ130 0 15 (jadd (σ130 0 15) 1)) Q)) ∧ (¬ r130 = 62 → Q 0 σ130)) → τ 0 9 = nt → WP GM M_X9_readAct 91 [some (mr 0), some (mi (3 * n)), some (mi x2)] [mi (nt - 1), mr 0, mi (3 * n + 1), mr 11] τ Q := by
      intro τ x2 Q hT hx hh h9
      apply b_X9_readAct_0_91
      refine m_digit hB hT (fun _ => ?_) (fun z => absurd (by rw [show nt - 1 + 1 = nt by omega]; exact h1) z)
      rw [jadd_eq (by omega) (by omega)]
      rw [mupd_at]
      exact ⟨by omega, by omega, bf (by omega) (bnt hx hh)⟩
    by_cases h2 : sk b L (sk b L p + 1) < L ∧ b (sk b L (sk b L p + 1)) = 62
    · have hp3 : 0 ≤ sk b L (sk b L p + 1) + 1 ∧ sk b L (sk b L p + 1) + 1 ≤ L := by omega
      have hq3 := sk_ok (b := b) hp3
      have hle3 := sk_in (b := b) hp3.2
      by_cases h3 : dgt b L (sk b L (sk b L p + 1) + 1) B
      · have h31 := h3.1
        have h32 := h3.2.1
        refine ⟨1, b (sk b L p) - 48, b (sk b L (sk b L (sk b L p + 1) + 1)) - 48, sk b L (sk b L (sk b L p + 1) + 1) + 1, ⟨by omega, Or.inr ⟨rfl, by omega, h1.2, h3.2⟩⟩, fun σ hT h8 => ?_, fun τ x2 hT hx hb1 hb2 h4 h9 => ?_⟩
        · refine ⟨?zs1, ?za1, fun Q hQ => ?zh1⟩
          case zh1 =>
            apply e_X2_readWay_27_25_1
            rw [h8]
            refine c_passDigit hB hT (fun _ => bf (by omega) ?_) (fun z => absurd h1 z)
            have t1 := (hT.up hp2).w (i := 2) (v := b (sk b L p) - 48)
            refine c_passes hB t1 (fun _ _ => bn1 ?_) (fun z => absurd h2 z)
            have t2 := t1.up hp3
            refine c_passDigit hB t2 (fun _ => bf (by omega) ?_) (fun z => absurd h3 z)
            exact hQ
          case za1 =>
            have t1 := (hT.up hp2).w (i := 2) (v := b (sk b L p) - 48)
            have t2 := t1.up hp3
            refine ⟨((t2.up (by omega)).w), (((((FAC.p (Or.inl rfl)).tr (FAC.p (Or.inr rfl))).tr (FAC.p (Or.inl rfl))).tr (FAC.p (Or.inl rfl))).tr (FAC.p (Or.inr rfl))), ?_, (fun _ => ⟨?_, by rw [mupd_at]⟩)⟩
            · rw [mupd_ri (by decide), mupd_rp (by decide), mupd_rp (by decide), mupd_ri (by decide), mupd_rp (by decide)]
            · rw [mupd_ri (by decide), mupd_rp (by decide), mupd_rp (by decide), mupd_at]
        · refine ⟨?ws1, ?wa1, fun Q hQ => ?wh1⟩
          case wh1 =>
            refine mm τ x2 Q hT hx ?_ h9
            have t1 := (hT.up hp2).w (i := 3 * n + 1) (v := b (sk b L p) - 48)
            refine m_next hB t1 (fun z => by omega) (fun _ => bt h2.2 ?_)
            have t2 := t1.up hq2
            rw [t2.2.1, mupd_up, jadd_eq (a := 3 * n) (by omega) (by omega), jadd_eq (by omega) (by omega)]
            have t3 := t1.up hp3
            have e4 : (mupd (mupd (mupd τ 0 15 (sk b L p + 1)) 11 (3 * n + 1) (b (sk b L p) - 48)) 0 15 (sk b L (sk b L p + 1))) 0 4 = τ 0 4 := by rw [mupd_ri (by decide), mupd_rp (by decide), mupd_ri (by decide)]
            have fin : ∀ s0, s0 + 1 = B → WP GM M_X9_readAct 175 [some (mr 0), some (mi (3 * n)), none] [mi s0, mr 0, mi (3 * n + 2), mr 11] (mupd (mupd (mupd τ 0 15 (sk b L p + 1)) 11 (3 * n + 1) (b (sk b L p) - 48)) 0 15 (sk b L (sk b L p + 1) + 1)) Q := by
              intro s0 hs
              apply b_X9_readAct_0_175
              refine m_digit hB t3 (fun _ => ?_) (fun z => absurd (by rw [hs]; exact h3) z)
              rw [jadd_eq (by omega) (by omega), mupd_at]
              refine ⟨by omega, by omega, bf (by omega) ?_⟩
              exact hQ
            rw [e4, jsub_eq (by omega) (by omega)]
            exact ⟨fun z => fin _ (by have := hb2 z; omega), fun z => fin _ (by have := hb1 z; omega)⟩
          case wa1 =>
            have t1 := (hT.up hp2).w (i := 3 * n + 1) (v := b (sk b L p) - 48)
            have t2 := t1.up hq2
            have t3 := t1.up hp3
            refine ⟨((t3.up (by omega)).w), ?_, (fun _ => ⟨?_, by rw [mupd_at]⟩)⟩
            · exact ((((FRA.p.tr (FRA.w (by omega)) (Int.le_refl _)).tr FRA.p (Int.le_refl _)).tr FRA.p (Int.le_refl _)).tr (FRA.w (by omega)) (Int.le_refl _))
            · rw [mupd_ri (by omega), mupd_rp (by decide), mupd_rp (by decide), mupd_at]
      · refine ⟨0, 0, 0, sk b L (sk b L (sk b L p + 1) + 1), ⟨hq3, Or.inl ⟨rfl, sk_sk hp3.2⟩⟩, fun σ hT h8 => ?_, fun τ x2 hT hx hb1 hb2 h4 h9 => ?_⟩
        · refine ⟨?zs2, ?za2, fun Q hQ => ?zh2⟩
          case zh2 =>
            apply e_X2_readWay_27_25_1
            rw [h8]
            refine c_passDigit hB hT (fun _ => bf (by omega) ?_) (fun z => absurd h1 z)
            have t1 := (hT.up hp2).w (i := 2) (v := b (sk b L p) - 48)
            refine c_passes hB t1 (fun _ _ => bn1 ?_) (fun z => absurd h2 z)
            have t2 := t1.up hp3
            refine c_passDigit hB t2 (fun z => absurd z h3) (fun z => bt rfl ?_)
            exact hQ
          case za2 =>
            have t1 := (hT.up hp2).w (i := 2) (v := b (sk b L p) - 48)
            have t2 := t1.up hp3
            refine ⟨((t2.up hq3).w), (((((FAC.p (Or.inl rfl)).tr (FAC.p (Or.inr rfl))).tr (FAC.p (Or.inl rfl))).tr (FAC.p (Or.inl rfl))).tr (FAC.p (Or.inr rfl))), ?_, (fun z => absurd z (by decide))⟩
            rw [mupd_ri (by decide), mupd_rp (by decide), mupd_rp (by decide), mupd_ri (by decide), mupd_rp (by decide)]
        · refine ⟨?ws2, ?wa2, fun Q hQ => ?wh2⟩
          case wh2 =>
            refine mm τ x2 Q hT hx ?_ h9
            have t1 := (hT.up hp2).w (i := 3 * n + 1) (v := b (sk b L p) - 48)
            refine m_next hB t1 (fun z => by omega) (fun _ => bt h2.2 ?_)
            have t2 := t1.up hq2
            rw [t2.2.1, mupd_up, jadd_eq (a := 3 * n) (by omega) (by omega), jadd_eq (by omega) (by omega)]
            have t3 := t1.up hp3
            have e4 : (mupd (mupd (mupd τ 0 15 (sk b L p + 1)) 11 (3 * n + 1) (b (sk b L p) - 48)) 0 15 (sk b L (sk b L p + 1))) 0 4 = τ 0 4 := by rw [mupd_ri (by decide), mupd_rp (by decide), mupd_ri (by decide)]
            have fin : ∀ s0, s0 + 1 = B → WP GM M_X9_readAct 175 [some (mr 0), some (mi (3 * n)), none] [mi s0, mr 0, mi (3 * n + 2), mr 11] (mupd (mupd (mupd τ 0 15 (sk b L p + 1)) 11 (3 * n + 1) (b (sk b L p) - 48)) 0 15 (sk b L (sk b L p + 1) + 1)) Q := by
              intro s0 hs
              apply b_X9_readAct_0_175
              refine m_digit hB t3 (fun z => absurd (by rw [hs] at z; exact z) h3) (fun z => ?_)
              rw [jadd_eq (by omega) (by omega), mupd_at]
              refine ⟨by omega, by omega, bt (by decide) ?_⟩
              exact hQ
            rw [e4, jsub_eq (by omega) (by omega)]
            exact ⟨fun z => fin _ (by have := hb2 z; omega), fun z => fin _ (by have := hb1 z; omega)⟩
          case wa2 =>
            have t1 := (hT.up hp2).w (i := 3 * n + 1) (v := b (sk b L p) - 48)
            have t2 := t1.up hq2
            have t3 := t1.up hp3
            refine ⟨((t3.up hq3).w), ?_, (fun z => absurd z (by decide))⟩
            exact ((((FRA.p.tr (FRA.w (by omega)) (Int.le_refl _)).tr FRA.p (Int.le_refl _)).tr FRA.p (Int.le_refl _)).tr (FRA.w (by omega)) (Int.le_refl _))
    · refine ⟨0, 0, 0, sk b L (sk b L p + 1), ⟨hq2, Or.inl ⟨rfl, hss⟩⟩, fun σ hT h8 => ?_, fun τ x2 hT hx hb1 hb2 h4 h9 => ?_⟩
      · refine ⟨?zs3, ?za3, fun Q hQ => ?zh3⟩
        case zh3 =>
          apply e_X2_readWay_27_25_1
          rw [h8]
          refine c_passDigit hB hT (fun _ => bf (by omega) ?_) (fun z => absurd h1 z)
          have t1 := (hT.up hp2).w (i := 2) (v := b (sk b L p) - 48)
          refine c_passes hB t1 (fun z1 z2 => absurd ⟨z1, z2⟩ h2) (fun z => bn0 ?_)
          exact hQ
        case za3 =>
          have t1 := (hT.up hp2).w (i := 2) (v := b (sk b L p) - 48)
          refine ⟨(t1.up hq2), (((FAC.p (Or.inl rfl)).tr (FAC.p (Or.inr rfl))).tr (FAC.p (Or.inl rfl))), ?_, (fun z => absurd z (by decide))⟩
          rw [mupd_rp (by decide), mupd_ri (by decide), mupd_rp (by decide)]
      · refine ⟨?ws3, ?wa3, fun Q hQ => ?wh3⟩
        case wh3 =>
          refine mm τ x2 Q hT hx ?_ h9
          have t1 := (hT.up hp2).w (i := 3 * n + 1) (v := b (sk b L p) - 48)
          refine m_next hB t1 (fun z => bf (by decide) ?_) (fun z => bf (fun e => h2 ⟨z, e⟩) ?_)
          all_goals exact hQ
        case wa3 =>
          have t1 := (hT.up hp2).w (i := 3 * n + 1) (v := b (sk b L p) - 48)
          exact ⟨(t1.up hq2), ((FRA.p.tr (FRA.w (by omega)) (Int.le_refl _)).tr FRA.p (Int.le_refl _)), (fun z => absurd z (by decide))⟩
  · refine ⟨0, 0, 0, sk b L p, ⟨hq, Or.inl ⟨rfl, sk_sk hp.2⟩⟩, fun σ hT h8 => ?_, fun τ x2 hT hx hb1 hb2 h4 h9 => ?_⟩
    · refine ⟨?zs4, ?za4, fun Q hQ => ?zh4⟩
      case zh4 =>
        apply e_X2_readWay_27_25_1
        rw [h8]
        refine c_passDigit hB hT (fun z => absurd z h1) (fun z => bt rfl ?_)
        exact hQ
      case za4 =>
        exact ⟨((hT.up hq).w), ((FAC.p (Or.inl rfl)).tr (FAC.p (Or.inr rfl))), (by rw [mupd_ri (by decide), mupd_rp (by decide)]), (fun z => absurd z (by decide))⟩
    · refine ⟨?ws4, ?wa4, fun Q hQ => ?wh4⟩
      case wh4 =>
        apply b_X9_readAct_0_91
        refine m_digit hB hT (fun z => absurd (by rw [show nt - 1 + 1 = nt by omega] at z; exact z) h1) (fun _ => ?_)
        rw [jadd_eq (by omega) (by omega), mupd_at]
        refine ⟨by omega, by omega, bt (by decide) ?_⟩
        apply b_X9_readAct_0_112
        rw [jadd_eq (by omega) (by omega), mupd_at]
        refine ⟨by omega, bt (by decide) ?_⟩
        exact hQ
      case wa4 =>
        exact ⟨((hT.up hq).w), (FRA.p.tr (FRA.w (by omega)) (Int.le_refl _)), (fun z => absurd z (by decide))⟩
/-- what an act asks for -/
def AOK (nt nc a v1 v2 : Int) : Prop := a = 98 ∨ (a = 115 ∧ (0 ≤ v1 ∧ v1 < nc)) ∨ ((a = 112 ∨ a = 116) ∧ (0 ≤ v1 ∧ v1 < nt) ∧ (0 ≤ v2 ∧ v2 < nc)) ∨ (a = 103 ∧ (0 ≤ v1 ∧ v1 < nt) ∧ (0 ≤ v2 ∧ v2 < 8))
def ACV (a v1 v2 : Int) (σ : Mem) : Prop := σ 27 1 = a ∧ (a = 115 → σ 27 3 = v1) ∧ (¬ a = 98 → ¬ a = 115 → σ 27 2 = v1 ∧ σ 27 3 = v2)
def AMV (m a v1 v2 : Int) (τ : Mem) : Prop := τ 11 m = a ∧ (¬ a = 98 → τ 11 (m + 1) = v1) ∧ (¬ a = 98 → ¬ a = 115 → τ 11 (m + 2) = v2)
theorem r_act {b : Int → Int} {L p nt nc n : Int} (hB : BY b L) (hp : 0 ≤ p ∧ p ≤ L) (hnt : 0 ≤ nt ∧ nt ≤ 8) (hnc : 0 ≤ nc ∧ nc ≤ 4) (hn : 0 ≤ n ∧ n ≤ 50) : ∃ (ok a v1 v2 p' : Int), ((0 ≤ p' ∧ p' ≤ L) ∧ ((ok = 0 ∧ sk b L p' = p') ∨ (ok = 1 ∧ p + 1 ≤ p' ∧ AOK nt nc a v1 v2))) ∧ (∀ (σ : Mem), TC b L p σ → σ 8 0 = nt → σ 3 0 = nc → ∃ σ', (TC b L p' σ' ∧ FAC σ σ' ∧ (ok = 1 → ACV a v1 v2 σ')) ∧ ∀ Q : Int → Mem → Prop, Q ok σ' → HT GC M_X2_readAct [mr 27, mr 25, mr 1] σ Q) ∧ (∀ (τ : Mem), TM b L p τ → τ 0 4 = nc → τ 0 9 = nt → ∃ τ', (TM b L p' τ' ∧ FRA (3 * n) τ τ' ∧ (ok = 1 → AMV (3 * n) a v1 v2 τ')) ∧ ∀ Q : Int → Mem → Prop, Q ok τ' → HT GM M_X9_readAct [mr 0, mi (3 * n)] τ Q) := by
  have hL := hB.1
  have hq := sk_ok (b := b) hp
  have hle := sk_in (b := b) hp.2
  have hss := sk_sk (b := b) hp.2
  -- one letter that does not stand next
  have no : ∀ (x : Int) (σ1 : Mem) (Q1 : Int → Mem → Prop) (p1 : Int), TC b L p1 σ1 → sk b L p1 = sk b L p → ¬ (sk b L p < L ∧ b (sk b L p) = x) → Q1 0 (mupd σ1 25 2 (sk b L p)) → HT GC M_X5_passes [mr 25, mi x] σ1 Q1 := by
    intro x σ1 Q1 p1 t1 e h hh
    refine c_passes hB t1 (fun z1 z2 => absurd ⟨by rw [← e]; exact z1, by rw [← e]; exact z2⟩ h) (fun _ => by rw [e]; exact hh)
  by_cases hc : sk b L p < L ∧ (b (sk b L p) = 98 ∨ b (sk b L p) = 115 ∨ b (sk b L p) = 112 ∨ b (sk b L p) = 116 ∨ b (sk b L p) = 103)
  · obtain ⟨hc1, hc2⟩ := hc
    have hp2 : 0 ≤ sk b L p + 1 ∧ sk b L p + 1 ≤ L := by omega
    have hq2 := sk_ok (b := b) hp2
    -- the reference's first byte
    have mm : ∀ (τ : Mem) (Q : Int → Mem → Prop), TM b L p τ → WP GM M_X9_readAct 37 [some (mr 0), some (mi (3 * n)), some (mi (b (sk b L p)))] [] (mupd τ 0 15 (sk b L p)) Q → HT GM M_X9_readAct [mr 0, mi (3 * n)] τ Q := by
      intro τ Q hT h
      apply e_X9_readAct_0
      refine m_next hB hT (fun z => by omega) (fun _ => ⟨fun _ => h, fun a1 => ⟨fun _ => h, fun a2 => ⟨fun _ => h, fun a3 => ⟨fun _ => h, fun a4 => ⟨fun _ => h, fun a5 => by omega⟩⟩⟩⟩⟩)
    by_cases h98 : b (sk b L p) = 98
    · refine ⟨1, 98, 0, 0, sk b L p + 1, ⟨by omega, Or.inr ⟨rfl, by omega, Or.inl rfl⟩⟩, fun σ hT h8 h3 => ?_, fun τ hT h4 h9 => ?_⟩
      · refine ⟨?zs5, ?za5, fun Q hQ => ?zh5⟩
        case zh5 =>
          apply e_X2_readAct_27_25_1
          refine c_passes hB hT (fun _ _ => br1 ?_) (fun z => absurd ⟨hc1, h98⟩ z)
          exact hQ
        case za5 =>
          exact ⟨((hT.up hp2).w), ((FAC.p (Or.inl rfl)).tr (FAC.p (Or.inr rfl))), (fun _ => ⟨by rw [mupd_at], fun z => absurd z (by decide), fun z => absurd rfl z⟩)⟩
      · refine ⟨?ws5, ?wa5, fun Q hQ => ?wh5⟩
        case wh5 =>
          refine mm τ Q hT ?_
          apply b_X9_readAct_0_37
          rw [(hT.up hq).2.1, mupd_up, jadd_eq (a := sk b L p) (by omega) (by omega), h98]
          refine ⟨by omega, nf rfl ?_⟩
          exact hQ
        case wa5 =>
          exact ⟨((hT.up hp2).w), (FRA.p.tr (FRA.w (by omega)) (Int.le_refl _)), (fun _ => ⟨by rw [mupd_at], fun z => absurd rfl z, fun z => absurd rfl z⟩)⟩
    · by_cases h115 : b (sk b L p) = 115
      · by_cases hd : dgt b L (sk b L p + 1) nc
        · have hd1 := hd.1
          have hd2 := hd.2.1
          have hle2 := sk_in (b := b) hp2.2
          refine ⟨1, 115, b (sk b L (sk b L p + 1)) - 48, 0, sk b L (sk b L p + 1) + 1, ⟨by omega, Or.inr ⟨rfl, by omega, Or.inr (Or.inl ⟨rfl, hd.2⟩)⟩⟩, fun σ hT h8 h3 => ?_, fun τ hT h4 h9 => ?_⟩
          · refine ⟨?zs6, ?za6, fun Q hQ => ?zh6⟩
            case zh6 =>
              apply e_X2_readAct_27_25_1
              refine no 98 σ _ p hT rfl (fun z => h98 z.2) (br0 ?_)
              have t1 := hT.up hq
              refine c_passes hB t1 (fun _ _ => br1 ?_) (fun z => absurd (by rw [hss]; exact ⟨hc1, h115⟩) z)
              rw [hss, mupd_up, mupd_rp (by decide), h3]
              refine c_passDigit hB ((hT.up hp2).w (i := 1) (v := 115)) (fun _ => bf (by omega) ?_) (fun z => absurd hd z)
              exact hQ
            case za6 =>
              have t1 := hT.up hq
              refine ⟨(((((hT.up hp2).w).up (by omega))).w), ((((FAC.p (Or.inl rfl)).tr (FAC.p (Or.inr rfl))).tr (FAC.p (Or.inl rfl))).tr (FAC.p (Or.inr rfl))), (fun _ => ⟨?_, fun _ => by rw [mupd_at], fun _ z => absurd rfl z⟩)⟩
              rw [mupd_ri (by decide), mupd_rp (by decide), mupd_at]
          · refine ⟨?ws6, ?wa6, fun Q hQ => ?wh6⟩
            case wh6 =>
              refine mm τ Q hT ?_
              apply b_X9_readAct_0_37
              rw [(hT.up hq).2.1, mupd_up, jadd_eq (a := sk b L p) (by omega) (by omega), h115, jadd_eq (a := 3 * n) (by omega) (by omega), mupd_ri (show (4 : Int) ≠ 15 by decide), h4, jsub_eq (a := nc) (by omega) (by omega)]
              refine ⟨by omega, bnt (by decide) (nf rfl ?_)⟩
              apply b_X9_readAct_0_91
              have t1 := (hT.up hp2).w (i := 3 * n) (v := 115)
              refine m_digit hB t1 (fun _ => ?_) (fun z => absurd (by rw [show nc - 1 + 1 = nc by omega]; exact hd) z)
              rw [jadd_eq (by omega) (by omega), mupd_at]
              refine ⟨by omega, by omega, bf (by omega) (nf rfl ?_)⟩
              apply b_X9_readAct_0_112
              rw [jadd_eq (by omega) (by omega), mupd_at]
              refine ⟨by omega, bf (by omega) ?_⟩
              exact hQ
            case wa6 =>
              have t1 := (hT.up hp2).w (i := 3 * n) (v := 115)
              refine ⟨((t1.up (by omega)).w), (((FRA.p.tr (FRA.w (by omega)) (Int.le_refl _)).tr FRA.p (Int.le_refl _)).tr (FRA.w (by omega)) (Int.le_refl _)), (fun _ => ⟨?_, fun _ => by rw [mupd_at], fun _ z => absurd rfl z⟩)⟩
              rw [mupd_ri (by omega), mupd_rp (by decide), mupd_at]
        · refine ⟨0, 0, 0, 0, sk b L (sk b L p + 1), ⟨hq2, Or.inl ⟨rfl, sk_sk hp2.2⟩⟩, fun σ hT h8 h3 => ?_, fun τ hT h4 h9 => ?_⟩
          · refine ⟨?zs7, ?za7, fun Q hQ => ?zh7⟩
            case zh7 =>
              apply e_X2_readAct_27_25_1
              refine no 98 σ _ p hT rfl (fun z => h98 z.2) (br0 ?_)
              have t1 := hT.up hq
              refine c_passes hB t1 (fun _ _ => br1 ?_) (fun z => absurd (by rw [hss]; exact ⟨hc1, h115⟩) z)
              rw [hss, mupd_up, mupd_rp (by decide), h3]
              refine c_passDigit hB ((hT.up hp2).w (i := 1) (v := 115)) (fun z => absurd z hd) (fun _ => bt rfl ?_)
              exact hQ
            case za7 =>
              have t1 := hT.up hq
              exact ⟨(((((hT.up hp2).w).up hq2)).w), ((((FAC.p (Or.inl rfl)).tr (FAC.p (Or.inr rfl))).tr (FAC.p (Or.inl rfl))).tr (FAC.p (Or.inr rfl))), (fun z => absurd z (by decide))⟩
          · refine ⟨?ws7, ?wa7, fun Q hQ => ?wh7⟩
            case wh7 =>
              refine mm τ Q hT ?_
              apply b_X9_readAct_0_37
              rw [(hT.up hq).2.1, mupd_up, jadd_eq (a := sk b L p) (by omega) (by omega), h115, jadd_eq (a := 3 * n) (by omega) (by omega), mupd_ri (show (4 : Int) ≠ 15 by decide), h4, jsub_eq (a := nc) (by omega) (by omega)]
              refine ⟨by omega, bnt (by decide) (nf rfl ?_)⟩
              apply b_X9_readAct_0_91
              have t1 := (hT.up hp2).w (i := 3 * n) (v := 115)
              refine m_digit hB t1 (fun z => absurd (by rw [show nc - 1 + 1 = nc by omega] at z; exact z) hd) (fun _ => ?_)
              rw [jadd_eq (by omega) (by omega), mupd_at]
              refine ⟨by omega, by omega, bt (by decide) ?_⟩
              apply b_X9_readAct_0_112
              rw [jadd_eq (by omega) (by omega), mupd_at]
              refine ⟨by omega, bt (by decide) ?_⟩
              exact hQ
            case wa7 =>
              have t1 := (hT.up hp2).w (i := 3 * n) (v := 115)
              exact ⟨((t1.up hq2).w), (((FRA.p.tr (FRA.w (by omega)) (Int.le_refl _)).tr FRA.p (Int.le_refl _)).tr (FRA.w (by omega)) (Int.le_refl _)), (fun z => absurd z (by decide))⟩
      · -- a way
        obtain ⟨B, hBe1, hBe2, hBr⟩ : ∃ B, (b (sk b L p) = 103 → B = 8) ∧ (¬ b (sk b L p) = 103 → B = nc) ∧ (0 ≤ B ∧ B ≤ 8) := by
          by_cases e : b (sk b L p) = 103
          · exact ⟨8, fun _ => rfl, fun z => absurd e z, by omega⟩
          · exact ⟨nc, fun z => absurd z e, fun _ => rfl, by omega⟩
        obtain ⟨ok, th, tg, p', ⟨w1, w2⟩, wC, wM⟩ := r_way (n := n) hB hp2 hnt hBr hn
        refine ⟨ok, b (sk b L p), th, tg, p', ⟨w1, ?_⟩, fun σ hT h8 h3 => ?_, fun τ hT h4 h9 => ?_⟩
        · rcases w2 with w2 | ⟨w2, w3, w4, w5⟩
          · exact Or.inl w2
          · refine Or.inr ⟨w2, by omega, ?_⟩
            by_cases e : b (sk b L p) = 103
            · have := hBe1 e
              exact Or.inr (Or.inr (Or.inr ⟨e, w4, by omega⟩))
            · have := hBe2 e
              exact Or.inr (Or.inr (Or.inl ⟨by omega, w4, by omega⟩))
        · obtain ⟨σ', ⟨c1, c2, c3, c4⟩, c5⟩ := wC (mupd (mupd σ 25 2 (sk b L p + 1)) 27 1 (b (sk b L p))) ((hT.up hp2).w) (by rw [mupd_rp (by decide), mupd_rp (by decide)]; exact h8)
          refine ⟨σ', ⟨c1, ((FAC.p (Or.inl rfl)).tr (FAC.p (Or.inr rfl))).tr c2, fun z => ⟨by rw [c3, mupd_at], fun e => absurd e h115, fun _ _ => c4 z⟩⟩, fun Q hQ => ?_⟩
          apply e_X2_readAct_27_25_1
          have t1 := hT.up hq
          have self : mupd (mupd σ 25 2 (sk b L p)) 25 2 (sk b L p) = mupd σ 25 2 (sk b L p) := mupd_up
          refine no 98 σ _ p hT rfl (fun z => h98 z.2) (br0 ?_)
          refine no 115 _ _ _ t1 hss (fun z => h115 z.2) ?_
          rw [self]
          refine br0 ?_
          have fin : ∀ a, b (sk b L p) = a → HT GC M_X2_readWay [mr 27, mr 25, mr 1, mi B] (mupd (mupd σ 25 2 (sk b L p + 1)) 27 1 a) (fun r s => (r = 0 ∨ r = 1) ∧ Q r s) := by
            intro a ha
            rw [← ha]
            exact c5 _ ⟨by omega, hQ⟩
          have e3 : ∀ v, (mupd σ 25 2 v) 3 0 = nc := fun v => by rw [mupd_rp (by decide)]; exact h3
          by_cases h112 : b (sk b L p) = 112
          · refine c_passes hB t1 (fun _ _ => br1 ?_) (fun z => absurd (by rw [hss]; exact ⟨hc1, h112⟩) z)
            rw [hss, mupd_up, e3, ← hBe2 (by omega)]
            exact fin 112 h112
          · refine no 112 _ _ _ t1 hss (fun z => h112 z.2) ?_
            rw [self]
            refine br0 ?_
            by_cases h116 : b (sk b L p) = 116
            · refine c_passes hB t1 (fun _ _ => br1 ?_) (fun z => absurd (by rw [hss]; exact ⟨hc1, h116⟩) z)
              rw [hss, mupd_up, e3, ← hBe2 (by omega)]
              exact fin 116 h116
            · refine no 116 _ _ _ t1 hss (fun z => h116 z.2) ?_
              rw [self]
              refine br0 ?_
              have h103 : b (sk b L p) = 103 := by omega
              refine c_passes hB t1 (fun _ _ => br1 ?_) (fun z => absurd (by rw [hss]; exact ⟨hc1, h103⟩) z)
              rw [hss, mupd_up]
              have e8 := hBe1 h103
              rw [e8] at fin
              exact fin 103 h103
        · have t1 := (hT.up hp2).w (i := 3 * n) (v := b (sk b L p))
          obtain ⟨τ', ⟨c1, c2, c3⟩, c4⟩ := wM (mupd (mupd τ 0 15 (sk b L p + 1)) 11 (3 * n) (b (sk b L p))) (b (sk b L p)) t1 h115 hBe1 (fun z => by rw [mupd_rp (by decide), mupd_ri (by decide), h4]; exact hBe2 z) (by rw [mupd_rp (by decide), mupd_ri (by decide)]; omega) (by rw [mupd_rp (by decide), mupd_ri (by decide)]; exact h9)
          refine ⟨τ', ⟨c1, (FRA.p.tr (FRA.w (by omega)) (Int.le_refl _)).tr c2 (by omega), fun z => ⟨by rw [c2.2.2 _ (by omega), mupd_at], fun _ => (c3 z).1, fun _ _ => (c3 z).2⟩⟩, fun Q hQ => ?_⟩
          refine mm τ Q hT ?_
          apply b_X9_readAct_0_37
          rw [(hT.up hq).2.1, mupd_up, jadd_eq (a := sk b L p) (by omega) (by omega), jadd_eq (a := 3 * n) (by omega) (by omega), mupd_ri (show (9 : Int) ≠ 15 by decide), h9, jsub_eq (a := nt) (by omega) (by omega)]
          exact ⟨by omega, bnt h98 (bnt h115 (c4 Q hQ))⟩
  · refine ⟨0, 0, 0, 0, sk b L p, ⟨hq, Or.inl ⟨rfl, hss⟩⟩, fun σ hT h8 h3 => ?_, fun τ hT h4 h9 => ?_⟩
    · refine ⟨?zs8, ?za8, fun Q hQ => ?zh8⟩
      case zh8 =>
        apply e_X2_readAct_27_25_1
        have t1 := hT.up hq
        have self : mupd (mupd σ 25 2 (sk b L p)) 25 2 (sk b L p) = mupd σ 25 2 (sk b L p) := mupd_up
        refine no 98 σ _ p hT rfl (fun z => hc ⟨z.1, by omega⟩) (br0 ?_)
        refine no 115 _ _ _ t1 hss (fun z => hc ⟨z.1, by omega⟩) ?_
        rw [self]; refine br0 ?_
        refine no 112 _ _ _ t1 hss (fun z => hc ⟨z.1, by omega⟩) ?_
        rw [self]; refine br0 ?_
        refine no 116 _ _ _ t1 hss (fun z => hc ⟨z.1, by omega⟩) ?_
        rw [self]; refine br0 ?_
        refine no 103 _ _ _ t1 hss (fun z => hc ⟨z.1, by omega⟩) ?_
        rw [self]; refine br0 ?_
        exact hQ
      case za8 =>
        have t1 := hT.up hq
        exact ⟨t1, (FAC.p (Or.inl rfl)), (fun z => absurd z (by decide))⟩
    · refine ⟨?ws8, ?wa8, fun Q hQ => ?wh8⟩
      case wh8 =>
        apply e_X9_readAct_0
        refine m_next hB hT (fun _ => ⟨fun z => absurd z (by decide), fun _ => ⟨fun z => absurd z (by decide), fun _ => ⟨fun z => absurd z (by decide), fun _ => ⟨fun z => absurd z (by decide), fun _ => ⟨fun z => absurd z (by decide), fun _ => ?_⟩⟩⟩⟩⟩) (fun y => ⟨fun z => absurd ⟨y, by omega⟩ hc, fun _ => ⟨fun z => absurd ⟨y, by omega⟩ hc, fun _ => ⟨fun z => absurd ⟨y, by omega⟩ hc, fun _ => ⟨fun z => absurd ⟨y, by omega⟩ hc, fun _ => ⟨fun z => absurd ⟨y, by omega⟩ hc, fun _ => ?_⟩⟩⟩⟩⟩)
        all_goals exact hQ
  
      case wa8 =>
        exact ⟨(hT.up hq), FRA.p, (fun z => absurd z (by decide))⟩