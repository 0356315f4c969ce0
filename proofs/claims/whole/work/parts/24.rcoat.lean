/-! a coat on the tape -/
def CSET (x2 x3 : Int) (d : Int → Int) : Prop := (0 ≤ x2 ∧ x2 < 256) ∧ (∀ k, 0 ≤ k → k < x3 → 0 ≤ d k ∧ d k < 8) ∧ (∀ e, 0 ≤ e → e < 8 → (tb x2 e = true ↔ ∃ k, 0 ≤ k ∧ k < x3 ∧ d k = e)) ∧ ∀ j k, 0 ≤ j → j < k → k < x3 → d j ≠ d k
def aD (d : Int → Int) (x3 e : Int) : Int → Int := fun k => if k = x3 then e else d k
theorem aD_at {d : Int → Int} {x3 e k : Int} (h : k = x3) : aD d x3 e k = e := if_pos h
theorem aD_ne {d : Int → Int} {x3 e k : Int} (h : ¬ k = x3) : aD d x3 e k = d k := if_neg h
theorem CSET.add {x2 x3 e : Int} {d : Int → Int} (h : CSET x2 x3 d) (h3 : 0 ≤ x3) (he : 0 ≤ e ∧ e < 8) (hf : ¬ tb x2 e = true) : CSET (jor x2 (jshl 1 e)) (x3 + 1) (aD d x3 e) := by
  obtain ⟨a, b, c, f⟩ := h
  have hb := shl1_256 he
  refine ⟨jor_256 a hb, fun k k0 k1 => ?_, fun g g0 g1 => ?_, fun j k j0 jk k1 => ?_⟩
  · by_cases q : k = x3
    · rw [aD_at q]; exact he
    · rw [aD_ne q]; exact b k k0 (by omega)
  · rw [tb_or ⟨a.1, by omega⟩ ⟨hb.1, by omega⟩, tb_shl1 (by omega) g0, Bool.or_eq_true, c g g0 g1, decide_eq_true_eq]
    constructor
    · rintro (⟨k, k0, k1, k2⟩ | z)
      · exact ⟨k, k0, by omega, by rw [aD_ne (by omega)]; exact k2⟩
      · exact ⟨x3, h3, by omega, by rw [aD_at rfl]; exact z⟩
    · rintro ⟨k, k0, k1, k2⟩
      by_cases q : k = x3
      · rw [aD_at q] at k2; exact Or.inr k2
      · rw [aD_ne q] at k2; exact Or.inl ⟨k, k0, by omega, k2⟩
  · rw [aD_ne (show ¬ j = x3 by omega)]
    by_cases q : k = x3
    · rw [aD_at q]
      intro z
      exact hf ((c e he.1 he.2).mpr ⟨j, j0, by omega, z⟩)
    · rw [aD_ne q]; exact f j k j0 jk (by omega)
def INC (n x3 : Int) (d : Int → Int) (σ : Mem) : Prop := σ 28 0 = n ∧ σ 30 n = x3 ∧ σ 31 n = 0 ∧ ∀ k, 0 ≤ k → k < x3 → σ 29 (4 * n + k) = d k
def INM (n x3 : Int) (d : Int → Int) (τ : Mem) : Prop := ∀ k, 0 ≤ k → k < x3 → τ 11 (6 * n + 2 + k) = d k
def NEC (n z h : Int) (d : Int → Int) (σ : Mem) : Prop := σ 28 0 = n + 1 ∧ σ 30 n = z ∧ σ 31 n = 0 ∧ σ 32 n = h ∧ ∀ k, 0 ≤ k → k < z → σ 29 (4 * n + k) = d k
def NEM (n z h : Int) (d : Int → Int) (τ : Mem) : Prop := τ 11 (6 * n) = z ∧ τ 11 (6 * n + 1) = h ∧ ∀ k, 0 ≤ k → k < z → τ 11 (6 * n + 2 + k) = d k
def FRC (n : Int) (σ σ' : Mem) : Prop := (∀ k, k ≤ 24 ∨ k = 26 ∨ k = 27 ∨ 33 ≤ k → σ' k = σ k) ∧ (∀ i, i < 4 * n → σ' 29 i = σ 29 i) ∧ ∀ c, c < n → σ' 30 c = σ 30 c ∧ σ' 31 c = σ 31 c ∧ σ' 32 c = σ 32 c
def FRM (n : Int) (τ τ' : Mem) : Prop := (∀ k, (1 ≤ k ∧ k ≤ 10) ∨ 12 ≤ k → τ' k = τ k) ∧ (∀ j, j ≠ 15 → j ≠ 16 → τ' 0 j = τ 0 j) ∧ ∀ i, i < 6 * n → τ' 11 i = τ 11 i
theorem FRC.tr {n : Int} {a b c : Mem} (h : FRC n a b) (g : FRC n b c) : FRC n a c :=
  ⟨fun k hk => by rw [g.1 k hk, h.1 k hk], fun i hi => by rw [g.2.1 i hi, h.2.1 i hi], fun q hq => by rw [(g.2.2 q hq).1, (g.2.2 q hq).2.1, (g.2.2 q hq).2.2]; exact h.2.2 q hq⟩
theorem FRM.tr {n : Int} {a b c : Mem} (h : FRM n a b) (g : FRM n b c) : FRM n a c :=
  ⟨fun k hk => by rw [g.1 k hk, h.1 k hk], fun i hi hj => by rw [g.2.1 i hi hj, h.2.1 i hi hj], fun q hq => by rw [g.2.2 q hq, h.2.2 q hq]⟩
theorem FRC.p {n q : Int} {σ : Mem} : FRC n σ (mupd σ 25 2 q) := ⟨fun k hk => mupd_ne _ (by omega), fun i _ => by rw [mupd_rp (by decide)], fun c _ => ⟨by rw [mupd_rp (by decide)], by rw [mupd_rp (by decide)], by rw [mupd_rp (by decide)]⟩⟩
theorem FRM.p {n q : Int} {τ : Mem} : FRM n τ (mupd τ 0 15 q) := ⟨fun k hk => mupd_ne _ (by omega), fun j h _ => mupd_ri h, fun i _ => by rw [mupd_rp (by decide)]⟩
theorem FRM.w {n i v : Int} {τ : Mem} (h : 6 * n ≤ i) : FRM n τ (mupd τ 11 i v) := ⟨fun k hk => mupd_ne _ (by omega), fun j _ _ => by rw [mupd_rp (by decide)], fun q _ => mupd_ri (by omega)⟩
theorem INC.p {n x3 q : Int} {d : Int → Int} {σ : Mem} (h : INC n x3 d σ) : INC n x3 d (mupd σ 25 2 q) := by
  unfold INC at *
  rw [mupd_ne 28 (by decide), mupd_ne 29 (by decide), mupd_ne 30 (by decide), mupd_ne 31 (by decide)]; exact h
theorem INM.p {n x3 q : Int} {d : Int → Int} {τ : Mem} (h : INM n x3 d τ) : INM n x3 d (mupd τ 0 15 q) := by
  unfold INM at *
  rw [mupd_ne 11 (by decide)]; exact h
theorem INM.w {n x3 v i : Int} {d : Int → Int} {τ : Mem} (h : INM n x3 d τ) (hi : i < 6 * n + 2) : INM n x3 d (mupd τ 11 i v) := by
  intro k k0 k1
  rw [mupd_ri (by omega)]; exact h k k0 k1
theorem TM.w {b : Int → Int} {L p i v : Int} {τ : Mem} (h : TM b L p τ) : TM b L p (mupd τ 11 i v) := h.fr (mupd_rp (by decide)) (mupd_rp (by decide)) (mupd_ne _ (by decide))
def COUT (b : Int → Int) (L ok okc p' z h : Int) (d : Int → Int) : Prop := (0 ≤ p' ∧ p' ≤ L) ∧ ((ok = 1 ∧ okc = 1 ∧ (1 ≤ z ∧ z ≤ 4) ∧ (0 ≤ h ∧ h ≤ 3) ∧ (∀ k, 0 ≤ k → k < z → 0 ≤ d k ∧ d k < 8) ∧ ∀ j k, 0 ≤ j → j < k → k < z → d j ≠ d k) ∨ (ok = 0 ∧ sk b L p' = p' ∧ (okc = 0 ∨ (okc = 1 ∧ p' < L ∧ b p' ≠ 44))))
def CRX (b : Int → Int) (L n p' okc z h : Int) (d : Int → Int) (σ : Mem) (Q : Int → Mem → Prop) : Prop := ∀ σ', TC b L p' σ' → FRC n σ σ' → (okc = 1 → NEC n z h d σ') → Q okc σ'
def CRY (b : Int → Int) (L n p' ok z h : Int) (d : Int → Int) (τ : Mem) (Q : Int → Mem → Prop) : Prop := ∀ τ', TM b L p' τ' → FRM n τ τ' → (ok = 1 → NEM n z h d τ') → Q ok τ'
theorem c_closeR {b : Int → Int} {L n p x3 h : Int} {d : Int → Int} {σ σ0 : Mem} {Q : Int → Mem → Prop} (hn : 0 ≤ n ∧ n < 4) (hT : TC b L p σ) (hI : INC n x3 d σ) (hF : FRC n σ0 σ) (hh : 0 ≤ h) (hQ : CRX b L n p 1 x3 h d σ0 Q) : WP GC M_X2_readCoat 106 [some (mr 27), none, none, none, none, none] [mi h] σ Q := by
  apply b_X2_readCoat_27_25_106
  refine ⟨fun _ => ?_, fun z => absurd z (by omega)⟩
  apply e_X0_close_28
  rw [hI.1, jadd_eq (by omega) (by omega)]
  refine ⟨fun z => absurd z (by omega), fun _ => ⟨hn, hQ _ ?_ ?_ (fun _ => ?_)⟩⟩
  · exact hT.fr (by rw [mupd_ne _ (by decide), mupd_ne _ (by decide)]) (by rw [mupd_ne _ (by decide), mupd_ne _ (by decide)])
  · refine hF.tr ⟨fun k hk => by rw [mupd_ne _ (by omega), mupd_ne _ (by omega)], fun i _ => by rw [mupd_rp (by decide), mupd_rp (by decide)], fun c hc => ⟨by rw [mupd_rp (by decide), mupd_rp (by decide)], by rw [mupd_rp (by decide), mupd_rp (by decide)], by rw [mupd_rp (by decide), mupd_ri (by omega)]⟩⟩
  · refine ⟨by rw [mupd_at], by rw [mupd_rp (by decide), mupd_rp (by decide)]; exact hI.2.1, by rw [mupd_rp (by decide), mupd_rp (by decide)]; exact hI.2.2.1, by rw [mupd_rp (by decide), mupd_at], fun k k0 k1 => by rw [mupd_rp (by decide), mupd_rp (by decide)]; exact hI.2.2.2 k k0 k1⟩
/-- the class's end of a coat: no digit, or four -/
theorem c_endC {b : Int → Int} {L n p x3 : Int} {d : Int → Int} {σ : Mem} {Q : Int → Mem → Prop} (hB : BY b L) (hn : 0 ≤ n ∧ n < 4) (h3 : ¬ x3 = 0) (hT : TC b L p σ) (hs : sk b L p = p) (hI : INC n x3 d σ) (h1 : p < L → b p = 104 → dgt b L (p + 1) 4 → CRX b L n (sk b L (p + 1) + 1) 1 x3 (b (sk b L (p + 1)) - 48) d σ Q) (h2 : p < L → b p = 104 → ¬ dgt b L (p + 1) 4 → CRX b L n (sk b L (p + 1)) 0 0 0 d σ Q) (h0 : ¬ (p < L ∧ b p = 104) → CRX b L n p 1 x3 0 d σ Q) : WP GC M_X2_readCoat 82 [some (mr 27), some (mr 25), none, some (mi x3), none, none] [] σ Q := by
  apply b_X2_readCoat_27_25_82
  refine nt h3 (c_passes hB hT (fun a c => br1 ?_) (fun a => br0 ?_))
  · rw [hs] at a c ⊢
    have hp := hT.2.2.1
    have t2 := hT.up (q := p + 1) (by omega)
    have hq := sk_ok (b := b) (L := L) (p := p + 1) (by omega)
    refine c_passDigit hB t2 (fun g => ?_) (fun g => ?_)
    · rw [mupd_up]
      have g1 := g.1
      exact c_closeR hn (hT.up (by omega)) hI.p FRC.p g.2.1 (h1 a c g)
    · apply b_X2_readCoat_27_25_106
      rw [mupd_up]
      exact nf rfl (h2 a c g _ (hT.up hq) FRC.p (fun z => absurd z (by decide)))
  · rw [hs] at a ⊢
    rw [mupd_self hT.2.1]
    exact c_closeR hn hT hI ⟨fun _ _ => rfl, fun _ _ => rfl, fun _ _ => ⟨rfl, rfl, rfl⟩⟩ (by decide) (h0 a)
/-- the reference's end of a coat -/
theorem m_endC {b : Int → Int} {L n p x3 x2 : Int} {d : Int → Int} {τ : Mem} {Q : Int → Mem → Prop} (hB : BY b L) (hn : 0 ≤ n ∧ n < 4) (h3 : ¬ x3 = 0) (hT : TM b L p τ) (hd : ¬ (sk b L p < L ∧ 48 ≤ b (sk b L p) ∧ b (sk b L p) ≤ 57)) (hI : INM n x3 d τ) (h1 : sk b L p < L → b (sk b L p) = 104 → dgt b L (sk b L p + 1) 4 → CRY b L n (sk b L (sk b L p + 1) + 1) 1 x3 (b (sk b L (sk b L p + 1)) - 48) d τ Q) (h2 : sk b L p < L → b (sk b L p) = 104 → ¬ dgt b L (sk b L p + 1) 4 → CRY b L n (sk b L (sk b L p + 1)) 0 0 0 d τ Q) (h0 : ¬ (sk b L p < L ∧ b (sk b L p) = 104) → CRY b L n (sk b L p) 1 x3 0 d τ Q) : WP GM M_X9_readCoat 4 [some (mr 0), some (mi (6 * n)), some (mi x2), some (mi x3), none] [] τ Q := by
  have hL := hB.1
  have hp := hT.2.2.1
  have hq := sk_ok (b := b) hp
  have hss := sk_sk (b := b) hp.2
  -- after the byte was looked at
  have aft : ∀ Q1 : Prop, (0 ≤ 6 * n ∧ 6 * n < 160) ∧ ((0 ≤ jadd (6 * n) 1 ∧ jadd (6 * n) 1 < 160) ∧ HT GM M_X9_nextByte [mr 0] (mupd (mupd (mupd τ 0 15 (sk b L p)) 11 (6 * n) x3) 11 (jadd (6 * n) 1) 0) (fun r115 σ115 => (¬ r115 = 104 → WP GM M_X9_readCoat 146 [some (mr 0), some (mi (6 * n)), none, none, none] [] σ115 Q) ∧ (r115 = 104 → HT GM M_X9_readDigit [mr 0, mi 3] (mupd σ115 0 15 (jadd (σ115 0 15) 1)) (fun r142 σ142 => (0 ≤ jadd (6 * n) 1 ∧ jadd (6 * n) 1 < 160) ∧ (WP GM M_X9_readCoat 146 [some (mr 0), some (mi (6 * n)), none, none, none] [] (mupd σ142 11 (jadd (6 * n) 1) r142) Q))))) := by
    intro _
    rw [jadd_eq (a := 6 * n) (by omega) (by omega)]
    refine ⟨by omega, by omega, ?_⟩
    have t1 : TM b L (sk b L p) (mupd (mupd (mupd τ 0 15 (sk b L p)) 11 (6 * n) x3) 11 (6 * n + 1) 0) := ((hT.up hq).w).w
    have e146 : ∀ (τ1 : Mem) (v : Int), (v < 0 → Q 0 τ1) → (0 ≤ v → Q 1 τ1) → τ1 11 (6 * n + 1) = v → WP GM M_X9_readCoat 146 [some (mr 0), some (mi (6 * n)), none, none, none] [] τ1 Q := by
      intro τ1 v a c e
      apply b_X9_readCoat_0_146
      rw [jadd_eq (by omega) (by omega), e]
      exact ⟨by omega, a, fun z => c (by omega)⟩
    have fr : FRM n τ (mupd (mupd (mupd τ 0 15 (sk b L p)) 11 (6 * n) x3) 11 (6 * n + 1) 0) := (FRM.p.tr (FRM.w (by omega))).tr (FRM.w (by omega))
    have n0 : ∀ q, NEM n x3 0 d (mupd (mupd (mupd (mupd τ 0 15 (sk b L p)) 11 (6 * n) x3) 11 (6 * n + 1) 0) 0 15 q) := fun q => ⟨by rw [mupd_rp (by decide), mupd_ri (by omega), mupd_at], by rw [mupd_rp (by decide), mupd_at], fun k k0 k1 => by rw [mupd_rp (by decide), mupd_ri (by omega), mupd_ri (by omega), mupd_rp (by decide)]; exact hI k k0 k1⟩
    refine m_next hB t1 (fun z => ?_) (fun z => ?_)
    · rw [hss] at z ⊢
      refine nt (by decide) (e146 _ 0 (fun k => absurd k (by decide)) (fun _ => h0 (by omega) _ (t1.up hq) (fr.tr FRM.p) (fun _ => n0 _)) ?_)
      rw [mupd_rp (by decide), mupd_at]
    · rw [hss] at z ⊢
      by_cases e : b (sk b L p) = 104
      · refine nf e ?_
        have t2 := t1.up (q := sk b L p) hq
        rw [t2.2.1, mupd_up, jadd_eq (by omega) (by omega)]
        have t3 := t1.up (q := sk b L p + 1) (by omega)
        have hq3 := sk_ok (b := b) (L := L) (p := sk b L p + 1) (by omega)
        refine m_digit (m := 3) hB t3 (fun g => ⟨by omega, ?_⟩) (fun g => ⟨by omega, ?_⟩)
        · rw [mupd_up]
          have g1 := g.1
          have g2 := g.2.1
          refine e146 _ (b (sk b L (sk b L p + 1)) - 48) (fun k => absurd k (by omega)) (fun _ => h1 z e g _ ((t1.up (by omega)).w) ((fr.tr FRM.p).tr (FRM.w (by omega))) (fun _ => ⟨?_, ?_, fun k k0 k1 => ?_⟩)) (by rw [mupd_at])
          · rw [mupd_ri (by omega)]; exact (n0 _).1
          · rw [mupd_at]
          · rw [mupd_ri (by omega)]; exact (n0 _).2.2 k k0 k1
        · rw [mupd_up]
          exact e146 _ (-1) (fun _ => h2 z e g _ ((t1.up hq3).w) ((fr.tr FRM.p).tr (FRM.w (by omega))) (fun k => absurd k (by decide))) (fun k => absurd k (by decide)) (by rw [mupd_at])
      · refine nt e (e146 _ 0 (fun k => absurd k (by decide)) (fun _ => h0 (fun k => e k.2) _ (t1.up hq) (fr.tr FRM.p) (fun _ => n0 _)) ?_)
        rw [mupd_rp (by decide), mupd_at]
  apply b_X9_readCoat_0_4
  refine ⟨fun z => absurd z h3, fun _ => ?_⟩
  refine m_next hB hT (fun z => ?_) (fun z => ?_)
  · exact c_in (fun k => absurd k.1 (by decide)) (fun _ => ⟨fun _ => aft True, fun k => absurd rfl k⟩)
  · exact c_in (fun k => absurd ⟨z, k.1, k.2⟩ hd) (fun _ => ⟨fun _ => aft True, fun k => absurd rfl k⟩)
