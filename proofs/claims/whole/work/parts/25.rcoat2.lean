/-! a whole coat on the tape -/
theorem m_25 {b : Int → Int} {L n p x2 x3 : Int} {τ : Mem} {Q : Int → Mem → Prop} (hB : BY b L) (hn : 0 ≤ n ∧ n < 4) (h3 : 0 ≤ x3 ∧ x3 ≤ 4) (hx : 0 ≤ x2 ∧ x2 < 256) (hT : TM b L p τ) (h0 : ¬ (dgt b L p 8 ∧ ¬ tb x2 (b (sk b L p) - 48) = true ∧ ¬ x3 = 4) → Q 0 (mupd τ 0 15 (sk b L p))) (h1 : dgt b L p 8 → ¬ tb x2 (b (sk b L p) - 48) = true → ¬ x3 = 4 → WP GM M_X9_readCoat 4 [some (mr 0), some (mi (6 * n)), some (mi (jor x2 (jshl 1 (b (sk b L p) - 48)))), some (mi (x3 + 1)), none] [] (mupd (mupd (mupd τ 0 15 (sk b L p)) 11 (6 * n + 2 + x3) (b (sk b L p) - 48)) 0 15 (sk b L p + 1)) Q) : WP GM M_X9_readCoat 25 [some (mr 0), some (mi (6 * n)), some (mi x2), some (mi x3), none] [] τ Q := by
  have hL := hB.1
  have hp := hT.2.2.1
  have hq := sk_ok (b := b) hp
  apply b_X9_readCoat_0_25
  refine m_next hB hT (fun z => ?_) (fun z => ?_)
  · rw [jsub_eq (by omega) (by omega)]
    exact c_in (fun k => absurd k.1 (by decide)) (fun _ => br0 (h0 (fun k => by have := k.1.1; omega)))
  · have hy := hB.2 _ hq.1 z
    rw [jsub_eq (by omega) (by omega)]
    refine c_in (fun k => br1 ?_) (fun k => br0 (h0 (fun g => k ⟨g.1.2.1, by have := g.1.2.2; omega⟩)))
    have hd : dgt b L p 8 := ⟨z, k.1, by omega⟩
    apply e_X9_has
    rw [bit_test ⟨hx.1, by omega⟩ (by omega)]
    by_cases ht : tb x2 (b (sk b L p) - 48) = true
    · rw [if_pos ht]
      exact nf rfl (bn1 (h0 (fun g => g.2.1 ht)))
    · rw [if_neg ht]
      refine nt (by decide) (bn0 ⟨fun e => ?_, fun e => h0 (fun g => g.2.2 e)⟩)
      rw [jadd_eq (a := 6 * n) (by omega) (by omega), jadd_eq (a := 6 * n + 2) (by omega) (by omega), jadd_eq (a := x3) (by omega) (by omega), (hT.up hq).2.1, jadd_eq (by omega) (by omega)]
      exact ⟨by omega, h1 hd ht e⟩
theorem m_4to {b : Int → Int} {L n p x2 x3 : Int} {d : Int → Int} {τ : Mem} {Q : Int → Mem → Prop} (hB : BY b L) (hT : TM b L p τ) (hI : INM n x3 d τ) (hd : x3 = 0 ∨ (sk b L p < L ∧ 48 ≤ b (sk b L p) ∧ b (sk b L p) ≤ 57)) (H : ∀ τ1 p1, TM b L p1 τ1 → sk b L p1 = sk b L p → FRM n τ τ1 → INM n x3 d τ1 → WP GM M_X9_readCoat 25 [some (mr 0), some (mi (6 * n)), some (mi x2), some (mi x3), none] [] τ1 Q) : WP GM M_X9_readCoat 4 [some (mr 0), some (mi (6 * n)), some (mi x2), some (mi x3), none] [] τ Q := by
  have hp := hT.2.2.1
  have hq := sk_ok (b := b) hp
  apply b_X9_readCoat_0_4
  by_cases e : x3 = 0
  · exact bt e (H τ p hT rfl ⟨fun _ _ => rfl, fun _ _ _ => rfl, fun _ _ => rfl⟩ hI)
  · rcases hd with hd | hd
    · exact absurd hd e
    · refine bf e (m_next hB hT (fun z => by omega) (fun z => ?_))
      refine c_in (fun k => br1 ?_) (fun k => absurd hd.2 k)
      exact H _ _ (hT.up hq) (sk_sk hp.2) FRM.p hI.p
theorem CSET.z {d : Int → Int} : CSET 0 0 d := ⟨by omega, fun k a c => by omega, fun e _ _ => ⟨fun z => by rw [tb_0] at z; exact absurd z (by decide), fun ⟨k, a, c, _⟩ => by omega⟩, fun j k a c f => by omega⟩
def LC (b : Int → Int) (L n x3 x2 p : Int) (d : Int → Int) : Prop := ∃ (ok okc p' z h : Int) (d' : Int → Int), COUT b L ok okc p' z h d' ∧ (∀ (σ : Mem) (x4 : Int) (Q : Int → Mem → Prop), TC b L (sk b L p) σ → INC n x3 d σ → (dgt b L p 8 → x4 = b (sk b L p) - 48) → (¬ dgt b L p 8 → x4 = -4) → CRX b L n p' okc z h d' σ Q → WP GC M_X2_readCoat 19 [some (mr 27), some (mr 25), some (mi x2), some (mi x3), some (mi x4), none] [] σ Q) ∧ (∀ (τ : Mem) (Q : Int → Mem → Prop), TM b L p τ → INM n x3 d τ → CRY b L n p' ok z h d' τ Q → WP GM M_X9_readCoat 4 [some (mr 0), some (mi (6 * n)), some (mi x2), some (mi x3), none] [] τ Q)
theorem to82 {b : Int → Int} {L p x2 x3 x4 : Int} {σ : Mem} {Q : Int → Mem → Prop} (h : x3 = 4 ∨ ¬ dgt b L p 8) (e0 : ¬ dgt b L p 8 → x4 = -4) (hh : WP GC M_X2_readCoat 82 [some (mr 27), some (mr 25), none, some (mi x3), none, none] [] σ Q) : WP GC M_X2_readCoat 19 [some (mr 27), some (mr 25), some (mi x2), some (mi x3), some (mi x4), none] [] σ Q := by
  apply b_X2_readCoat_27_25_19
  rcases h with h | h
  · exact ⟨fun _ => hh, fun _ => ⟨fun _ => hh, fun z => absurd (by omega) z⟩⟩
  · exact bt (e0 h) hh
theorem l_endA {b : Int → Int} {L n x3 x2 p : Int} {d : Int → Int} (hB : BY b L) (hn : 0 ≤ n ∧ n < 4) (h3 : 1 ≤ x3 ∧ x3 ≤ 4) (hp : 0 ≤ p ∧ p ≤ L) (hS : CSET x2 x3 d) (hc : sk b L p < L ∧ 48 ≤ b (sk b L p) ∧ b (sk b L p) ≤ 57) (h : x3 = 4 ∨ ¬ dgt b L p 8) : LC b L n x3 x2 p d := by
  have hq := sk_ok (b := b) hp
  have hss := sk_sk (b := b) hp.2
  refine ⟨0, 1, sk b L p, x3, 0, d, ⟨hq, Or.inr ⟨rfl, hss, Or.inr ⟨rfl, hc.1, by omega⟩⟩⟩, fun σ x4 Q hT hI e1 e0 hQ => ?_, fun τ Q hT hI hQ => ?_⟩
  · exact to82 h e0 (c_endC (Q := Q) hB hn (by omega) hT hss hI (fun _ z _ => by omega) (fun _ z _ => by omega) (fun _ => hQ))
  · refine m_4to hB hT hI (Or.inr hc) (fun τ1 p1 t1 s1 f1 i1 => ?_)
    refine m_25 hB hn (by omega) hS.1 t1 (fun _ => ?_) (fun z _ k => ?_)
    · rw [s1]
      exact hQ _ (t1.up hq) (f1.tr FRM.p) (fun z => absurd z (by decide))
    · have hz : dgt b L p 8 := by unfold dgt at *; rw [s1] at z; exact z
      rcases h with h | h
      · exact absurd h k
      · exact absurd hz h
theorem l_endB {b : Int → Int} {L n x3 x2 p : Int} {d : Int → Int} (hB : BY b L) (hn : 0 ≤ n ∧ n < 4) (h3 : 1 ≤ x3 ∧ x3 ≤ 4) (hp : 0 ≤ p ∧ p ≤ L) (hS : CSET x2 x3 d) (hc : ¬ (sk b L p < L ∧ 48 ≤ b (sk b L p) ∧ b (sk b L p) ≤ 57)) : LC b L n x3 x2 p d := by
  have hq := sk_ok (b := b) hp
  have hss := sk_sk (b := b) hp.2
  have hnd : ¬ dgt b L p 8 := fun z => hc ⟨z.1, by have := z.2; omega, by have := z.2; omega⟩
  have hok : (∀ k, 0 ≤ k → k < x3 → 0 ≤ d k ∧ d k < 8) ∧ ∀ j k, 0 ≤ j → j < k → k < x3 → d j ≠ d k := ⟨hS.2.1, hS.2.2.2⟩
  by_cases h4 : sk b L p < L ∧ b (sk b L p) = 104
  · have hq2 := sk_ok (b := b) (L := L) (p := sk b L p + 1) (by omega)
    by_cases hg : dgt b L (sk b L p + 1) 4
    · have g1 := hg.1
      have g2 := hg.2
      refine ⟨1, 1, sk b L (sk b L p + 1) + 1, x3, b (sk b L (sk b L p + 1)) - 48, d, ⟨by omega, Or.inl ⟨rfl, rfl, h3, by omega, hok.1, hok.2⟩⟩, fun σ x4 Q hT hI e1 e0 hQ => ?_, fun τ Q hT hI hQ => ?_⟩
      · exact to82 (Or.inr hnd) e0 (c_endC (Q := Q) hB hn (by omega) hT hss hI (fun _ _ _ => hQ) (fun _ _ z => absurd hg z) (fun z => absurd h4 z))
      · exact m_endC (Q := Q) hB hn (by omega) hT hc hI (fun _ _ _ => hQ) (fun _ _ z => absurd hg z) (fun z => absurd h4 z)
    · refine ⟨0, 0, sk b L (sk b L p + 1), 0, 0, d, ⟨hq2, Or.inr ⟨rfl, sk_sk (by omega), Or.inl rfl⟩⟩, fun σ x4 Q hT hI e1 e0 hQ => ?_, fun τ Q hT hI hQ => ?_⟩
      · exact to82 (Or.inr hnd) e0 (c_endC (Q := Q) hB hn (by omega) hT hss hI (fun _ _ z => absurd z hg) (fun _ _ _ => hQ) (fun z => absurd h4 z))
      · exact m_endC (Q := Q) hB hn (by omega) hT hc hI (fun _ _ z => absurd z hg) (fun _ _ _ => hQ) (fun z => absurd h4 z)
  · refine ⟨1, 1, sk b L p, x3, 0, d, ⟨hq, Or.inl ⟨rfl, rfl, h3, by omega, hok.1, hok.2⟩⟩, fun σ x4 Q hT hI e1 e0 hQ => ?_, fun τ Q hT hI hQ => ?_⟩
    · exact to82 (Or.inr hnd) e0 (c_endC (Q := Q) hB hn (by omega) hT hss hI (fun a c _ => absurd ⟨a, c⟩ h4) (fun a c _ => absurd ⟨a, c⟩ h4) (fun _ => hQ))
    · exact m_endC (Q := Q) hB hn (by omega) hT hc hI (fun a c _ => absurd ⟨a, c⟩ h4) (fun a c _ => absurd ⟨a, c⟩ h4) (fun _ => hQ)
theorem l_end0 {b : Int → Int} {L n x2 p : Int} {d : Int → Int} (hB : BY b L) (hn : 0 ≤ n ∧ n < 4) (hp : 0 ≤ p ∧ p ≤ L) (hS : CSET x2 0 d) (hnd : ¬ dgt b L p 8) : LC b L n 0 x2 p d := by
  have hq := sk_ok (b := b) hp
  have hss := sk_sk (b := b) hp.2
  refine ⟨0, 0, sk b L p, 0, 0, d, ⟨hq, Or.inr ⟨rfl, hss, Or.inl rfl⟩⟩, fun σ x4 Q hT hI e1 e0 hQ => ?_, fun τ Q hT hI hQ => ?_⟩
  · refine to82 (Or.inr hnd) e0 (b_X2_readCoat_27_25_82 _ (nf rfl ?_))
    exact hQ _ hT ⟨fun _ _ => rfl, fun _ _ => rfl, fun _ _ => ⟨rfl, rfl, rfl⟩⟩ (fun z => absurd z (by decide))
  · refine m_4to hB hT hI (Or.inl rfl) (fun τ1 p1 t1 s1 f1 i1 => ?_)
    refine m_25 hB hn (by omega) hS.1 t1 (fun _ => ?_) (fun z _ _ => ?_)
    · rw [s1]
      exact hQ _ (t1.up hq) (f1.tr FRM.p) (fun z => absurd z (by decide))
    · exact absurd (by unfold dgt at *; rw [s1] at z; exact z) hnd
theorem l_coat {b : Int → Int} {L n : Int} (hB : BY b L) (hn : 0 ≤ n ∧ n < 4) : ∀ (m : Nat) (x3 x2 p : Int) (d : Int → Int), x3 + m = 4 → 0 ≤ x3 → (0 ≤ p ∧ p ≤ L) → CSET x2 x3 d → LC b L n x3 x2 p d := by
  intro m
  induction m with
  | zero =>
    intro x3 x2 p d hm h3 hp hS
    by_cases hc : sk b L p < L ∧ 48 ≤ b (sk b L p) ∧ b (sk b L p) ≤ 57
    · exact l_endA hB hn (by omega) hp hS hc (Or.inl (by omega))
    · exact l_endB hB hn (by omega) hp hS hc
  | succ m ih =>
    intro x3 x2 p d hm h3 hp hS
    have hq := sk_ok (b := b) hp
    have hss := sk_sk (b := b) hp.2
    have hx := hS.1
    by_cases hd : dgt b L p 8
    · have hd1 := hd.1
      have hd2 := hd.2
      have hc : sk b L p < L ∧ 48 ≤ b (sk b L p) ∧ b (sk b L p) ≤ 57 := ⟨hd.1, by omega, by omega⟩
      by_cases ht : tb x2 (b (sk b L p) - 48) = true
      · refine ⟨0, 0, sk b L p, x3, 0, d, ⟨hq, Or.inr ⟨rfl, hss, Or.inl rfl⟩⟩, fun σ x4 Q hT hI e1 e0 hQ => ?_, fun τ Q hT hI hQ => ?_⟩
        · apply b_X2_readCoat_27_25_19
          rw [e1 hd]
          refine bf (by omega) (bf (by omega) ?_)
          rw [bit_test ⟨hx.1, by omega⟩ (by omega), if_pos ht]
          exact br1 (hQ _ hT ⟨fun _ _ => rfl, fun _ _ => rfl, fun _ _ => ⟨rfl, rfl, rfl⟩⟩ (fun z => absurd z (by decide)))
        · refine m_4to hB hT hI (Or.inr hc) (fun τ1 p1 t1 s1 f1 i1 => ?_)
          refine m_25 hB hn (by omega) hx t1 (fun _ => ?_) (fun _ z _ => absurd (by rw [s1]; exact ht) z)
          rw [s1]
          exact hQ _ (t1.up hq) (f1.tr FRM.p) (fun z => absurd z (by decide))
      · obtain ⟨ok, okc, p', z, h, d', hO, hC, hM⟩ := ih (x3 + 1) (jor x2 (jshl 1 (b (sk b L p) - 48))) (sk b L p + 1) (aD d x3 (b (sk b L p) - 48)) (by omega) (by omega) (by omega) (hS.add h3 hd2 ht)
        have hq2 := sk_ok (b := b) (L := L) (p := sk b L p + 1) (by omega)
        refine ⟨ok, okc, p', z, h, d', hO, fun σ x4 Q hT hI e1 e0 hQ => ?_, fun τ Q hT hI hQ => ?_⟩
        · apply b_X2_readCoat_27_25_19
          rw [e1 hd]
          refine bf (by omega) (bf (by omega) ?_)
          rw [bit_test ⟨hx.1, by omega⟩ (by omega), if_neg ht]
          refine br0 ?_
          apply e_X0_join_28
          rw [hI.1, hI.2.1]
          refine bf (by omega) ⟨hn, bf (by omega) ⟨hn, ?_⟩⟩
          rw [jmul_eq (by omega) (by omega), jadd_eq (a := n * 4) (by omega) (by omega), jadd_eq (a := x3) (by omega) (by omega), show n * 4 + x3 = 4 * n + x3 by omega]
          refine ⟨by omega, hn, hn, ?_⟩
          have t1 : TC b L (sk b L p) (mupd (mupd σ 29 (4 * n + x3) (b (sk b L p) - 48)) 30 n (x3 + 1)) := hT.fr (by rw [mupd_ne _ (by decide), mupd_ne _ (by decide)]) (by rw [mupd_ne _ (by decide), mupd_ne _ (by decide)])
          have hL := hB.1
          rw [t1.2.1, jadd_eq (by omega) (by omega)]
          have t2 := t1.up (q := sk b L p + 1) (by omega)
          have i2 : INC n (x3 + 1) (aD d x3 (b (sk b L p) - 48)) (mupd (mupd (mupd σ 29 (4 * n + x3) (b (sk b L p) - 48)) 30 n (x3 + 1)) 25 2 (sk b L p + 1)) := by
            refine INC.p ⟨by rw [mupd_rp (by decide), mupd_rp (by decide)]; exact hI.1, by rw [mupd_at], by rw [mupd_rp (by decide), mupd_rp (by decide)]; exact hI.2.2.1, fun k k0 k1 => ?_⟩
            rw [mupd_rp (by decide)]
            by_cases e : k = x3
            · rw [aD_at e, e, mupd_at]
            · rw [aD_ne e, mupd_ri (by omega)]; exact hI.2.2.2 k k0 (by omega)
          have f2 : FRC n σ (mupd (mupd (mupd σ 29 (4 * n + x3) (b (sk b L p) - 48)) 30 n (x3 + 1)) 25 2 (sk b L p + 1)) := FRC.tr ⟨fun k hk => by rw [mupd_ne _ (by omega), mupd_ne _ (by omega)], fun i hi => by rw [mupd_rp (by decide), mupd_ri (by omega)], fun c hc => ⟨by rw [mupd_ri (by omega), mupd_rp (by decide)], by rw [mupd_rp (by decide), mupd_rp (by decide)], by rw [mupd_rp (by decide), mupd_rp (by decide)]⟩⟩ FRC.p
          refine c_digit hB t2 (fun g => ?_) (fun g => ?_)
          · exact hC _ _ Q (t2.up hq2) i2.p (fun _ => rfl) (fun k => absurd g k) (fun σ' a c e => hQ σ' a ((f2.tr FRC.p).tr c) e)
          · exact hC _ _ Q (t2.up hq2) i2.p (fun k => absurd k g) (fun _ => rfl) (fun σ' a c e => hQ σ' a ((f2.tr FRC.p).tr c) e)
        · refine m_4to hB hT hI (Or.inr hc) (fun τ1 p1 t1 s1 f1 i1 => ?_)
          refine m_25 hB hn (by omega) hx t1 (fun z => absurd ⟨⟨by rw [s1]; exact hd1, by rw [s1]; exact hd2.1, by rw [s1]; exact hd2.2⟩, by rw [s1]; exact ht, by omega⟩ z) (fun _ _ _ => ?_)
          rw [s1]
          refine hM _ Q (((t1.up hq).w).up (by omega)) (INM.p (fun k k0 k1 => ?_)) (fun τ' a c e => hQ τ' a (((f1.tr FRM.p).tr ((FRM.w (by omega)).tr FRM.p)).tr c) e)
          by_cases e : k = x3
          · rw [aD_at e, e, mupd_at]
          · rw [aD_ne e, mupd_ri (by omega), mupd_rp (by decide)]
            exact i1 k k0 (by omega)
    · by_cases e3 : x3 = 0
      · subst e3
        exact l_end0 hB hn hp hS hd
      · by_cases hc : sk b L p < L ∧ 48 ≤ b (sk b L p) ∧ b (sk b L p) ≤ 57
        · exact l_endA hB hn (by omega) hp hS hc (Or.inr hd)
        · exact l_endB hB hn (by omega) hp hS hc
/-- both read one coat -/
theorem r_coat {b : Int → Int} {L n p : Int} (hB : BY b L) (hn : 0 ≤ n ∧ n < 4) (hp : 0 ≤ p ∧ p ≤ L) : ∃ (ok okc p' z h : Int) (d' : Int → Int), COUT b L ok okc p' z h d' ∧ (∀ (σ : Mem) (Q : Int → Mem → Prop), TC b L p σ → σ 28 0 = n → CRX b L n p' okc z h d' σ Q → HT GC M_X2_readCoat [mr 27, mr 25] σ Q) ∧ (∀ (τ : Mem) (Q : Int → Mem → Prop), TM b L p τ → CRY b L n p' ok z h d' τ Q → HT GM M_X9_readCoat [mr 0, mi (6 * n)] τ Q) := by
  obtain ⟨ok, okc, p', z, h, d', hO, hC, hM⟩ := l_coat hB hn 4 0 0 p (fun _ => 0) (by omega) (by omega) hp CSET.z
  refine ⟨ok, okc, p', z, h, d', hO, fun σ Q hT e hQ => ?_, fun τ Q hT hQ => ?_⟩
  · apply e_X2_readCoat_27_25
    apply e_X0_open_28
    rw [e]
    refine bf (by omega) ⟨hn, hn, ?_⟩
    have t1 : TC b L p (mupd (mupd σ 30 n 0) 31 n 0) := hT.fr (by rw [mupd_ne _ (by decide), mupd_ne _ (by decide)]) (by rw [mupd_ne _ (by decide), mupd_ne _ (by decide)])
    have i1 : INC n 0 (fun _ => 0) (mupd (mupd σ 30 n 0) 31 n 0) := ⟨by rw [mupd_rp (by decide), mupd_rp (by decide)]; exact e, by rw [mupd_rp (by decide), mupd_at], by rw [mupd_at], fun k a c => by omega⟩
    have f1 : FRC n σ (mupd (mupd σ 30 n 0) 31 n 0) := ⟨fun k hk => by rw [mupd_ne _ (by omega), mupd_ne _ (by omega)], fun i _ => by rw [mupd_rp (by decide), mupd_rp (by decide)], fun c hc => ⟨by rw [mupd_rp (by decide), mupd_ri (by omega)], by rw [mupd_ri (by omega), mupd_rp (by decide)], by rw [mupd_rp (by decide), mupd_rp (by decide)]⟩⟩
    refine c_digit hB t1 (fun g => ?_) (fun g => ?_)
    · exact hC _ _ Q (t1.up (sk_ok hp)) i1.p (fun _ => rfl) (fun k => absurd g k) (fun σ' a c e => hQ σ' a ((f1.tr FRC.p).tr c) e)
    · exact hC _ _ Q (t1.up (sk_ok hp)) i1.p (fun k => absurd k g) (fun _ => rfl) (fun σ' a c e => hQ σ' a ((f1.tr FRC.p).tr c) e)
  · apply e_X9_readCoat_0
    exact hM τ Q hT (fun k a c => by omega) hQ
