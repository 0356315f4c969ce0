/-! acts, in step: put, take, search, give -/
def DSIM (M : MI) (as : List MV) (M' : MI) (as' : List MV) (σ τ : Mem) (R : Int → Mem → Mem → Prop) : Prop := ∃ (r : Int) (σ' τ' : Mem), HT GC M as σ (fun a s => a = r ∧ s = σ') ∧ HT GM M' as' τ (fun a s => a = r ∧ s = τ') ∧ R r σ' τ'
/-- the relation but for the tape: while the acts of a day are done -/
def RW (σ τ : Mem) : Prop := VAL τ ∧ EQn σ τ ∧ IM σ τ ∧ True ∧ SH σ τ
theorem RR.w {σ τ : Mem} (h : RR σ τ) : RW σ τ := ⟨h.1, h.2.1, h.2.2.1, trivial, h.2.2.2.2⟩
theorem RW.nc {σ τ : Mem} (hR : RW σ τ) : (0 ≤ τ 0 4 ∧ τ 0 4 ≤ 4) ∧ σ 3 0 = τ 0 4 := ⟨hR.1.1, hR.2.1.1⟩
theorem RW.nt {σ τ : Mem} (hR : RW σ τ) : (0 ≤ τ 0 9 ∧ τ 0 9 ≤ 8) ∧ σ 8 0 = τ 0 9 := ⟨hR.1.2.1, hR.2.1.2.1⟩
theorem RW.things {σ σ' τ τ' : Mem} (hR : RW σ τ) (s1 : ∀ k, k ≤ 8 ∨ 13 ≤ k → σ' k = σ k) (t1 : ∀ k, k ≤ 4 ∨ 9 ≤ k → τ' k = τ k) (h : ∀ t, 0 ≤ t → t < τ 0 9 → TH τ' t ∧ EQT 9 10 11 12 σ' τ' t) : RW σ' τ' := by
  have hV := hR.1
  have hE := hR.2.1
  have t0 := t1 0 (by decide)
  refine ⟨⟨?_, ?_, ?_, ?_, ?_, ?_, ?_⟩, ⟨?_, ?_, ?_, ?_, ?_, ?_, ?_⟩, ?_, ?_, ?_⟩
  · rw [t0]; exact hV.1
  · rw [t0]; exact hV.2.1
  · rw [t0]; exact fun c c1 c2 => (hV.2.2.1 c c1 c2).fr (fun k k1 k2 => t1 k (by omega))
  · rw [t0]; exact fun t a b => (h t a b).1
  · rw [t1 9 (by omega)]; exact hV.2.2.2.2.1
  · rw [t0]; exact hV.2.2.2.2.2.1
  · rw [t0]; exact hV.2.2.2.2.2.2
  · rw [t0, s1 3 (by omega)]; exact hE.1
  · rw [t0, s1 8 (by omega)]; exact hE.2.1
  · rw [t0, s1 1 (by omega)]; exact hE.2.2.1
  · rw [t0, s1 1 (by omega)]; exact hE.2.2.2.1
  · rw [t0]; exact fun c c1 c2 => (hE.2.2.2.2.1 c c1 c2).fr ⟨s1 4 (by omega), s1 5 (by omega), s1 6 (by omega), s1 7 (by omega)⟩ (fun k k1 k2 => t1 k (by omega))
  · rw [t0]; exact fun t a b => (h t a b).2
  · rw [t1 9 (by omega), s1 2 (by omega)]; exact hE.2.2.2.2.2.2
  · exact hR.2.2.1.fr (fun k k1 k2 => s1 k (by omega)) (by rw [s1 0 (by omega)]) (t1 17 (by omega)) (by rw [t0])
  · trivial
  · exact hR.2.2.2.2.fr (fun k k1 k2 => s1 k (by omega)) (fun k k1 k2 => t1 k (by omega))
theorem RW.coats {σ σ' τ τ' : Mem} (hR : RW σ τ) (s1 : ∀ k, k ≤ 2 ∨ 8 ≤ k → σ' k = σ k) (t1 : ∀ k, k = 0 ∨ 5 ≤ k → τ' k = τ k) (s3 : σ' 3 0 = σ 3 0) (h : ∀ c, 0 ≤ c → c < τ 0 4 → CO τ' c ∧ EQC 4 5 6 7 σ' τ' c) : RW σ' τ' := by
  have hV := hR.1
  have hE := hR.2.1
  have t0 := t1 0 (by decide)
  refine ⟨⟨?_, ?_, ?_, ?_, ?_, ?_, ?_⟩, ⟨?_, ?_, ?_, ?_, ?_, ?_, ?_⟩, ?_, ?_, ?_⟩
  · rw [t0]; exact hV.1
  · rw [t0]; exact hV.2.1
  · rw [t0]; exact fun c a b => (h c a b).1
  · rw [t0]; exact fun t a b => (hV.2.2.2.1 t a b).fr (by rw [t0]) (fun k k1 k2 => by rw [t1 k (by omega)])
  · rw [t1 9 (by omega)]; exact hV.2.2.2.2.1
  · rw [t0]; exact hV.2.2.2.2.2.1
  · rw [t0]; exact hV.2.2.2.2.2.2
  · rw [t0, s3]; exact hE.1
  · rw [t0, s1 8 (by omega)]; exact hE.2.1
  · rw [t0, s1 1 (by omega)]; exact hE.2.2.1
  · rw [t0, s1 1 (by omega)]; exact hE.2.2.2.1
  · rw [t0]; exact fun c a b => (h c a b).2
  · rw [t0]
    intro t a b
    have hq := hE.2.2.2.2.2.1 t a b
    unfold EQT at *
    rw [s1 9 (by omega), s1 10 (by omega), s1 11 (by omega), s1 12 (by omega), t1 5 (by omega), t1 6 (by omega), t1 7 (by omega), t1 8 (by omega)]
    exact hq
  · rw [t1 9 (by omega), s1 2 (by omega)]; exact hE.2.2.2.2.2.2
  · exact hR.2.2.1.fr (fun k k1 k2 => s1 k (by omega)) (by rw [s1 0 (by omega)]) (t1 17 (by omega)) (by rw [t0])
  · trivial
  · exact hR.2.2.2.2.fr (fun k k1 k2 => s1 k (by omega)) (fun k k1 k2 => t1 k (by omega))
/-- what an act leaves as it was -/
def ACT (σ τ σ' τ' : Mem) : Prop := RW σ' τ' ∧ (∀ k, 25 ≤ k → σ' k = σ k) ∧ (∀ k, 10 ≤ k → τ' k = τ k) ∧ (∀ j, j ≠ 11 → j ≠ 12 → τ' 0 j = τ 0 j)
theorem ACT.rf {σ τ : Mem} (h : RW σ τ) : ACT σ τ σ τ := ⟨h, fun _ _ => rfl, fun _ _ => rfl, fun _ _ _ => rfl⟩
theorem ACT.tr {σ τ σ1 τ1 σ2 τ2 : Mem} (h : ACT σ τ σ1 τ1) (h2 : ACT σ1 τ1 σ2 τ2) : ACT σ τ σ2 τ2 :=
  ⟨h2.1, fun k a => (h2.2.1 k a).trans (h.2.1 k a), fun k a => (h2.2.2.1 k a).trans (h.2.2.1 k a), fun j a b => (h2.2.2.2 j a b).trans (h.2.2.2 j a b)⟩
theorem ACT.rr {σ τ σ' τ' : Mem} (h : ACT σ τ σ' τ') (hR : RR σ τ) : RR σ' τ' :=
  ⟨h.1.1, h.1.2.1, h.1.2.2.1, hR.2.2.2.1.fr (by rw [h.2.1 25 (by decide)]) (h.2.1 26 (by decide)) (h.2.2.2 14 (by decide) (by decide)) (h.2.2.1 10 (by decide)), h.1.2.2.2.2⟩
theorem DSIM.sim {M M' : MI} {as : List MV} {σ τ : Mem} {R : Mem → Mem → Prop} (h : DSIM M as M' as σ τ (fun _ => R)) : SIM M M' as σ τ R := by
  obtain ⟨r, σ', τ', h1, h2, h3⟩ := h
  exact ⟨r, (· = σ'), (· = τ'), h1, h2, fun _ _ _ _ a b => by rw [a, b]; exact h3⟩
theorem DSIM.same {M M' : MI} {as as' : List MV} {σ τ : Mem} {R : Int → Mem → Mem → Prop} (r : Int) (h1 : HT GC M as σ (fun a s => a = r ∧ s = σ)) (h2 : HT GM M' as' τ (fun a s => a = r ∧ s = τ)) (h3 : R r σ τ) : DSIM M as M' as' σ τ R := ⟨r, σ, τ, h1, h2, h3⟩
/-- who wears a coat -/
def wr (τ : Mem) (c : Int) : Int := τ 4 (4 * c + τ 2 c)
theorem wr_in {τ : Mem} {c : Int} (h : CO τ c) : 0 ≤ wr τ c ∧ wr τ c < 8 := h.2.2.2.1 _ h.2.1.1 h.2.1.2
theorem RR.co {σ τ : Mem} (hR : RR σ τ) {c : Int} (hc : 0 ≤ c ∧ c < τ 0 4) : CO τ c ∧ EQC 4 5 6 7 σ τ c := ⟨hR.1.2.2.1 c hc.1 hc.2, hR.2.1.2.2.2.2.1 c hc.1 hc.2⟩
theorem RW.co {σ τ : Mem} (hR : RW σ τ) {c : Int} (hc : 0 ≤ c ∧ c < τ 0 4) : CO τ c ∧ EQC 4 5 6 7 σ τ c := ⟨hR.1.2.2.1 c hc.1 hc.2, hR.2.1.2.2.2.2.1 c hc.1 hc.2⟩
theorem RR.th {σ τ : Mem} (hR : RR σ τ) {t : Int} (ht : 0 ≤ t ∧ t < τ 0 9) : TH τ t ∧ EQT 9 10 11 12 σ τ t := ⟨hR.1.2.2.2.1 t ht.1 ht.2, hR.2.1.2.2.2.2.2.1 t ht.1 ht.2⟩
theorem RW.th {σ τ : Mem} (hR : RW σ τ) {t : Int} (ht : 0 ≤ t ∧ t < τ 0 9) : TH τ t ∧ EQT 9 10 11 12 σ τ t := ⟨hR.1.2.2.2.1 t ht.1 ht.2, hR.2.1.2.2.2.2.2.1 t ht.1 ht.2⟩
theorem c_wr {σ τ σ1 : Mem} {c : Int} {Q : Int → Mem → Prop} (hR : RW σ τ) (hc : 0 ≤ c ∧ c < τ 0 4) (h4 : σ1 4 = σ 4) (h6 : σ1 6 = σ 6) (hQ : Q (wr τ c) σ1) : HT GC M_X0_wearer [mr 3, mi c] σ1 Q := by
  have h := hR.co hc
  have hn := hR.nc.1
  have hz := h.1.1
  have hu := h.1.2.1
  refine c_wearerC (by omega) (by rw [h6, h.2.2.1]; omega) ?_
  rw [h4, h6, h.2.2.1, h.2.2.2.2 _ hu.1 hu.2]
  exact hQ
theorem c_wrM {τ τ1 : Mem} {c : Int} {Q : Int → Mem → Prop} (hC : CO τ c) (hc : 0 ≤ c ∧ c < 4) (h1 : ∀ k, 1 ≤ k → k ≤ 4 → τ1 k = τ k) (hQ : Q (wr τ c) τ1) : HT GM M_X9_wearer [mr 0, mi c, mi 0] τ1 Q := by
  refine c_wearerM0 hc (hC.fr h1) ?_
  rw [h1 4 (by decide) (by decide), h1 2 (by decide) (by decide)]
  exact hQ
def rdC (σ : Mem) (t w : Int) : Mem := if σ 9 t = 2 then mupd σ 11 t (jor (σ 11 t) (jshl 1 w)) else σ
theorem c_readBy {σ : Mem} {t w : Int} {Q : Int → Mem → Prop} (ht : 0 ≤ t ∧ t < 8) (hQ : Q 0 (rdC σ t w)) : HT GC M_X6_readBy [mr 8, mi t, mi w] σ Q := by
  apply e_X6_readBy_8
  unfold rdC at hQ
  exact ⟨ht, fun z => by rw [if_neg z] at hQ; exact hQ, fun z => ⟨ht, ht, by rw [if_pos z] at hQ; exact hQ⟩⟩
def cmM (τ : Mem) (t c : Int) : Mem := mupd (mupd τ 6 t (10 + c)) 7 t (jor (τ 7 t) (if τ 5 t = 2 then jshl 1 (wr τ c) else 0))
theorem c_come {τ : Mem} {t c : Int} {Q : Int → Mem → Prop} (ht : 0 ≤ t ∧ t < 8) (hc : 0 ≤ c ∧ c < 4) (hC : CO τ c) (hQ : Q 0 (cmM τ t c)) : HT GM M_X9_come [mr 0, mi t, mi c] τ Q := by
  apply e_X9_come_0
  rw [jadd_eq (by omega) (by omega)]
  unfold cmM at hQ
  refine ⟨ht, ht, ht, fun z => ⟨ht, by rw [if_neg z] at hQ; exact hQ⟩, fun z => ?_⟩
  rw [if_pos z] at hQ
  exact c_wrM hC hc (fun k a b => mupd_ne _ (by omega)) ⟨ht, hQ⟩
/-- one thing has changed -/
theorem ACT.thing {σ σ' τ τ' : Mem} (t : Int) (hR : RW σ τ) (s1 : ∀ k, k ≤ 8 ∨ 13 ≤ k → σ' k = σ k) (t1 : ∀ k, k ≤ 4 ∨ 9 ≤ k → τ' k = τ k) (so : ∀ i k, i ≠ t → 9 ≤ k → k ≤ 12 → σ' k i = σ k i) (to_ : ∀ i k, i ≠ t → 5 ≤ k → k ≤ 8 → τ' k i = τ k i) (h : TH τ' t ∧ EQT 9 10 11 12 σ' τ' t) : ACT σ τ σ' τ' := by
  refine ⟨hR.things s1 t1 (fun i a b => ?_), fun k a => s1 k (by omega), fun k a => t1 k (by omega), fun j _ _ => by rw [t1 0 (by decide)]⟩
  by_cases e : i = t
  · subst e; exact h
  · have hi := hR.th ⟨a, b⟩
    refine ⟨hi.1.fr (by rw [t1 0 (by decide)]) (fun k k1 k2 => to_ i k e k1 k2), ?_⟩
    have hq := hi.2
    unfold EQT at *
    rw [so i 9 e (by decide) (by decide), so i 10 e (by decide) (by decide), so i 11 e (by decide) (by decide), so i 12 e (by decide) (by decide), to_ i 5 e (by decide) (by decide), to_ i 6 e (by decide) (by decide), to_ i 7 e (by decide) (by decide), to_ i 8 e (by decide) (by decide)]
    exact hq
theorem come_act {σ τ : Mem} {t c : Int} (hR : RW σ τ) (ht : 0 ≤ t ∧ t < τ 0 9) (hc : 0 ≤ c ∧ c < τ 0 4) : ACT σ τ (rdC (mupd σ 10 t (10 + c)) t (wr τ c)) (cmM τ t c) := by
  have hT := hR.th ht
  have hw := wr_in (hR.co hc).1
  have hk : (mupd σ 10 t (10 + c)) 9 t = τ 5 t := by rw [mupd_rp (by decide)]; exact hT.2.1
  have h11 : (mupd σ 10 t (10 + c)) 11 t = τ 7 t := by rw [mupd_rp (by decide)]; exact hT.2.2.2.1
  unfold rdC cmM
  rw [hk, h11]
  by_cases h2 : τ 5 t = 2
  · rw [if_pos h2, if_pos h2]
    refine ACT.thing t hR (fun k hk => by rw [mupd_ne _ (by omega), mupd_ne _ (by omega)]) (fun k hk => by rw [mupd_ne _ (by omega), mupd_ne _ (by omega)]) (fun i k e k1 k2 => by simp [mupd, e]) (fun i k e k1 k2 => by simp [mupd, e]) ⟨?_, ?_⟩
    · have hb := jor_256 hT.1.2.2.1 (shl1_256 hw)
      have h1 := hT.1
      unfold TH at *
      simp only [mupd_rp (show (5 : Nat) ≠ 7 by decide), mupd_rp (show (5 : Nat) ≠ 6 by decide), mupd_rp (show (0 : Nat) ≠ 7 by decide), mupd_rp (show (0 : Nat) ≠ 6 by decide), mupd_rp (show (6 : Nat) ≠ 7 by decide), mupd_rp (show (8 : Nat) ≠ 7 by decide), mupd_rp (show (8 : Nat) ≠ 6 by decide), mupd_at]
      exact ⟨h1.1, Or.inr (Or.inl (by omega)), hb, h1.2.2.2⟩
    · have h1 := hT.2
      unfold EQT at *
      simp only [mupd_rp (show (5 : Nat) ≠ 7 by decide), mupd_rp (show (5 : Nat) ≠ 6 by decide), mupd_rp (show (9 : Nat) ≠ 11 by decide), mupd_rp (show (9 : Nat) ≠ 10 by decide), mupd_rp (show (6 : Nat) ≠ 7 by decide), mupd_rp (show (8 : Nat) ≠ 7 by decide), mupd_rp (show (8 : Nat) ≠ 6 by decide), mupd_rp (show (10 : Nat) ≠ 11 by decide), mupd_rp (show (12 : Nat) ≠ 11 by decide), mupd_rp (show (12 : Nat) ≠ 10 by decide), mupd_at]
      exact ⟨h1.1, trivial, trivial, h1.2.2.2⟩
  · rw [if_neg h2, if_neg h2, jor_0 ⟨by have := hT.1.2.2.1; omega, by have := hT.1.2.2.1; omega⟩]
    refine ACT.thing t hR (fun k hk => by rw [mupd_ne _ (by omega)]) (fun k hk => by rw [mupd_ne _ (by omega), mupd_ne _ (by omega)]) (fun i k e k1 k2 => by simp [mupd, e]) (fun i k e k1 k2 => by simp [mupd, e]) ⟨?_, ?_⟩
    · have h1 := hT.1
      unfold TH at *
      simp only [mupd_rp (show (5 : Nat) ≠ 7 by decide), mupd_rp (show (5 : Nat) ≠ 6 by decide), mupd_rp (show (0 : Nat) ≠ 7 by decide), mupd_rp (show (0 : Nat) ≠ 6 by decide), mupd_rp (show (6 : Nat) ≠ 7 by decide), mupd_rp (show (8 : Nat) ≠ 7 by decide), mupd_rp (show (8 : Nat) ≠ 6 by decide), mupd_at]
      exact ⟨h1.1, Or.inr (Or.inl (by omega)), h1.2.2.1, h1.2.2.2⟩
    · have h1 := hT.2
      unfold EQT at *
      simp only [mupd_rp (show (5 : Nat) ≠ 7 by decide), mupd_rp (show (5 : Nat) ≠ 6 by decide), mupd_rp (show (9 : Nat) ≠ 10 by decide), mupd_rp (show (11 : Nat) ≠ 10 by decide), mupd_rp (show (6 : Nat) ≠ 7 by decide), mupd_rp (show (8 : Nat) ≠ 7 by decide), mupd_rp (show (8 : Nat) ≠ 6 by decide), mupd_rp (show (12 : Nat) ≠ 10 by decide), mupd_at]
      exact ⟨h1.1, trivial, h1.2.2.1, h1.2.2.2⟩
theorem act_put {σ τ : Mem} {t c : Int} (hR : RW σ τ) (ht : 0 ≤ t ∧ t < τ 0 9) (hc : 0 ≤ c ∧ c < τ 0 4) : DSIM M_X4_putIn [mr 1, mi t, mi c] M_X9_put [mr 0, mi t, mi c] σ τ (fun _ => ACT σ τ) := by
  have hT := hR.th ht
  have hn := hR.nc.1
  have hm := hR.nt.1
  have hC := (hR.co hc).1
  have hc4 : 0 ≤ c ∧ c < 4 := by omega
  have ht8 : 0 ≤ t ∧ t < 8 := by omega
  by_cases h : τ 6 t = wr τ c
  · refine ⟨wr τ c, _, _, ?_, ?_, come_act hR ht hc⟩
    · apply e_X4_putIn_1
      refine c_wr hR hc rfl rfl ⟨ht8, fun _ => ⟨ht8, ?_⟩, fun z => absurd (hT.2.2.1.trans h) z⟩
      rw [jadd_eq (by omega) (by omega)]
      exact c_readBy ht8 ⟨rfl, rfl⟩
    · apply e_X9_put_0
      refine c_isThing hm (fun _ => br1 (c_isCoat hn (fun _ => bn1 ?_) (fun z => absurd hc z))) (fun z => absurd ht z)
      exact c_wrM hC hc4 (fun _ _ _ => rfl) ⟨ht8, fun _ => c_come ht8 hc4 hC ⟨rfl, rfl⟩, fun z => absurd h z⟩
  · refine DSIM.same (-2) ?_ ?_ (ACT.rf hR)
    · apply e_X4_putIn_1
      exact c_wr hR hc rfl rfl ⟨ht8, fun z => absurd (hT.2.2.1.symm.trans z) h, fun _ => ⟨rfl, rfl⟩⟩
    · apply e_X9_put_0
      refine c_isThing hm (fun _ => br1 (c_isCoat hn (fun _ => bn1 ?_) (fun z => absurd hc z))) (fun z => absurd ht z)
      exact c_wrM hC hc4 (fun _ _ _ => rfl) ⟨ht8, fun z => absurd z h, fun _ => ⟨rfl, rfl⟩⟩
theorem sim_put {t c : Int} {σ τ : Mem} (hR : RR σ τ) : SIM M_X8_put M_X9_put [mr 0, mi t, mi c] σ τ RR := by
  obtain ⟨h4, e4⟩ := hR.nc
  obtain ⟨h8, e8⟩ := hR.nt
  by_cases ht : 0 ≤ t ∧ t < τ 0 9
  · by_cases hc : 0 ≤ c ∧ c < τ 0 4
    · obtain ⟨r, σ', τ', h1, h2, h3⟩ := act_put hR.w ht hc
      refine ⟨r, (· = σ'), (· = τ'), ?_, h2, fun _ _ _ _ a b => by rw [a, b]; exact h3.rr hR⟩
      apply e_X8_put_0
      exact c_hasT (fun _ => br1 (c_hasC (fun _ => br1 h1) (fun z => absurd (by rw [e4]; exact hc) z))) (fun z => absurd (by rw [e8]; exact ht) z)
    · refine sim_same hR (-1) ?_ ?_
      · apply e_X8_put_0
        exact c_hasT (fun _ => br1 (c_hasC (fun z => absurd (by rw [e4] at z; exact z) hc) (fun _ => br0 ⟨rfl, rfl⟩))) (fun z => absurd (by rw [e8]; exact ht) z)
      · apply e_X9_put_0
        exact c_isThing h8 (fun _ => br1 (c_isCoat h4 (fun z => absurd z hc) (fun _ => bn0 ⟨rfl, rfl⟩))) (fun z => absurd ht z)
  · refine sim_same hR (-1) ?_ ?_
    · apply e_X8_put_0
      exact c_hasT (fun z => absurd (by rw [e8] at z; exact z) ht) (fun _ => br0 ⟨rfl, rfl⟩)
    · apply e_X9_put_0
      exact c_isThing h8 (fun z => absurd z ht) (fun _ => br0 ⟨rfl, rfl⟩)
/-- a thing is in hands now -/
theorem hand_act {σ τ : Mem} {t b : Int} (hR : RW σ τ) (ht : 0 ≤ t ∧ t < τ 0 9) (hb : 0 ≤ b ∧ b < 8) : ACT σ τ (mupd σ 10 t b) (mupd τ 6 t b) := by
  have hT := hR.th ht
  refine ACT.thing t hR (fun k hk => by rw [mupd_ne _ (by omega)]) (fun k hk => by rw [mupd_ne _ (by omega)]) (fun i k e k1 k2 => by simp [mupd, e]) (fun i k e k1 k2 => by simp [mupd, e]) ⟨?_, ?_⟩
  · have h1 := hT.1
    unfold TH at *
    simp only [mupd_rp (show (5 : Nat) ≠ 6 by decide), mupd_rp (show (0 : Nat) ≠ 6 by decide), mupd_rp (show (7 : Nat) ≠ 6 by decide), mupd_rp (show (8 : Nat) ≠ 6 by decide), mupd_at]
    exact ⟨h1.1, Or.inl hb, h1.2.2.1, h1.2.2.2⟩
  · have h1 := hT.2
    unfold EQT at *
    simp only [mupd_rp (show (5 : Nat) ≠ 6 by decide), mupd_rp (show (7 : Nat) ≠ 6 by decide), mupd_rp (show (8 : Nat) ≠ 6 by decide), mupd_rp (show (9 : Nat) ≠ 10 by decide), mupd_rp (show (11 : Nat) ≠ 10 by decide), mupd_rp (show (12 : Nat) ≠ 10 by decide), mupd_at]
    exact ⟨h1.1, trivial, h1.2.2.1, h1.2.2.2⟩
theorem act_take {σ τ : Mem} {t c : Int} (hR : RW σ τ) (ht : 0 ≤ t ∧ t < τ 0 9) (hc : 0 ≤ c ∧ c < τ 0 4) : DSIM M_X4_takeOut [mr 1, mi t, mi c] M_X9_take [mr 0, mi t, mi c] σ τ (fun _ => ACT σ τ) := by
  have hT := hR.th ht
  have hn := hR.nc.1
  have hm := hR.nt.1
  have hC := (hR.co hc).1
  have hc4 : 0 ≤ c ∧ c < 4 := by omega
  have ht8 : 0 ≤ t ∧ t < 8 := by omega
  have ej : jadd 10 c = 10 + c := jadd_eq (by omega) (by omega)
  by_cases h : τ 6 t = 10 + c
  · refine ⟨wr τ c, _, _, ?_, ?_, hand_act hR ht (wr_in hC)⟩
    · apply e_X4_takeOut_1
      rw [ej]
      exact ⟨ht8, fun _ => c_wr hR hc rfl rfl ⟨ht8, ht8, rfl, rfl⟩, fun z => absurd (hT.2.2.1.trans h) z⟩
    · apply e_X9_take_0
      rw [ej]
      exact c_isThing hm (fun _ => br1 (c_isCoat hn (fun _ => bn1 ⟨ht8, fun _ => c_wrM hC hc4 (fun _ _ _ => rfl) ⟨ht8, ht8, rfl, rfl⟩, fun z => absurd h z⟩) (fun z => absurd hc z))) (fun z => absurd ht z)
  · refine DSIM.same (-2) ?_ ?_ (ACT.rf hR)
    · apply e_X4_takeOut_1
      rw [ej]
      exact ⟨ht8, fun z => absurd (hT.2.2.1.symm.trans z) h, fun _ => ⟨rfl, rfl⟩⟩
    · apply e_X9_take_0
      rw [ej]
      exact c_isThing hm (fun _ => br1 (c_isCoat hn (fun _ => bn1 ⟨ht8, fun z => absurd z h, fun _ => ⟨rfl, rfl⟩⟩) (fun z => absurd hc z))) (fun z => absurd ht z)
theorem sim_take {t c : Int} {σ τ : Mem} (hR : RR σ τ) : SIM M_X8_take M_X9_take [mr 0, mi t, mi c] σ τ RR := by
  obtain ⟨h4, e4⟩ := hR.nc
  obtain ⟨h8, e8⟩ := hR.nt
  by_cases ht : 0 ≤ t ∧ t < τ 0 9
  · by_cases hc : 0 ≤ c ∧ c < τ 0 4
    · obtain ⟨r, σ', τ', h1, h2, h3⟩ := act_take hR.w ht hc
      refine ⟨r, (· = σ'), (· = τ'), ?_, h2, fun _ _ _ _ a b => by rw [a, b]; exact h3.rr hR⟩
      apply e_X8_take_0
      exact c_hasT (fun _ => br1 (c_hasC (fun _ => br1 h1) (fun z => absurd (by rw [e4]; exact hc) z))) (fun z => absurd (by rw [e8]; exact ht) z)
    · refine sim_same hR (-1) ?_ ?_
      · apply e_X8_take_0
        exact c_hasT (fun _ => br1 (c_hasC (fun z => absurd (by rw [e4] at z; exact z) hc) (fun _ => br0 ⟨rfl, rfl⟩))) (fun z => absurd (by rw [e8]; exact ht) z)
      · apply e_X9_take_0
        exact c_isThing h8 (fun _ => br1 (c_isCoat h4 (fun z => absurd z hc) (fun _ => bn0 ⟨rfl, rfl⟩))) (fun z => absurd ht z)
  · refine sim_same hR (-1) ?_ ?_
    · apply e_X8_take_0
      exact c_hasT (fun z => absurd (by rw [e8] at z; exact z) ht) (fun _ => br0 ⟨rfl, rfl⟩)
    · apply e_X9_take_0
      exact c_isThing h8 (fun z => absurd z ht) (fun _ => br0 ⟨rfl, rfl⟩)
/-- a search, in step -/
theorem l_search {c : Int} : ∀ (n k : Nat) (σ τ : Mem) (x : Int), RW σ τ → (0 ≤ c ∧ c < τ 0 4) → ((k : Int) + n = τ 0 9) → (0 ≤ x ∧ x ≤ k) → ∃ (r : Int) (σ' τ' : Mem), WP GC M_X4_searchLining 4 [some (mr 1), some (mi c), some (mi x), some (mi (k : Int))] [] σ (fun a s => a = r ∧ s = σ') ∧ WP GM M_X9_search 14 [some (mr 0), some (mi c), some (mi x), some (mi (k : Int))] [] τ (fun a s => a = r ∧ s = τ') ∧ ACT σ τ σ' τ' ∧ 0 ≤ r
  | 0, k, σ, τ, x, hR, hc, hk, hx => by
    obtain ⟨h8, e8⟩ := hR.nt
    exact ⟨x, σ, τ, b_X4_searchLining_1_4 _ _ _ ⟨fun _ => ⟨rfl, rfl⟩, fun z => absurd (by omega) z⟩, b_X9_search_0_14 _ _ _ ⟨fun _ => ⟨rfl, rfl⟩, fun z => absurd (by omega) z⟩, ACT.rf hR, hx.1⟩
  | n + 1, k, σ, τ, x, hR, hc, hk, hx => by
    obtain ⟨h4, e4⟩ := hR.nc
    obtain ⟨h8, e8⟩ := hR.nt
    have ht : 0 ≤ (k : Int) ∧ (k : Int) < τ 0 9 := by omega
    have ht8 : 0 ≤ (k : Int) ∧ (k : Int) < 8 := by omega
    have hT := hR.th ht
    have hc4 : 0 ≤ c ∧ c < 4 := by omega
    have ek : ((k + 1 : Nat) : Int) = (k : Int) + 1 := by omega
    by_cases h : τ 6 k = 20 + c
    · have hA := come_act hR ht hc
      have e0 : ∀ j, (cmM τ k c) 0 j = τ 0 j := fun j => by unfold cmM; rw [mupd_rp (by decide), mupd_rp (by decide)]
      obtain ⟨r, σ', τ', h1, h2, h3, h0⟩ := l_search n (k + 1) _ _ (x + 1) hA.1 (by rw [e0]; exact hc) (by rw [e0]; omega) (by omega)
      rw [ek] at h1 h2
      refine ⟨r, σ', τ', ?_, ?_, hA.tr h3, h0⟩
      · apply b_X4_searchLining_1_4
        rw [jadd_eq (by omega) (by omega), jadd_eq (by omega) (by omega), jadd_eq (by omega) (by omega)]
        refine ⟨fun z => absurd z (by omega), fun _ => ⟨ht8, fun z => absurd (hT.2.2.1.trans h) z, fun _ => ⟨ht8, ?_⟩⟩⟩
        refine c_wr hR hc (mupd_ne _ (by decide)) (mupd_ne _ (by decide)) (c_readBy ht8 ?_)
        apply b_X4_searchLining_1_63
        rw [jadd_eq (by omega) (by omega)]
        exact h1
      · apply b_X9_search_0_14
        rw [jadd_eq (by omega) (by omega), jadd_eq (by omega) (by omega)]
        refine ⟨fun z => absurd z (by omega), fun _ => ⟨ht8, fun z => absurd h z, fun _ => c_come ht8 hc4 (hR.co hc).1 ?_⟩⟩
        apply b_X9_search_0_44
        rw [jadd_eq (by omega) (by omega)]
        exact h2
    · obtain ⟨r, σ', τ', h1, h2, h3, h0⟩ := l_search n (k + 1) σ τ x hR hc (by omega) (by omega)
      rw [ek] at h1 h2
      refine ⟨r, σ', τ', ?_, ?_, h3, h0⟩
      · apply b_X4_searchLining_1_4
        rw [jadd_eq (by omega) (by omega)]
        refine ⟨fun z => absurd z (by omega), fun _ => ⟨ht8, fun _ => ?_, fun z => absurd (hT.2.2.1.symm.trans z) h⟩⟩
        apply b_X4_searchLining_1_63
        rw [jadd_eq (by omega) (by omega)]
        exact h1
      · apply b_X9_search_0_14
        rw [jadd_eq (by omega) (by omega)]
        refine ⟨fun z => absurd z (by omega), fun _ => ⟨ht8, fun _ => ?_, fun z => absurd z h⟩⟩
        apply b_X9_search_0_44
        rw [jadd_eq (by omega) (by omega)]
        exact h2
theorem act_search {σ τ : Mem} {c : Int} (hR : RW σ τ) (hc : 0 ≤ c ∧ c < τ 0 4) : DSIM M_X4_searchLining [mr 1, mi c] M_X9_search [mr 0, mi c] σ τ (fun r σ' τ' => ACT σ τ σ' τ' ∧ 0 ≤ r) := by
  obtain ⟨h8, e8⟩ := hR.nt
  obtain ⟨m, hm⟩ := nn_of h8.1
  obtain ⟨r, σ', τ', h1, h2, h3, h0⟩ := l_search (c := c) m 0 σ τ 0 hR hc (by omega) (by omega)
  refine ⟨r, σ', τ', e_X4_searchLining_1 _ h1, ?_, h3, h0⟩
  apply e_X9_search_0
  exact c_isCoat hR.nc.1 (fun _ => bn1 h2) (fun z => absurd hc z)
theorem sim_search {c : Int} {σ τ : Mem} (hR : RR σ τ) : SIM M_X8_search M_X9_search [mr 0, mi c] σ τ RR := by
  obtain ⟨h4, e4⟩ := hR.nc
  by_cases hc : 0 ≤ c ∧ c < τ 0 4
  · obtain ⟨r, σ', τ', h1, h2, h3, -⟩ := act_search hR.w hc
    refine ⟨r, (· = σ'), (· = τ'), ?_, h2, fun _ _ _ _ a b => by rw [a, b]; exact h3.rr hR⟩
    apply e_X8_search_0
    exact c_hasC (fun _ => br1 h1) (fun z => absurd (by rw [e4]; exact hc) z)
  · refine sim_same hR (-1) ?_ ?_
    · apply e_X8_search_0
      exact c_hasC (fun z => absurd (by rw [e4] at z; exact z) hc) (fun _ => br0 ⟨rfl, rfl⟩)
    · apply e_X9_search_0
      exact c_isCoat h4 (fun z => absurd z hc) (fun _ => bn0 ⟨rfl, rfl⟩)
/-- does a boy wear any -/
def anyW (τ : Mem) (b : Int) : Prop := ∃ c, (0 ≤ c ∧ c < τ 0 4) ∧ wr τ c = b
theorem c_anyOn {σ τ : Mem} {b : Int} {Q : Int → Mem → Prop} (hR : RW σ τ) (h1 : anyW τ b → Q 1 σ) (h0 : ¬ anyW τ b → Q 0 σ) : HT GC M_X0_anyOn [mr 3, mi b] σ Q := by
  obtain ⟨h4, e4⟩ := hR.nc
  have key : ∀ (n k : Nat), (k : Int) + n = τ 0 4 → (∀ c, 0 ≤ c → c < (k : Int) → ¬ wr τ c = b) → WP GC M_X0_anyOn 2 [some (mr 3), some (mi b), some (mi (k : Int))] [] σ Q := by
    intro n
    induction n with
    | zero =>
      intro k hk hp
      exact b_X0_anyOn_3_2 _ _ ⟨fun _ => h0 (fun ⟨c, hc, e⟩ => hp c hc.1 (by omega) e), fun z => absurd (by omega) z⟩
    | succ n ih =>
      intro k hk hp
      apply b_X0_anyOn_3_2
      rw [jadd_eq (by omega) (by omega)]
      have hc : 0 ≤ (k : Int) ∧ (k : Int) < τ 0 4 := by omega
      refine ⟨fun z => absurd z (by omega), fun _ => c_wr hR hc rfl rfl ⟨fun z => ?_, fun z => h1 ⟨k, hc, z⟩⟩⟩
      refine ih (k + 1) (by omega) (fun c a b => ?_)
      by_cases e : c = k
      · rw [e]; exact z
      · exact hp c a (by omega)
  apply e_X0_anyOn_3
  exact key (τ 0 4).toNat 0 (by omega) (fun c a b => by omega)
theorem c_wearsAny {τ : Mem} {b : Int} {Q : Int → Mem → Prop} (hV : VAL τ) (h1 : anyW τ b → Q 1 τ) (h0 : ¬ anyW τ b → Q 0 τ) : HT GM M_X9_wearsAny [mr 0, mi b] τ Q := by
  have h4 := hV.1
  have key : ∀ (n k : Nat) (x : Int), (k : Int) + n = τ 0 4 → ((x = 0 ∧ ∀ c, 0 ≤ c → c < (k : Int) → ¬ wr τ c = b) ∨ (x = 1 ∧ anyW τ b)) → WP GM M_X9_wearsAny 4 [some (mr 0), some (mi b), some (mi x), some (mi (k : Int))] [] τ Q := by
    intro n
    induction n with
    | zero =>
      intro k x hk hp
      refine b_X9_wearsAny_0_4 _ _ _ ⟨fun _ => ?_, fun z => absurd (by omega) z⟩
      rcases hp with ⟨rfl, hp⟩ | ⟨rfl, hp⟩
      · exact ⟨Or.inl rfl, h0 (fun ⟨c, hc, e⟩ => hp c hc.1 (by omega) e)⟩
      · exact ⟨Or.inr rfl, h1 hp⟩
    | succ n ih =>
      intro k x hk hp
      have hc : 0 ≤ (k : Int) ∧ (k : Int) < τ 0 4 := by omega
      have one : anyW τ b → WP GM M_X9_wearsAny 26 [some (mr 0), some (mi b), none, some (mi (k : Int))] [] τ Q := by
        intro z
        apply b_X9_wearsAny_0_26
        apply b_X9_wearsAny_0_31
        rw [jadd_eq (by omega) (by omega)]
        exact ih (k + 1) 1 (by omega) (Or.inr ⟨rfl, z⟩)
      apply b_X9_wearsAny_0_4
      refine ⟨fun z => absurd z (by omega), fun _ => ?_⟩
      rcases hp with ⟨rfl, hp⟩ | ⟨rfl, hp⟩
      · refine bn0 (c_wrM (hV.2.2.1 k hc.1 hc.2) (by omega) (fun _ _ _ => rfl) ⟨fun z => ?_, fun z => one ⟨k, hc, z⟩⟩)
        apply b_X9_wearsAny_0_31
        rw [jadd_eq (by omega) (by omega)]
        refine ih (k + 1) 0 (by omega) (Or.inl ⟨rfl, fun c a b => ?_⟩)
        by_cases e : c = k
        · rw [e]; exact z
        · exact hp c a (by omega)
      · exact bn1 (one hp)
  apply e_X9_wearsAny_0
  exact key (τ 0 4).toNat 0 0 (by omega) (Or.inl ⟨rfl, fun c a b => by omega⟩)
theorem act_give {σ τ : Mem} {t b : Int} (hR : RW σ τ) (ht : 0 ≤ t ∧ t < τ 0 9) (hb : 0 ≤ b ∧ b < 8) : DSIM M_X4_handOver [mr 1, mi t, mi b] M_X9_give [mr 0, mi t, mi b] σ τ (fun _ => ACT σ τ) := by
  have hT := hR.th ht
  have hm := hR.nt.1
  have ht8 : 0 ≤ t ∧ t < 8 := by omega
  have ep := hT.2.2.1
  have hp := hT.1.2.1
  have hp0 : 0 ≤ τ 6 t := by unfold PLC at hp; omega
  by_cases h : τ 6 t < 8 ∧ ¬ τ 6 t = b ∧ anyW τ (τ 6 t) ∧ anyW τ b
  · refine ⟨τ 6 t, _, _, ?_, ?_, hand_act hR ht hb⟩
    · apply e_X4_handOver_1
      rw [ep]
      exact ⟨ht8, fun z => by omega, fun _ => ⟨fun z => absurd z h.2.1, fun _ => c_anyOn hR (fun _ => br1 (c_anyOn hR (fun _ => bn1 ⟨ht8, rfl, rfl⟩) (fun z => absurd h.2.2.2 z))) (fun z => absurd h.2.2.1 z)⟩⟩
    · apply e_X9_give_0
      exact c_isThing hm (fun _ => br1 (c_isBoy (fun _ => bn1 ⟨ht8, c_isBoy (fun _ => br1 ⟨fun z => absurd z h.2.1, fun _ => c_wearsAny hR.1 (fun _ => br1 (c_wearsAny hR.1 (fun _ => bn1 ⟨ht8, rfl, rfl⟩) (fun z => absurd h.2.2.2 z))) (fun z => absurd h.2.2.1 z)⟩) (fun z => absurd ⟨hp0, h.1⟩ z)⟩) (fun z => absurd hb z))) (fun z => absurd ht z)
  · refine DSIM.same (-2) ?_ ?_ (ACT.rf hR)
    · apply e_X4_handOver_1
      rw [ep]
      exact ⟨ht8, fun z => ⟨rfl, rfl⟩, fun z1 => ⟨fun z => ⟨rfl, rfl⟩, fun z2 => c_anyOn hR (fun z3 => br1 (c_anyOn hR (fun z4 => absurd ⟨by omega, z2, z3, z4⟩ h) (fun z => bn0 ⟨rfl, rfl⟩))) (fun z => br0 ⟨rfl, rfl⟩)⟩⟩
    · apply e_X9_give_0
      exact c_isThing hm (fun _ => br1 (c_isBoy (fun _ => bn1 ⟨ht8, c_isBoy (fun z1 => br1 ⟨fun z => ⟨rfl, rfl⟩, fun z2 => c_wearsAny hR.1 (fun z3 => br1 (c_wearsAny hR.1 (fun z4 => absurd ⟨z1.2, z2, z3, z4⟩ h) (fun z => bn0 ⟨rfl, rfl⟩))) (fun z => br0 ⟨rfl, rfl⟩)⟩) (fun z => br0 ⟨rfl, rfl⟩)⟩) (fun z => absurd hb z))) (fun z => absurd ht z)
theorem sim_give {t b : Int} {σ τ : Mem} (hR : RR σ τ) : SIM M_X8_give M_X9_give [mr 0, mi t, mi b] σ τ RR := by
  obtain ⟨h8, e8⟩ := hR.nt
  by_cases ht : 0 ≤ t ∧ t < τ 0 9
  · by_cases hb : 0 ≤ b ∧ b < 8
    · obtain ⟨r, σ', τ', h1, h2, h3⟩ := act_give hR.w ht hb
      refine ⟨r, (· = σ'), (· = τ'), ?_, h2, fun _ _ _ _ a b => by rw [a, b]; exact h3.rr hR⟩
      apply e_X8_give_0
      exact c_hasT (fun _ => br1 (c_within (fun _ => br1 h1) (fun z => absurd hb z))) (fun z => absurd (by rw [e8]; exact ht) z)
    · refine sim_same hR (-1) ?_ ?_
      · apply e_X8_give_0
        exact c_hasT (fun _ => br1 (c_within (fun z => absurd z hb) (fun _ => br0 ⟨rfl, rfl⟩))) (fun z => absurd (by rw [e8]; exact ht) z)
      · apply e_X9_give_0
        exact c_isThing h8 (fun _ => br1 (c_isBoy (fun z => absurd z hb) (fun _ => bn0 ⟨rfl, rfl⟩))) (fun z => absurd ht z)
  · refine sim_same hR (-1) ?_ ?_
    · apply e_X8_give_0
      exact c_hasT (fun z => absurd (by rw [e8] at z; exact z) ht) (fun _ => br0 ⟨rfl, rfl⟩)
    · apply e_X9_give_0
      exact c_isThing h8 (fun z => absurd z ht) (fun _ => br0 ⟨rfl, rfl⟩)
