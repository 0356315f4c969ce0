/-! school -/
def aB (bo : Int → Int → Int) (n : Int) (d : Int → Int) : Int → Int → Int := fun c => if c = n then d else bo c
theorem aB_at {bo : Int → Int → Int} {n c : Int} {d : Int → Int} (h : c = n) : aB bo n d c = d := if_pos h
theorem aB_ne {bo : Int → Int → Int} {n c : Int} {d : Int → Int} (h : ¬ c = n) : aB bo n d c = bo c := if_neg h
def KC (n : Int) (sz ho : Int → Int) (bo : Int → Int → Int) (σ : Mem) : Prop := σ 28 0 = n ∧ ∀ c, 0 ≤ c → c < n → σ 30 c = sz c ∧ σ 31 c = 0 ∧ σ 32 c = ho c ∧ ∀ k, 0 ≤ k → k < sz c → σ 29 (4 * c + k) = bo c k
def KM (n : Int) (sz ho : Int → Int) (bo : Int → Int → Int) (τ : Mem) : Prop := ∀ c, 0 ≤ c → c < n → τ 11 (6 * c) = sz c ∧ τ 11 (6 * c + 1) = ho c ∧ ∀ k, 0 ≤ k → k < sz c → τ 11 (6 * c + 2 + k) = bo c k
def OKC (n : Int) (sz ho : Int → Int) (bo : Int → Int → Int) : Prop := ∀ c, 0 ≤ c → c < n → (1 ≤ sz c ∧ sz c ≤ 4) ∧ (0 ≤ ho c ∧ ho c ≤ 3) ∧ (∀ k, 0 ≤ k → k < sz c → 0 ≤ bo c k ∧ bo c k < 8) ∧ ∀ j k, 0 ≤ j → j < k → k < sz c → bo c j ≠ bo c k
def FS (σ σ' : Mem) : Prop := ∀ k, k ≤ 24 ∨ k = 26 ∨ k = 27 ∨ 33 ≤ k → σ' k = σ k
def FT (τ τ' : Mem) : Prop := (∀ k, (1 ≤ k ∧ k ≤ 10) ∨ 12 ≤ k → τ' k = τ k) ∧ ∀ j, j ≠ 15 → j ≠ 16 → τ' 0 j = τ 0 j
theorem OKC.add {n z h : Int} {sz ho d : Int → Int} {bo : Int → Int → Int} (o : OKC n sz ho bo) (hz : 1 ≤ z ∧ z ≤ 4) (hh : 0 ≤ h ∧ h ≤ 3) (a : ∀ k, 0 ≤ k → k < z → 0 ≤ d k ∧ d k < 8) (g : ∀ j k, 0 ≤ j → j < k → k < z → d j ≠ d k) : OKC (n + 1) (aD sz n z) (aD ho n h) (aB bo n d) := by
  intro c c0 c1
  by_cases e : c = n
  · rw [aD_at e, aD_at e, aB_at e]; exact ⟨hz, hh, a, g⟩
  · rw [aD_ne e, aD_ne e, aB_ne e]; exact o c c0 (by omega)
theorem KC.add {n z h : Int} {sz ho d : Int → Int} {bo : Int → Int → Int} {σ σ' : Mem} (k : KC n sz ho bo σ) (o : OKC n sz ho bo) (f : FRC n σ σ') (e : NEC n z h d σ') : KC (n + 1) (aD sz n z) (aD ho n h) (aB bo n d) σ' := by
  refine ⟨e.1, fun c c0 c1 => ?_⟩
  by_cases q : c = n
  · rw [aD_at q, aD_at q, aB_at q, q]; exact e.2
  · rw [aD_ne q, aD_ne q, aB_ne q]
    have g := f.2.2 c (by omega)
    have kk := k.2 c c0 (by omega)
    have ok := (o c c0 (by omega)).1
    exact ⟨by rw [g.1]; exact kk.1, by rw [g.2.1]; exact kk.2.1, by rw [g.2.2]; exact kk.2.2.1, fun j j0 j1 => by rw [f.2.1 _ (by omega)]; exact kk.2.2.2 j j0 j1⟩
theorem KM.add {n z h : Int} {sz ho d : Int → Int} {bo : Int → Int → Int} {τ τ' : Mem} (k : KM n sz ho bo τ) (o : OKC n sz ho bo) (f : FRM n τ τ') (e : NEM n z h d τ') : KM (n + 1) (aD sz n z) (aD ho n h) (aB bo n d) τ' := by
  intro c c0 c1
  by_cases q : c = n
  · rw [aD_at q, aD_at q, aB_at q, q]; exact e
  · rw [aD_ne q, aD_ne q, aB_ne q]
    have kk := k c c0 (by omega)
    have ok := (o c c0 (by omega)).1
    exact ⟨by rw [f.2.2 _ (by omega)]; exact kk.1, by rw [f.2.2 _ (by omega)]; exact kk.2.1, fun j j0 j1 => by rw [f.2.2 _ (by omega)]; exact kk.2.2 j j0 j1⟩
theorem KM.fr {n : Int} {sz ho : Int → Int} {bo : Int → Int → Int} {τ τ' : Mem} (k : KM n sz ho bo τ) (h : τ' 11 = τ 11) : KM n sz ho bo τ' := by
  unfold KM at *; rw [h]; exact k
theorem KC.fr {n : Int} {sz ho : Int → Int} {bo : Int → Int → Int} {σ σ' : Mem} (k : KC n sz ho bo σ) (h : ∀ q, 28 ≤ q → q ≤ 32 → σ' q = σ q) : KC n sz ho bo σ' := by
  unfold KC at *; rw [h 28 (by decide) (by decide), h 29 (by decide) (by decide), h 30 (by decide) (by decide), h 31 (by decide) (by decide), h 32 (by decide) (by decide)]; exact k
theorem FRC.fs {n : Int} {σ σ' : Mem} (h : FRC n σ σ') : FS σ σ' := h.1
theorem FRM.ft {n : Int} {τ τ' : Mem} (h : FRM n τ τ') : FT τ τ' := ⟨h.1, h.2.1⟩
theorem FS.tr {a b c : Mem} (h : FS a b) (g : FS b c) : FS a c := fun k hk => by rw [g k hk, h k hk]
theorem FT.tr {a b c : Mem} (h : FT a b) (g : FT b c) : FT a c := ⟨fun k hk => by rw [g.1 k hk, h.1 k hk], fun j h1 h2 => by rw [g.2 j h1 h2, h.2 j h1 h2]⟩
theorem FS.p {q : Int} {σ : Mem} : FS σ (mupd σ 25 2 q) := (FRC.p (n := 0)).1
theorem FT.p {j q : Int} {τ : Mem} (hj : j = 15 ∨ j = 16) : FT τ (mupd τ 0 j q) := ⟨fun k hk => mupd_ne _ (by omega), fun i a b => mupd_ri (by omega)⟩
theorem TM.s {b : Int → Int} {L p v : Int} {τ : Mem} (h : TM b L p τ) : TM b L p (mupd τ 0 16 v) := h.fr (mupd_ri (by decide)) (mupd_ri (by decide)) (mupd_ne _ (by decide))
def LSch (b : Int → Int) (L n p : Int) (sz ho : Int → Int) (bo : Int → Int → Int) : Prop := ∃ (ok F N : Int) (sz' ho' : Int → Int) (bo' : Int → Int → Int), ((ok = 0 ∨ ok = 1) ∧ (0 ≤ F ∧ F ≤ L) ∧ (0 ≤ N ∧ N ≤ 4) ∧ OKC N sz' ho' bo') ∧ (∀ (σ : Mem) (Q : Int → Mem → Prop), TC b L p σ → KC n sz ho bo σ → (∀ σ', σ' 25 1 = L → FS σ σ' → (ok = 1 → KC N sz' ho' bo' σ') → Q (if ok = 1 then 0 else -20 - F) σ') → WP GC M_X2_readSchool 15 [some (mr 27), some (mr 25), some (mi n)] [] σ Q) ∧ (∀ (τ : Mem) (Q : Int → Mem → Prop), TM b L p τ → KM n sz ho bo τ → (∀ τ' p', TM b L p' τ' → FT τ τ' → (ok = 0 → sk b L p' = F) → (ok = 1 → τ' 0 16 = N ∧ KM N sz' ho' bo' τ') → Q ok τ') → WP GM M_X9_readSchool 7 [some (mr 0), some (mi n), none] [] τ Q)
theorem c_fault {b : Int → Int} {L p : Int} {σ : Mem} {Q : Int → Mem → Prop} (hB : BY b L) (hT : TC b L p σ) (h : Q (-20 - p) σ) : HT GC M_X5_fault [mr 25] σ Q := by
  apply e_X5_fault_25
  have := hT.2.2.1
  have hL := hB.1
  rw [hT.2.1, jsub_eq (by omega) (by omega)]; exact h
theorem l_school {b : Int → Int} {L : Int} (hB : BY b L) : ∀ (m : Nat) (n p : Int) (sz ho : Int → Int) (bo : Int → Int → Int), n + m = 3 → 0 ≤ n → (0 ≤ p ∧ p ≤ L) → OKC n sz ho bo → LSch b L n p sz ho bo := by
  intro m
  induction m with
  | zero =>
    intro n p sz ho bo hm hn hp hO
    obtain ⟨ok, okc, p', z, h, d, ⟨hp', hC⟩, hcc, hmm⟩ := r_coat hB (n := n) (by omega) hp
    have hq := sk_ok (b := b) hp'
    have hss := sk_sk (b := b) hp'.2
    have hn3 : n = 3 := by omega
    rcases hC with ⟨o1, o2, o3, o4, o5, o6⟩ | ⟨o1, o2, o3⟩
    · subst o1 o2
      by_cases hE : L ≤ sk b L p'
      · refine ⟨1, 0, n + 1, aD sz n z, aD ho n h, aB bo n d, ⟨Or.inr rfl, by have := hB.1; omega, by omega, hO.add o3 o4 o5 o6⟩, fun σ Q hT hK hQ => ?_, fun τ Q hT hK hQ => ?_⟩
        · apply b_X2_readSchool_27_25_15
          refine bf (by omega) (hcc σ _ hT hK.1 (fun σ1 t1 f1 e1 => bn1 (c_atEnd hB t1 (fun _ => ?_) (fun k => by omega))))
          refine bf (by decide) ?_
          exact hQ _ ((t1.up hq).1) (f1.fs.tr FS.p) (fun _ => ((hK.add hO f1 (e1 rfl))).fr (fun q q0 q1 => mupd_ne _ (by omega)))
        · apply b_X9_readSchool_0_7
          rw [jmul_eq (by omega) (by omega)]
          refine bf (by omega) (hmm τ _ hT (fun τ1 t1 f1 e1 => bn1 ?_))
          rw [jadd_eq (by omega) (by omega)]
          refine m_next hB (t1.s (v := n + 1)) (fun _ => bf (by decide) ?_) (fun k => by omega)
          refine hQ _ _ ((t1.s).up hq) ((f1.ft.tr (FT.p (Or.inr rfl))).tr (FT.p (Or.inl rfl))) (fun k => absurd k (by decide)) (fun _ => ⟨by rw [mupd_ri (by decide), mupd_at], ?_⟩)
          exact (hK.add hO f1 (e1 rfl)).fr (by rw [mupd_ne _ (by decide), mupd_ne _ (by decide)])
      · refine ⟨0, sk b L p', 0, sz, ho, bo, ⟨Or.inl rfl, hq, by omega, fun c a k => by omega⟩, fun σ Q hT hK hQ => ?_, fun τ Q hT hK hQ => ?_⟩
        · apply b_X2_readSchool_27_25_15
          refine bf (by omega) (hcc σ _ hT hK.1 (fun σ1 t1 f1 e1 => bn1 (c_atEnd hB t1 (fun k => by omega) (fun _ => bt rfl (bt hn3 ?_)))))
          apply b_X2_readSchool_27_25_56
          exact c_fault hB (t1.up hq) (hQ _ ((t1.up hq).1) (f1.fs.tr FS.p) (fun k => absurd k (by decide)))
        · apply b_X9_readSchool_0_7
          rw [jmul_eq (by omega) (by omega)]
          refine bf (by omega) (hmm τ _ hT (fun τ1 t1 f1 e1 => bn1 ?_))
          rw [jadd_eq (by omega) (by omega)]
          have fin := hQ _ _ ((t1.s (v := n + 1)).up hq) ((f1.ft.tr (FT.p (Or.inr rfl))).tr (FT.p (Or.inl rfl))) (fun _ => hss) (fun k => absurd k (by decide))
          refine m_next hB (t1.s (v := n + 1)) (fun k => by omega) (fun k => ?_)
          have hy := hB.2 _ hq.1 k
          exact bt (by omega) ⟨fun _ => fin, fun _ => ⟨fun k => absurd hn3 k, fun _ => fin⟩⟩
    · subst o1
      refine ⟨0, p', 0, sz, ho, bo, ⟨Or.inl rfl, hp', by omega, fun c a k => by omega⟩, fun σ Q hT hK hQ => ?_, fun τ Q hT hK hQ => ?_⟩
      · apply b_X2_readSchool_27_25_15
        refine bf (by omega) (hcc σ _ hT hK.1 (fun σ1 t1 f1 e1 => ?_))
        rcases o3 with o3 | ⟨o3, o4, o5⟩
        · subst o3
          exact bn0 (c_fault hB t1 (hQ _ t1.1 f1.fs (fun k => absurd k (by decide))))
        · subst o3
          refine bn1 (c_atEnd hB t1 (fun k => by omega) (fun _ => bt rfl (bt hn3 ?_)))
          rw [o2]
          apply b_X2_readSchool_27_25_56
          exact c_fault hB (t1.up hp') (hQ _ ((t1.up hp').1) (f1.fs.tr FS.p) (fun k => absurd k (by decide)))
      · apply b_X9_readSchool_0_7
        rw [jmul_eq (by omega) (by omega)]
        exact bf (by omega) (hmm τ _ hT (fun τ1 t1 f1 e1 => bn0 (hQ _ _ t1 f1.ft (fun _ => o2) (fun k => absurd k (by decide)))))
  | succ m ih =>
    intro n p sz ho bo hm hn hp hO
    obtain ⟨ok, okc, p', z, h, d, ⟨hp', hC⟩, hcc, hmm⟩ := r_coat hB (n := n) (by omega) hp
    have hq := sk_ok (b := b) hp'
    have hss := sk_sk (b := b) hp'.2
    have hn3 : ¬ n = 3 := by omega
    rcases hC with ⟨o1, o2, o3, o4, o5, o6⟩ | ⟨o1, o2, o3⟩
    · subst o1 o2
      by_cases hE : L ≤ sk b L p'
      · refine ⟨1, 0, n + 1, aD sz n z, aD ho n h, aB bo n d, ⟨Or.inr rfl, by have := hB.1; omega, by omega, hO.add o3 o4 o5 o6⟩, fun σ Q hT hK hQ => ?_, fun τ Q hT hK hQ => ?_⟩
        · apply b_X2_readSchool_27_25_15
          refine bf (by omega) (hcc σ _ hT hK.1 (fun σ1 t1 f1 e1 => bn1 (c_atEnd hB t1 (fun _ => ?_) (fun k => by omega))))
          refine bf (by decide) ?_
          exact hQ _ ((t1.up hq).1) (f1.fs.tr FS.p) (fun _ => ((hK.add hO f1 (e1 rfl))).fr (fun q q0 q1 => mupd_ne _ (by omega)))
        · apply b_X9_readSchool_0_7
          rw [jmul_eq (by omega) (by omega)]
          refine bf (by omega) (hmm τ _ hT (fun τ1 t1 f1 e1 => bn1 ?_))
          rw [jadd_eq (by omega) (by omega)]
          refine m_next hB (t1.s (v := n + 1)) (fun _ => bf (by decide) ?_) (fun k => by omega)
          refine hQ _ _ ((t1.s).up hq) ((f1.ft.tr (FT.p (Or.inr rfl))).tr (FT.p (Or.inl rfl))) (fun k => absurd k (by decide)) (fun _ => ⟨by rw [mupd_ri (by decide), mupd_at], ?_⟩)
          exact (hK.add hO f1 (e1 rfl)).fr (by rw [mupd_ne _ (by decide), mupd_ne _ (by decide)])
      · by_cases h44 : b (sk b L p') = 44
        · obtain ⟨ok, F, N, sz', ho', bo', hP, hC2, hM2⟩ := ih (n + 1) (sk b L p' + 1) (aD sz n z) (aD ho n h) (aB bo n d) (by omega) (by omega) (by omega) (hO.add o3 o4 o5 o6)
          refine ⟨ok, F, N, sz', ho', bo', hP, fun σ Q hT hK hQ => ?_, fun τ Q hT hK hQ => ?_⟩
          · apply b_X2_readSchool_27_25_15
            refine bf (by omega) (hcc σ _ hT hK.1 (fun σ1 t1 f1 e1 => bn1 (c_atEnd hB t1 (fun k => by omega) (fun _ => bt rfl (bf hn3 ?_)))))
            refine c_passes hB (t1.up hq) (fun _ _ => ?_) (fun k => absurd ⟨by omega, by rw [hss]; exact h44⟩ k)
            rw [hss, mupd_up, jadd_eq (by omega) (by omega)]
            refine bn1 (hC2 _ Q (t1.up (by omega)) ((hK.add hO f1 (e1 rfl)).fr (fun q q0 q1 => mupd_ne _ (by omega))) (fun σ' a c e => hQ σ' a ((f1.fs.tr FS.p).tr c) e))
          · apply b_X9_readSchool_0_7
            rw [jmul_eq (by omega) (by omega)]
            refine bf (by omega) (hmm τ _ hT (fun τ1 t1 f1 e1 => bn1 ?_))
            rw [jadd_eq (by omega) (by omega)]
            refine m_next hB (t1.s (v := n + 1)) (fun k => by omega) (fun k => ?_)
            refine bt (by omega) (nf h44 (nt hn3 ?_))
            have hL := hB.1
            rw [((t1.s (v := n + 1)).up hq).2.1, mupd_up, jadd_eq (by omega) (by omega)]
            exact hM2 _ Q ((t1.s).up (by omega)) ((hK.add hO f1 (e1 rfl)).fr (by rw [mupd_ne _ (by decide), mupd_ne _ (by decide)])) (fun τ' p2 a c e g => hQ τ' p2 a (((f1.ft.tr (FT.p (Or.inr rfl))).tr (FT.p (Or.inl rfl))).tr c) e g)
        · refine ⟨0, sk b L p', 0, sz, ho, bo, ⟨Or.inl rfl, hq, by omega, fun c a k => by omega⟩, fun σ Q hT hK hQ => ?_, fun τ Q hT hK hQ => ?_⟩
          · apply b_X2_readSchool_27_25_15
            refine bf (by omega) (hcc σ _ hT hK.1 (fun σ1 t1 f1 e1 => bn1 (c_atEnd hB t1 (fun k => by omega) (fun _ => bt rfl (bf hn3 ?_)))))
            refine c_passes hB (t1.up hq) (fun _ k => absurd (by rw [hss] at k; exact k) h44) (fun k => bn0 ?_)
            rw [hss, mupd_up]
            apply b_X2_readSchool_27_25_56
            exact c_fault hB (t1.up hq) (hQ _ ((t1.up hq).1) (f1.fs.tr FS.p) (fun k => absurd k (by decide)))
          · apply b_X9_readSchool_0_7
            rw [jmul_eq (by omega) (by omega)]
            refine bf (by omega) (hmm τ _ hT (fun τ1 t1 f1 e1 => bn1 ?_))
            rw [jadd_eq (by omega) (by omega)]
            have fin := hQ _ _ ((t1.s (v := n + 1)).up hq) ((f1.ft.tr (FT.p (Or.inr rfl))).tr (FT.p (Or.inl rfl))) (fun _ => hss) (fun k => absurd k (by decide))
            refine m_next hB (t1.s (v := n + 1)) (fun k => by omega) (fun k => ?_)
            have hy := hB.2 _ hq.1 k
            exact bt (by omega) (nt h44 fin)
    · subst o1
      refine ⟨0, p', 0, sz, ho, bo, ⟨Or.inl rfl, hp', by omega, fun c a k => by omega⟩, fun σ Q hT hK hQ => ?_, fun τ Q hT hK hQ => ?_⟩
      · apply b_X2_readSchool_27_25_15
        refine bf (by omega) (hcc σ _ hT hK.1 (fun σ1 t1 f1 e1 => ?_))
        rcases o3 with o3 | ⟨o3, o4, o5⟩
        · subst o3
          exact bn0 (c_fault hB t1 (hQ _ t1.1 f1.fs (fun k => absurd k (by decide))))
        · subst o3
          refine bn1 (c_atEnd hB t1 (fun k => by omega) (fun _ => bt rfl (bf hn3 ?_)))
          rw [o2]
          refine c_passes hB (t1.up hp') (fun _ k => absurd (by rw [o2] at k; exact k) o5) (fun k => bn0 ?_)
          rw [o2, mupd_up]
          apply b_X2_readSchool_27_25_56
          exact c_fault hB (t1.up hp') (hQ _ ((t1.up hp').1) (f1.fs.tr FS.p) (fun k => absurd k (by decide)))
      · apply b_X9_readSchool_0_7
        rw [jmul_eq (by omega) (by omega)]
        exact bf (by omega) (hmm τ _ hT (fun τ1 t1 f1 e1 => bn0 (hQ _ _ t1 f1.ft (fun _ => o2) (fun k => absurd k (by decide)))))
