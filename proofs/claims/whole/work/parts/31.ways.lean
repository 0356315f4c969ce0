/-! ways through the coats: what is reached at a bell -/
def hS (w : Int → Int) (H P : Int) : Nat → Int
  | 0 => H
  | i + 1 => if tb P i = true then jor (hS w H P i) (jshl 1 (w i)) else hS w H P i
def pS (w ho : Int → Int) (H P : Int) : Nat → Int
  | 0 => P
  | i + 1 => if ho i = 0 ∧ tb H (w i) = true then jor (pS w ho H P i) (jshl 1 i) else pS w ho H P i
def pF (w : Int → Int) (T P : Int) : Nat → Int
  | 0 => P
  | i + 1 => if tb T (w i) = true then jand (pF w T P i) (jxor (jshl 1 i) (-1)) else pF w T P i
theorem hS_in {w : Int → Int} {H P : Int} (hH : 0 ≤ H ∧ H < 256) : ∀ m : Nat, (∀ c : Int, 0 ≤ c → c < m → 0 ≤ w c ∧ w c < 8) → 0 ≤ hS w H P m ∧ hS w H P m < 256
  | 0, _ => hH
  | m + 1, h => by
    have ih := hS_in (w := w) (P := P) hH m (fun c a b => h c a (by omega))
    simp only [hS]
    split
    · exact jor_256 ih (shl1_256 (h m (by omega) (by omega)))
    · exact ih
theorem hS_tb {w : Int → Int} {H P : Int} (hH : 0 ≤ H ∧ H < 256) : ∀ m : Nat, (∀ c : Int, 0 ≤ c → c < m → 0 ≤ w c ∧ w c < 8) → ∀ b : Int, 0 ≤ b → (tb (hS w H P m) b = true ↔ tb H b = true ∨ ∃ c : Int, 0 ≤ c ∧ c < m ∧ tb P c = true ∧ w c = b)
  | 0, _, b, hb => by
    simp only [hS]
    constructor
    · intro z; exact Or.inl z
    · rintro (z | ⟨c, a, d, _⟩)
      · exact z
      · omega
  | m + 1, h, b, hb => by
    have ih := hS_tb (w := w) (P := P) hH m (fun c a b => h c a (by omega)) b hb
    have hi := hS_in (w := w) (P := P) hH m (fun c a b => h c a (by omega))
    have hw := h m (by omega) (by omega)
    have hs := shl1_256 hw
    simp only [hS]
    by_cases q : tb P m = true
    · rw [if_pos q, tb_or ⟨hi.1, by omega⟩ ⟨hs.1, by omega⟩, tb_shl1 (by omega) hb, Bool.or_eq_true, ih, decide_eq_true_eq]
      constructor
      · rintro ((z | ⟨c, a, d, e, f⟩) | z)
        · exact Or.inl z
        · exact Or.inr ⟨c, a, by omega, e, f⟩
        · exact Or.inr ⟨m, by omega, by omega, q, z⟩
      · rintro (z | ⟨c, a, d, e, f⟩)
        · exact Or.inl (Or.inl z)
        · by_cases g : c = m
          · right; rw [← g]; exact f
          · exact Or.inl (Or.inr ⟨c, a, by omega, e, f⟩)
    · rw [if_neg q, ih]
      constructor
      · rintro (z | ⟨c, a, d, e, f⟩)
        · exact Or.inl z
        · exact Or.inr ⟨c, a, by omega, e, f⟩
      · rintro (z | ⟨c, a, d, e, f⟩)
        · exact Or.inl z
        · by_cases g : c = m
          · rw [g] at e; exact absurd e q
          · exact Or.inr ⟨c, a, by omega, e, f⟩
theorem pS_in {w ho : Int → Int} {H P : Int} (hP : 0 ≤ P ∧ P < 16) : ∀ m : Nat, m ≤ 4 → 0 ≤ pS w ho H P m ∧ pS w ho H P m < 16
  | 0, _ => hP
  | m + 1, h => by
    have ih := pS_in (w := w) (ho := ho) (H := H) hP m (by omega)
    simp only [pS]
    split
    · exact jor_16 ih (shl1_16 (by omega))
    · exact ih
theorem pS_tb {w ho : Int → Int} {H P : Int} (hP : 0 ≤ P ∧ P < 16) : ∀ m : Nat, m ≤ 4 → ∀ b : Int, 0 ≤ b → (tb (pS w ho H P m) b = true ↔ tb P b = true ∨ (b < m ∧ ho b = 0 ∧ tb H (w b) = true))
  | 0, _, b, hb => by
    simp only [pS]
    constructor
    · intro z; exact Or.inl z
    · rintro (z | ⟨a, _⟩)
      · exact z
      · omega
  | m + 1, h, b, hb => by
    have ih := pS_tb (w := w) (ho := ho) (H := H) hP m (by omega) b hb
    have hi := pS_in (w := w) (ho := ho) (H := H) hP m (by omega)
    have hs := shl1_16 (k := (m : Int)) (by omega)
    simp only [pS]
    by_cases q : ho m = 0 ∧ tb H (w m) = true
    · rw [if_pos q, tb_or ⟨hi.1, by omega⟩ ⟨hs.1, by omega⟩, tb_shl1 (by omega) hb, Bool.or_eq_true, ih, decide_eq_true_eq]
      constructor
      · rintro ((z | ⟨a, d⟩) | z)
        · exact Or.inl z
        · exact Or.inr ⟨by omega, d⟩
        · subst z; exact Or.inr ⟨by omega, q⟩
      · rintro (z | ⟨a, d⟩)
        · exact Or.inl (Or.inl z)
        · by_cases g : b = m
          · exact Or.inr g.symm
          · exact Or.inl (Or.inr ⟨by omega, d⟩)
    · rw [if_neg q, ih]
      constructor
      · rintro (z | ⟨a, d⟩)
        · exact Or.inl z
        · exact Or.inr ⟨by omega, d⟩
      · rintro (z | ⟨a, d⟩)
        · exact Or.inl z
        · by_cases g : b = m
          · subst g; exact absurd d q
          · exact Or.inr ⟨by omega, d⟩
theorem pF_in {w : Int → Int} {T P : Int} (hP : 0 ≤ P ∧ P < 16) : ∀ m : Nat, m ≤ 4 → (0 ≤ pF w T P m ∧ pF w T P m < 16) ∧ ∀ b : Int, 0 ≤ b → (tb (pF w T P m) b = true ↔ tb P b = true ∧ ¬ (b < m ∧ tb T (w b) = true))
  | 0, _ => ⟨hP, fun b hb => by simp only [pF]; exact ⟨fun z => ⟨z, fun ⟨a, _⟩ => by omega⟩, fun z => z.1⟩⟩
  | m + 1, h => by
    obtain ⟨hi, ih⟩ := pF_in (w := w) (T := T) hP m (by omega)
    simp only [pF]
    by_cases q : tb T (w m) = true
    · have hN := jandn_N (a := pF w T P m) (k := (m : Int)) ⟨hi.1, by omega⟩ (by omega)
      have spec : ∀ b : Int, 0 ≤ b → (tb (jand (pF w T P m) (jxor (jshl 1 m) (-1))) b = true ↔ tb P b = true ∧ ¬ (b < ((m + 1 : Nat) : Int) ∧ tb T (w b) = true)) := by
        intro b hb
        rw [tb_andn ⟨hi.1, by omega⟩ (by omega) hb, Bool.and_eq_true, ih b hb, decide_eq_true_eq]
        constructor
        · rintro ⟨⟨z1, z2⟩, z3⟩
          exact ⟨z1, fun ⟨a, d⟩ => z2 ⟨by omega, d⟩⟩
        · rintro ⟨z1, z2⟩
          exact ⟨⟨z1, fun ⟨a, d⟩ => z2 ⟨by omega, d⟩⟩, fun e => z2 ⟨by omega, by rw [e]; exact q⟩⟩
      rw [if_pos q]
      refine ⟨⟨hN.1, lt_of_tb (p := 4) hN.1 (fun k hk => ?_)⟩, spec⟩
      have hf := tb_high (a := P) (p := 4) hP (k := k) hk
      cases e : tb (jand (pF w T P m) (jxor (jshl 1 m) (-1))) k
      · rfl
      · have := ((spec k (by omega)).mp e).1
        rw [hf] at this; exact absurd this (by decide)
    · rw [if_neg q]
      refine ⟨hi, fun b hb => ?_⟩
      rw [ih b hb]
      constructor
      · rintro ⟨z1, z2⟩
        refine ⟨z1, fun ⟨a, d⟩ => ?_⟩
        by_cases e : b = m
        · rw [e] at d; exact q d
        · exact z2 ⟨by omega, d⟩
      · rintro ⟨z1, z2⟩
        exact ⟨z1, fun ⟨a, d⟩ => z2 ⟨by omega, d⟩⟩
/-- the coats as they are taken: how many, sizes, turns, holes, boys -/
def CFG (n : Nat) (z u ho : Int → Int) (bo : Int → Int → Int) : Prop := n ≤ 4 ∧ ∀ c : Int, 0 ≤ c → c < n → (1 ≤ z c ∧ z c ≤ 4) ∧ (0 ≤ u c ∧ u c < z c) ∧ (0 ≤ ho c ∧ ho c ≤ 3) ∧ ∀ j, 0 ≤ j → j < z c → 0 ≤ bo c j ∧ bo c j < 8
/-- who wears coat c at bell k -/
def wk (z u : Int → Int) (bo : Int → Int → Int) (k : Nat) : Int → Int := fun c => bo c ((u c + k) % z c)
theorem CFG.w {n : Nat} {z u ho : Int → Int} {bo : Int → Int → Int} (h : CFG n z u ho bo) (k : Nat) : ∀ c : Int, 0 ≤ c → c < n → 0 ≤ wk z u bo k c ∧ wk z u bo k c < 8 := by
  intro c c0 c1
  have hc := h.2 c c0 c1
  exact hc.2.2.2 _ (Int.emod_nonneg _ (by omega)) (Int.emod_lt_of_pos _ (by omega))
def CK (n : Nat) (z u ho : Int → Int) (bo : Int → Int → Int) (k : Nat) (σ : Mem) : Prop := σ 35 0 = n ∧ ∀ c : Int, 0 ≤ c → c < n → σ 37 c = z c ∧ σ 38 c = (u c + k) % z c ∧ σ 39 c = ho c ∧ ∀ j, 0 ≤ j → j < z c → σ 36 (4 * c + j) = bo c j
def MKo (n : Nat) (z u ho : Int → Int) (bo : Int → Int → Int) (τ : Mem) : Prop := τ 0 4 = n ∧ ∀ c : Int, 0 ≤ c → c < n → τ 1 c = z c ∧ τ 2 c = u c ∧ τ 3 c = ho c ∧ ∀ j, 0 ≤ j → j < z c → τ 4 (4 * c + j) = bo c j
theorem CK.fr {n : Nat} {z u ho : Int → Int} {bo : Int → Int → Int} {k : Nat} {σ σ' : Mem} (h : CK n z u ho bo k σ) (f : ∀ q, 35 ≤ q → q ≤ 39 → σ' q = σ q) : CK n z u ho bo k σ' := by
  unfold CK at *
  rw [f 35 (by decide) (by decide), f 36 (by decide) (by decide), f 37 (by decide) (by decide), f 38 (by decide) (by decide), f 39 (by decide) (by decide)]; exact h
theorem MKo.fr {n : Nat} {z u ho : Int → Int} {bo : Int → Int → Int} {τ τ' : Mem} (h : MKo n z u ho bo τ) (f : ∀ q, 1 ≤ q → q ≤ 4 → τ' q = τ q) (f0 : τ' 0 4 = τ 0 4) : MKo n z u ho bo τ' := by
  unfold MKo at *
  rw [f0, f 1 (by decide) (by decide), f 2 (by decide) (by decide), f 3 (by decide) (by decide), f 4 (by decide) (by decide)]; exact h
theorem CK.wr {n : Nat} {z u ho : Int → Int} {bo : Int → Int → Int} {k : Nat} {σ : Mem} {c : Int} {Q : Int → Mem → Prop} (hG : CFG n z u ho bo) (h : CK n z u ho bo k σ) (hc : 0 ≤ c ∧ c < n) (hQ : Q (wk z u bo k c) σ) : HT GC M_X0_wearer [mr 35, mi c] σ Q := by
  have hn := hG.1
  have g := hG.2 c hc.1 hc.2
  have e := h.2 c hc.1 hc.2
  have m1 := Int.emod_nonneg (u c + k) (show z c ≠ 0 by omega)
  have m2 := Int.emod_lt_of_pos (u c + k) (show 0 < z c by omega)
  refine c_wearerW (by omega) (by rw [e.2.1]; omega) ?_
  rw [e.2.1, e.2.2.2 _ m1 m2]
  exact hQ
theorem MKo.wr {n : Nat} {z u ho : Int → Int} {bo : Int → Int → Int} {k : Nat} {τ : Mem} {c : Int} {Q : Int → Mem → Prop} (hG : CFG n z u ho bo) (h : MKo n z u ho bo τ) (hk : k < 1000) (hc : 0 ≤ c ∧ c < n) (hQ : Q (wk z u bo k c) τ) : HT GM M_X9_wearer [mr 0, mi c, mi (k : Int)] τ Q := by
  have hn := hG.1
  have g := hG.2 c hc.1 hc.2
  have e := h.2 c hc.1 hc.2
  have m1 := Int.emod_nonneg (u c + k) (show z c ≠ 0 by omega)
  have m2 := Int.emod_lt_of_pos (u c + k) (show 0 < z c by omega)
  refine c_wearerM (by omega) (by rw [e.1]; omega) (by rw [e.2.1]; omega) (by omega) ?_
  rw [e.1, e.2.1, e.2.2.2 _ m1 m2]
  exact hQ
theorem m_has {x d : Int} {τ : Mem} {Q : Int → Mem → Prop} (hx : N31 x) (hd : 0 ≤ d ∧ d < 32) (h1 : tb x d = true → Q 1 τ) (h0 : ¬ tb x d = true → Q 0 τ) : HT GM M_X9_has [mi x, mi d] τ Q := by
  apply e_X9_has
  rw [bit_test hx hd]
  by_cases q : tb x d = true
  · rw [if_pos q]; exact nf rfl (h1 q)
  · rw [if_neg q]; exact nt (by decide) (h0 q)
/-- the class's state of a way -/
def CW (n : Nat) (z u ho : Int → Int) (bo : Int → Int → Int) (k : Nat) (T H P : Int) (σ : Mem) : Prop := CK n z u ho bo k σ ∧ σ 33 2 = T ∧ σ 33 3 = H ∧ σ 33 4 = P
theorem CK.p {n : Nat} {z u ho : Int → Int} {bo : Int → Int → Int} {k : Nat} {i v : Int} {σ : Mem} (h : CK n z u ho bo k σ) : CK n z u ho bo k (mupd σ 33 i v) := h.fr (fun q a b => mupd_ne _ (by omega))
theorem c_spread {n : Nat} {z u ho : Int → Int} {bo : Int → Int → Int} {k : Nat} {T H P : Int} {σ0 : Mem} {Q : Int → Mem → Prop} (hG : CFG n z u ho bo) (hW : CW n z u ho bo k T H P σ0) (hH : 0 ≤ H ∧ H < 256) (hP : 0 ≤ P ∧ P < 16) (hQ : ∀ σ', CW n z u ho bo k T (hS (wk z u bo k) H P n) (pS (wk z u bo k) ho (hS (wk z u bo k) H P n) P n) σ' → (∀ q, q ≠ 33 → σ' q = σ0 q) → σ' 33 5 = σ0 33 5 → Q 0 σ') : HT GC M_X7_spread [mr 33] σ0 Q := by
  have hn := hG.1
  have hw := hG.w k
  have hH2 := hS_in (w := wk z u bo k) (P := P) hH n hw
  have two : ∀ (m i : Nat) (σ : Mem), i + m = n → CW n z u ho bo k T (hS (wk z u bo k) H P n) (pS (wk z u bo k) ho (hS (wk z u bo k) H P n) P i) σ → (∀ q, q ≠ 33 → σ q = σ0 q) → σ 33 5 = σ0 33 5 → WP GC M_X7_spread 51 [some (mr 33), some (mi (i : Int))] [] σ Q := by
    intro m
    induction m with
    | zero =>
      intro i σ hi hC f f5
      obtain rfl : i = n := by omega
      apply b_X7_spread_33_51
      rw [hC.1.1]
      exact bt (by omega) (hQ σ hC f f5)
    | succ m ih =>
      intro i σ hi hC f f5
      have hci : 0 ≤ (i : Int) ∧ (i : Int) < n := by omega
      have hwi := hw i hci.1 hci.2
      have hp := pS_in (w := wk z u bo k) (ho := ho) (H := hS (wk z u bo k) H P n) hP i (by omega)
      apply b_X7_spread_33_51
      rw [hC.1.1, (hC.1.2 i hci.1 hci.2).2.2.1]
      refine bf (by omega) ⟨by omega, ?_⟩
      have stay : ¬ (ho i = 0 ∧ tb (hS (wk z u bo k) H P n) (wk z u bo k i) = true) → WP GC M_X7_spread 104 [some (mr 33), some (mi (i : Int))] [] σ Q := by
        intro hneg
        apply b_X7_spread_33_104
        rw [jadd_eq (by omega) (by omega)]
        refine ih (i + 1) σ (by omega) ?_ f f5
        simp only [pS]
        rw [if_neg hneg]; exact hC
      refine ⟨fun e => stay (fun q => e q.1), fun e => CK.wr hG hC.1 hci ?_⟩
      rw [hC.2.2.1, bit_test ⟨hH2.1, by omega⟩ (by omega)]
      by_cases q : tb (hS (wk z u bo k) H P n) (wk z u bo k i) = true
      · rw [if_pos q]
        refine bf (by decide) ?_
        apply b_X7_spread_33_104
        rw [jadd_eq (by omega) (by omega), hC.2.2.2]
        refine ih (i + 1) _ (by omega) ⟨hC.1.p, by rw [mupd_ri (by decide)]; exact hC.2.1, by rw [mupd_ri (by decide)]; exact hC.2.2.1, ?_⟩ (fun q hq => by rw [mupd_ne _ hq, f q hq]) (by rw [mupd_ri (by decide)]; exact f5)
        simp only [pS]
        rw [if_pos ⟨e, q⟩, mupd_at]
      · rw [if_neg q]
        exact bt rfl (stay (fun w => q w.2))
  have one : ∀ (m i : Nat) (σ : Mem), i + m = n → CW n z u ho bo k T (hS (wk z u bo k) H P i) P σ → (∀ q, q ≠ 33 → σ q = σ0 q) → σ 33 5 = σ0 33 5 → WP GC M_X7_spread 2 [some (mr 33), some (mi (i : Int))] [] σ Q := by
    intro m
    induction m with
    | zero =>
      intro i σ hi hC f f5
      obtain rfl : i = n := by omega
      apply b_X7_spread_33_2
      rw [hC.1.1]
      exact bt (by omega) (two i 0 σ (by omega) hC f f5)
    | succ m ih =>
      intro i σ hi hC f f5
      have hci : 0 ≤ (i : Int) ∧ (i : Int) < n := by omega
      apply b_X7_spread_33_2
      rw [hC.1.1, hC.2.2.2, bit_test ⟨hP.1, by omega⟩ (by omega)]
      refine bf (by omega) ?_
      by_cases q : tb P i = true
      · rw [if_pos q]
        refine bf (by decide) (CK.wr hG hC.1 hci ?_)
        apply b_X7_spread_33_43
        rw [jadd_eq (by omega) (by omega), hC.2.2.1]
        refine ih (i + 1) _ (by omega) ⟨hC.1.p, by rw [mupd_ri (by decide)]; exact hC.2.1, ?_, by rw [mupd_ri (by decide)]; exact hC.2.2.2⟩ (fun q hq => by rw [mupd_ne _ hq, f q hq]) (by rw [mupd_ri (by decide)]; exact f5)
        simp only [hS]
        rw [if_pos q, mupd_at]
      · rw [if_neg q]
        refine bt rfl ?_
        apply b_X7_spread_33_43
        rw [jadd_eq (by omega) (by omega)]
        refine ih (i + 1) σ (by omega) ?_ f f5
        simp only [hS]
        rw [if_neg q]; exact hC
  apply e_X7_spread_33
  exact one n 0 σ0 (by omega) hW (fun _ _ => rfl) rfl
