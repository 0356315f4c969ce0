/-! closing, ringing, reach -/
theorem m_closeAll {n : Nat} {z u ho : Int → Int} {bo : Int → Int → Int} {k : Nat} {T H P : Int} {τ0 : Mem} {Q : Int → Mem → Prop} (hG : CFG n z u ho bo) (hM : MKo n z u ho bo τ0) (hk : k < 1000) (hT : 0 ≤ T ∧ T < 256) (hH : 0 ≤ H ∧ H < 256) (hP : 0 ≤ P ∧ P < 16) (e1 : τ0 0 18 = H) (e2 : τ0 0 19 = P) (hPT : ∀ c : Int, 0 ≤ c → c < n → tb P c = true → ¬ tb T (wk z u bo k c) = true) (hQ : ∀ τ' P', FV τ0 τ' → τ' 0 18 = hS (wk z u bo k) H P n → τ' 0 19 = P' → (0 ≤ P' ∧ P' < 16) → (∀ c : Int, 0 ≤ c → (tb P' c = true ↔ tb P c = true ∨ (c < n ∧ ¬ tb T (wk z u bo k c) = true ∧ tb (hS (wk z u bo k) H P n) (wk z u bo k c) = true))) → Q 0 τ') : HT GM M_X9_closeAll [mr 0, mi (k : Int), mi T] τ0 Q := by
  have hn := hG.1
  have hw := hG.w k
  have hin := hS_in (w := wk z u bo k) (P := P) hH n hw
  have htb := hS_tb (w := wk z u bo k) (P := P) hH n hw
  apply e_X9_closeAll_0
  apply b_X9_closeAll_0_2
  rw [e1]
  refine bf (by omega) (m_pass hG hM hk hT hH hP e1 e2 (fun τ1 H1 P1 f1 a1 a2 r1 r2 s1 s2 s3 => ?_))
  have hE : H1 = hS (wk z u bo k) H P n := by
    refine tb_ext r1.1 hin.1 (fun b hb => ?_)
    have h1 := s1 b hb
    have h2 := htb b hb
    have : tb H1 b = true ↔ tb (hS (wk z u bo k) H P n) b = true := by
      rw [h1, h2]
      constructor
      · rintro (y | ⟨c, d0, d1, d2, d3, d4⟩)
        · exact Or.inl y
        · exact Or.inr ⟨c, d0, d1, d2, d4⟩
      · rintro (y | ⟨c, d0, d1, d2, d4⟩)
        · exact Or.inl y
        · exact Or.inr ⟨c, d0, d1, d2, hPT c d0 d1 d2, d4⟩
    cases e : tb H1 b <;> cases e' : tb (hS (wk z u bo k) H P n) b <;> simp_all
  subst hE
  apply b_X9_closeAll_0_2
  rw [a1]
  by_cases q : H = hS (wk z u bo k) H P n
  · refine bt q (hQ τ1 P1 f1 a1 a2 r2 (fun c c0 => ⟨s2 c c0, fun y => s3 c c0 ?_⟩))
    rw [← q] at y; exact y
  · refine bf q (m_pass hG (f1.mk hM) hk hT r1 r2 a1 a2 (fun τ2 H2 P2 f2 b1 b2 q1 q2 t1 t2 t3 => ?_))
    have hE2 : H2 = hS (wk z u bo k) H P n := by
      refine tb_ext q1.1 hin.1 (fun b hb => ?_)
      have : tb H2 b = true ↔ tb (hS (wk z u bo k) H P n) b = true := by
        rw [t1 b hb]
        constructor
        · rintro (y | ⟨c, d0, d1, d2, d3, d4⟩)
          · exact y
          · rcases s2 c d0 d2 with y | ⟨g1, g2, g3⟩
            · rw [htb b hb]; exact Or.inr ⟨c, d0, d1, y, d4⟩
            · rw [← d4]; exact g3
        · exact fun y => Or.inl y
      cases e : tb H2 b <;> cases e' : tb (hS (wk z u bo k) H P n) b <;> simp_all
    subst hE2
    apply b_X9_closeAll_0_2
    rw [b1]
    refine bt rfl (hQ τ2 P2 (f1.tr f2) b1 b2 q2 (fun c c0 => ⟨fun y => ?_, fun y => ?_⟩))
    · rcases t2 c c0 y with g | g
      · rcases s2 c c0 g with g | g
        · exact Or.inl g
        · exact Or.inr g
      · exact Or.inr g
    · rcases y with y | y
      · exact t3 c c0 (Or.inl (s3 c c0 (Or.inl y)))
      · exact t3 c c0 (Or.inr y)
theorem m_ringOn {n : Nat} {z u ho : Int → Int} {bo : Int → Int → Int} {k : Nat} {T P : Int} {τ0 : Mem} {Q : Int → Mem → Prop} (hG : CFG n z u ho bo) (hM : MKo n z u ho bo τ0) (hk : k < 1000) (hT : 0 ≤ T ∧ T < 256) (hP : 0 ≤ P ∧ P < 16) (e2 : τ0 0 19 = P) (hQ : ∀ τ' P', FV τ0 τ' → τ' 0 18 = τ0 0 18 → τ' 0 19 = P' → (0 ≤ P' ∧ P' < 16) → (∀ c : Int, 0 ≤ c → (tb P' c = true ↔ tb P c = true ∧ ¬ (c < n ∧ (¬ ho c = 0 ∨ tb T (wk z u bo k c) = true)))) → Q 0 τ') : HT GM M_X9_ringOn [mr 0, mi (k : Int), mi T] τ0 Q := by
  have hn := hG.1
  have hw := hG.w k
  have key : ∀ (m i : Nat) (τ : Mem) (P' : Int), i + m = n → FV τ0 τ → τ 0 18 = τ0 0 18 → τ 0 19 = P' → (0 ≤ P' ∧ P' < 16) → (∀ c : Int, 0 ≤ c → (tb P' c = true ↔ tb P c = true ∧ ¬ (c < i ∧ (¬ ho c = 0 ∨ tb T (wk z u bo k c) = true)))) → WP GM M_X9_ringOn 2 [some (mr 0), some (mi (k : Int)), some (mi T), some (mi (i : Int))] [] τ Q := by
    intro m
    induction m with
    | zero =>
      intro i τ P' hi f a1 a2 r2 s
      obtain rfl : i = n := by omega
      apply b_X9_ringOn_0_2
      rw [(f.mk hM).1]
      exact bt (by omega) (hQ τ P' f a1 a2 r2 s)
    | succ m ih =>
      intro i τ P' hi f a1 a2 r2 s
      have hci : 0 ≤ (i : Int) ∧ (i : Int) < n := by omega
      have hwi := hw i hci.1 hci.2
      have hk2 := (f.mk hM).2 i hci.1 hci.2
      have hho := (hG.2 i hci.1 hci.2).2.2.1
      have next : ∀ P1, (0 ≤ P1 ∧ P1 < 16) → (∀ c : Int, 0 ≤ c → (tb P1 c = true ↔ tb P c = true ∧ ¬ (c < ((i + 1 : Nat) : Int) ∧ (¬ ho c = 0 ∨ tb T (wk z u bo k c) = true)))) → WP GM M_X9_ringOn 50 [some (mr 0), some (mi (k : Int)), some (mi T), some (mi (i : Int))] [mi P1, mr 0] τ Q := by
        intro P1 g1 g2
        apply b_X9_ringOn_0_50
        rw [jadd_eq (by omega) (by omega)]
        exact ih (i + 1) _ P1 (by omega) (f.tr (FV.p (Or.inr rfl))) (by rw [mupd_ri (by decide), a1]) (by rw [mupd_at]) g1 g2
      have out : (¬ ho i = 0 ∨ tb T (wk z u bo k i) = true) → WP GM M_X9_ringOn 33 [some (mr 0), some (mi (k : Int)), some (mi T), some (mi (i : Int))] [mr 0] τ Q := by
        intro hh
        apply b_X9_ringOn_0_33
        rw [a2]
        have hN := jandn_N (a := P') (k := (i : Int)) ⟨r2.1, by omega⟩ (by omega)
        have sp : ∀ c : Int, 0 ≤ c → (tb (jand P' (jxor (jshl 1 i) (-1))) c = true ↔ tb P c = true ∧ ¬ (c < ((i + 1 : Nat) : Int) ∧ (¬ ho c = 0 ∨ tb T (wk z u bo k c) = true))) := by
          intro c c0
          rw [tb_andn ⟨r2.1, by omega⟩ (by omega) c0, Bool.and_eq_true, s c c0, decide_eq_true_eq]
          constructor
          · rintro ⟨⟨y1, y2⟩, y3⟩
            exact ⟨y1, fun ⟨a, b⟩ => y2 ⟨by omega, b⟩⟩
          · rintro ⟨y1, y2⟩
            exact ⟨⟨y1, fun ⟨a, b⟩ => y2 ⟨by omega, b⟩⟩, fun e => y2 ⟨by omega, by rw [e]; exact hh⟩⟩
        refine next _ ⟨hN.1, lt_of_tb (p := 4) hN.1 (fun c hc => ?_)⟩ sp
        have hf := tb_high (a := P) (p := 4) hP (k := c) hc
        cases e : tb (jand P' (jxor (jshl 1 i) (-1))) c
        · rfl
        · have := ((sp c (by omega)).mp e).1
          rw [hf] at this; exact absurd this (by decide)
      apply b_X9_ringOn_0_2
      rw [(f.mk hM).1, hk2.2.2.1]
      refine bf (by omega) ⟨by omega, fun y => out (Or.inl (by omega)), fun y => ?_⟩
      refine MKo.wr hG (f.mk hM) hk hci (m_has ⟨hT.1, by omega⟩ (by omega) (fun y2 => bf (by decide) (out (Or.inr y2))) (fun y2 => bt rfl ?_))
      rw [a2]
      refine next P' r2 (fun c c0 => ?_)
      rw [s c c0]
      constructor
      · rintro ⟨y3, y4⟩
        refine ⟨y3, fun ⟨a, b⟩ => ?_⟩
        by_cases e : c = i
        · subst e
          rcases b with b | b
          · exact b (by omega)
          · exact y2 b
        · exact y4 ⟨by omega, b⟩
      · rintro ⟨y3, y4⟩
        exact ⟨y3, fun ⟨a, b⟩ => y4 ⟨by omega, b⟩⟩
  apply e_X9_ringOn_0
  refine key n 0 τ0 P (by omega) FV.rf rfl e2 hP (fun c c0 => ⟨fun y => ⟨y, fun ⟨a, b⟩ => by omega⟩, fun y => y.1⟩)
def spr (w ho : Int → Int) (H P : Int) (n : Nat) : Int × Int := (hS w H P n, pS w ho (hS w H P n) P n)
/-- hands and pockets at bell k -/
def stW (n : Nat) (z u ho : Int → Int) (bo : Int → Int → Int) (T a : Int) : Nat → Int × Int
  | 0 => spr (wk z u bo 0) ho (jshl 1 a) 0 n
  | k + 1 => spr (wk z u bo (k + 1)) ho (stW n z u ho bo T a k).1 (pF (wk z u bo (k + 1)) T (stW n z u ho bo T a k).2 n) n
def INV (n : Nat) (ho : Int → Int) (T : Int) (s : Int × Int) (Pm : Int) : Prop := (0 ≤ s.1 ∧ s.1 < 256) ∧ (0 ≤ s.2 ∧ s.2 < 16) ∧ (0 ≤ Pm ∧ Pm < 16) ∧ (∀ b : Int, 0 ≤ b → tb s.1 b = true → ¬ tb T b = true) ∧ (∀ c : Int, 0 ≤ c → (tb s.2 c = true ↔ tb Pm c = true ∧ ho c = 0)) ∧ ∀ c : Int, 0 ≤ c → tb Pm c = true → c < n
theorem tb_bool {a b : Bool} (h : a = true ↔ b = true) : a = b := by
  cases a <;> cases b <;> simp_all
/-- closing from hands H and what the bell left in the pockets -/
theorem inv_close {n : Nat} {z u ho : Int → Int} {bo : Int → Int → Int} {k : Nat} {T H P Pm : Int} (hG : CFG n z u ho bo) (hH : 0 ≤ H ∧ H < 256) (hP : 0 ≤ P ∧ P < 16) (hm : 0 ≤ Pm ∧ Pm < 16) (h1 : ∀ b : Int, 0 ≤ b → tb H b = true → ¬ tb T b = true) (h2 : ∀ c : Int, 0 ≤ c → tb P c = true → c < n ∧ ho c = 0 ∧ ¬ tb T (wk z u bo k c) = true) (h3 : ∀ c : Int, 0 ≤ c → (tb Pm c = true ↔ tb P c = true ∨ (c < n ∧ ¬ tb T (wk z u bo k c) = true ∧ tb (hS (wk z u bo k) H P n) (wk z u bo k c) = true))) : INV n ho T (spr (wk z u bo k) ho H P n) Pm := by
  have hn := hG.1
  have hw := hG.w k
  have hin := hS_in (w := wk z u bo k) (P := P) hH n hw
  have htb := hS_tb (w := wk z u bo k) (P := P) hH n hw
  have hp := pS_in (w := wk z u bo k) (ho := ho) (H := hS (wk z u bo k) H P n) hP n hn
  have hpt := pS_tb (w := wk z u bo k) (ho := ho) (H := hS (wk z u bo k) H P n) hP n hn
  have hnt : ∀ b : Int, 0 ≤ b → tb (hS (wk z u bo k) H P n) b = true → ¬ tb T b = true := by
    intro b hb y
    rcases (htb b hb).mp y with y | ⟨c, c0, c1, c2, c3⟩
    · exact h1 b hb y
    · rw [← c3]; exact (h2 c c0 c2).2.2
  refine ⟨hin, hp, hm, hnt, fun c c0 => ?_, fun c c0 y => ?_⟩
  · show tb (pS (wk z u bo k) ho (hS (wk z u bo k) H P n) P n) c = true ↔ _
    rw [hpt c c0, h3 c c0]
    constructor
    · rintro (y | ⟨y1, y2, y3⟩)
      · exact ⟨Or.inl y, (h2 c c0 y).2.1⟩
      · exact ⟨Or.inr ⟨y1, hnt _ (hw c c0 y1).1 y3, y3⟩, y2⟩
    · rintro ⟨y | ⟨y1, y2, y3⟩, y4⟩
      · exact Or.inl y
      · exact Or.inr ⟨y1, y4, y3⟩
  · rcases (h3 c c0).mp y with y | y
    · exact (h2 c c0 y).1
    · exact y.1
theorem m_start {n : Nat} {z u ho : Int → Int} {bo : Int → Int → Int} {T a : Int} {τ0 : Mem} {Q : Int → Mem → Prop} (hG : CFG n z u ho bo) (hM : MKo n z u ho bo τ0) (hT : 0 ≤ T ∧ T < 256) (ha : 0 ≤ a ∧ a < 8) (hTa : ¬ tb T a = true) (e1 : τ0 0 18 = jshl 1 a) (e2 : τ0 0 19 = 0) (hQ : ∀ τ' Pm, FV τ0 τ' → τ' 0 18 = (stW n z u ho bo T a 0).1 → τ' 0 19 = Pm → INV n ho T (stW n z u ho bo T a 0) Pm → Q 0 τ') : HT GM M_X9_closeAll [mr 0, mi 0, mi T] τ0 Q := by
  have hs := shl1_256 ha
  have z0 : ∀ c, ¬ tb 0 c = true := fun c => by rw [tb_0]; decide
  refine m_closeAll (k := 0) hG hM (by omega) hT hs (by omega) e1 e2 (fun c _ _ y => absurd y (z0 c)) (fun τ' Pm f a1 a2 r s => hQ τ' Pm f a1 a2 ?_)
  refine inv_close hG hs (by omega) r (fun b hb y => ?_) (fun c _ y => absurd y (z0 c)) s
  rw [tb_shl1 (by omega) hb, decide_eq_true_eq] at y
  rw [← y]; exact hTa
/-- a bell of the reference -/
theorem m_bell {n : Nat} {z u ho : Int → Int} {bo : Int → Int → Int} {T a Pm : Int} {k : Nat} {τ0 : Mem} {Q : Int → Mem → Prop} (hG : CFG n z u ho bo) (hM : MKo n z u ho bo τ0) (hk : k + 1 < 1000) (hT : 0 ≤ T ∧ T < 256) (e1 : τ0 0 18 = (stW n z u ho bo T a k).1) (e2 : τ0 0 19 = Pm) (hI : INV n ho T (stW n z u ho bo T a k) Pm) (hQ : ∀ τ1, FV τ0 τ1 → τ1 0 19 = pF (wk z u bo (k + 1)) T (stW n z u ho bo T a k).2 n → HT GM M_X9_closeAll [mr 0, mi ((k : Int) + 1), mi T] τ1 (fun _ s => ∃ Pm, FV τ0 s ∧ s 0 18 = (stW n z u ho bo T a (k + 1)).1 ∧ s 0 19 = Pm ∧ INV n ho T (stW n z u ho bo T a (k + 1)) Pm) → Q 0 τ1) : HT GM M_X9_ringOn [mr 0, mi ((k : Int) + 1), mi T] τ0 Q := by
  have hn := hG.1
  obtain ⟨i1, i2, i3, i4, i5, i6⟩ := hI
  have hp := pF_in (w := wk z u bo (k + 1)) (T := T) i2 n hn
  rw [show (k : Int) + 1 = ((k + 1 : Nat) : Int) by omega] at hQ ⊢
  refine m_ringOn hG hM hk hT i3 e2 (fun τ1 P1 f a1 a2 r s => ?_)
  have hE : P1 = pF (wk z u bo (k + 1)) T (stW n z u ho bo T a k).2 n := by
    refine tb_ext r.1 hp.1.1 (fun c c0 => tb_bool ?_)
    rw [s c c0, hp.2 c c0, i5 c c0]
    constructor
    · rintro ⟨y1, y2⟩
      have hcn := i6 c c0 y1
      exact ⟨⟨y1, Classical.byContradiction (fun e => y2 ⟨hcn, Or.inl e⟩)⟩, fun ⟨a, b⟩ => y2 ⟨a, Or.inr b⟩⟩
    · rintro ⟨⟨y1, y2⟩, y3⟩
      refine ⟨y1, fun ⟨a, b⟩ => ?_⟩
      rcases b with b | b
      · exact b y2
      · exact y3 ⟨a, b⟩
  subst hE
  have h2 : ∀ c : Int, 0 ≤ c → tb (pF (wk z u bo (k + 1)) T (stW n z u ho bo T a k).2 n) c = true → c < n ∧ ho c = 0 ∧ ¬ tb T (wk z u bo (k + 1) c) = true := by
    intro c c0 y
    obtain ⟨y1, y2⟩ := (hp.2 c c0).mp y
    obtain ⟨y3, y4⟩ := (i5 c c0).mp y1
    have hcn := i6 c c0 y3
    exact ⟨hcn, y4, fun e => y2 ⟨hcn, e⟩⟩
  refine hQ τ1 f a2 (m_closeAll hG (f.mk hM) hk hT i1 hp.1 (by rw [a1, e1]) a2 (fun c c0 _ y => (h2 c c0 y).2.2) (fun τ2 Pm2 g b1 b2 q1 q2 => ⟨Pm2, f.tr g, b1, b2, inv_close hG i1 hp.1 q1 i4 h2 q2⟩))
