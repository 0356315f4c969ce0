/-! reading the tape -/
theorem mupd_up {σ : Mem} {k : Nat} {i v w : Int} : mupd (mupd σ k i v) k i w = mupd σ k i w := by
  funext a b
  unfold mupd
  by_cases h : a = k ∧ b = i
  · rw [if_pos h, if_pos h]
  · rw [if_neg h, if_neg h, if_neg h]
def skn (b : Int → Int) (L : Int) : Nat → Int → Int
  | 0, p => p
  | n + 1, p => if b p = 32 then skn b L n (p + 1) else p
/-- the first byte at or after p that is no blank -/
def sk (b : Int → Int) (L p : Int) : Int := skn b L (L - p).toNat p
theorem skn_in (b : Int → Int) (L : Int) : ∀ (n : Nat) (p : Int), p + n = L → (p ≤ skn b L n p ∧ skn b L n p ≤ L) ∧ (skn b L n p < L → b (skn b L n p) ≠ 32)
  | 0, p, h => by
    simp only [skn]
    omega
  | n + 1, p, h => by
    have ih := skn_in b L n (p + 1) (by omega)
    simp only [skn]
    by_cases e : b p = 32
    · rw [if_pos e]; exact ⟨by omega, ih.2⟩
    · rw [if_neg e]; exact ⟨by omega, fun _ => e⟩
theorem sk_in {b : Int → Int} {L p : Int} (h : p ≤ L) : p ≤ sk b L p ∧ sk b L p ≤ L := (skn_in b L (L - p).toNat p (by omega)).1
theorem sk_nb {b : Int → Int} {L p : Int} (h : p ≤ L) (h2 : sk b L p < L) : b (sk b L p) ≠ 32 := (skn_in b L (L - p).toNat p (by omega)).2 h2
theorem sk_fix {b : Int → Int} {L q : Int} (h : q < L → b q ≠ 32) : sk b L q = q := by
  unfold sk
  cases e : (L - q).toNat with
  | zero => rfl
  | succ n => simp only [skn]; rw [if_neg (h (by omega))]
theorem sk_sk {b : Int → Int} {L p : Int} (h : p ≤ L) : sk b L (sk b L p) = sk b L p := sk_fix (sk_nb h)
theorem sk_L {b : Int → Int} {L : Int} : sk b L L = L := sk_fix (fun h => by omega)
theorem sk_one {b : Int → Int} {L p : Int} (h : p < L) (e : b p = 32) : sk b L (p + 1) = sk b L p := by
  unfold sk
  rw [show (L - p).toNat = (L - (p + 1)).toNat + 1 by omega]
  simp only [skn]
  rw [if_pos e]
def BY (b : Int → Int) (L : Int) : Prop := (0 ≤ L ∧ L ≤ 100) ∧ ∀ i, 0 ≤ i → i < L → 32 ≤ b i ∧ b i ≤ 126
def TC (b : Int → Int) (L p : Int) (σ : Mem) : Prop := σ 25 1 = L ∧ σ 25 2 = p ∧ (0 ≤ p ∧ p ≤ L) ∧ ∀ i, 0 ≤ i → i < L → σ 26 i = b i
def TM (b : Int → Int) (L p : Int) (τ : Mem) : Prop := τ 0 14 = L ∧ τ 0 15 = p ∧ (0 ≤ p ∧ p ≤ L) ∧ ∀ i, 0 ≤ i → i < L → τ 10 i = b i
theorem TC.up {b : Int → Int} {L p q : Int} {σ : Mem} (h : TC b L p σ) (hq : 0 ≤ q ∧ q ≤ L) : TC b L q (mupd σ 25 2 q) :=
  ⟨by rw [mupd_ri (by decide)]; exact h.1, by rw [mupd_at], hq, by rw [mupd_ne _ (by decide)]; exact h.2.2.2⟩
theorem TM.up {b : Int → Int} {L p q : Int} {τ : Mem} (h : TM b L p τ) (hq : 0 ≤ q ∧ q ≤ L) : TM b L q (mupd τ 0 15 q) :=
  ⟨by rw [mupd_ri (by decide)]; exact h.1, by rw [mupd_at], hq, by rw [mupd_ne _ (by decide)]; exact h.2.2.2⟩
theorem TC.fr {b : Int → Int} {L p : Int} {σ σ' : Mem} (h : TC b L p σ) (h5 : σ' 25 = σ 25) (h6 : σ' 26 = σ 26) : TC b L p σ' := by
  unfold TC at *; rw [h5, h6]; exact h
theorem TM.fr {b : Int → Int} {L p : Int} {τ τ' : Mem} (h : TM b L p τ) (h0 : τ' 0 14 = τ 0 14) (h1 : τ' 0 15 = τ 0 15) (h2 : τ' 10 = τ 10) : TM b L p τ' := by
  unfold TM at *; rw [h0, h1, h2]; exact h
theorem c_atEnd {b : Int → Int} {L p : Int} {σ : Mem} {Q : Int → Mem → Prop} (hB : BY b L) (hT : TC b L p σ) (h1 : L ≤ sk b L p → Q 1 (mupd σ 25 2 (sk b L p))) (h0 : sk b L p < L → Q 0 (mupd σ 25 2 (sk b L p))) : HT GC M_X5_atEnd [mr 25] σ Q := by
  have h38 : ∀ σ1, TC b L (sk b L p) σ1 → σ1 = mupd σ 25 2 (sk b L p) → WP GC M_X5_atEnd 38 [some (mr 25)] [] σ1 Q := by
    intro σ1 t1 e1
    apply b_X5_atEnd_25_38
    rw [t1.1, t1.2.1, e1]
    exact ⟨h0, fun z => h1 (by omega)⟩
  have hin := hB.1
  have key : ∀ (n : Nat) (q : Int) (σ1 : Mem), q + n = L → TC b L q σ1 → sk b L q = sk b L p → mupd σ1 25 2 (sk b L p) = mupd σ 25 2 (sk b L p) → ((σ1 25 1 ≤ σ1 25 2 → WP GC M_X5_atEnd 38 [some (mr 25)] [] σ1 Q) ∧ (¬ σ1 25 1 ≤ σ1 25 2 → (0 ≤ σ1 25 2 ∧ σ1 25 2 < 100) ∧ ((¬ σ1 26 (σ1 25 2) = 32 → WP GC M_X5_atEnd 38 [some (mr 25)] [] σ1 Q) ∧ (σ1 26 (σ1 25 2) = 32 → WP GC M_X5_atEnd 0 [some (mr 25)] [] (mupd σ1 25 2 (jadd (σ1 25 2) 1)) Q)))) := by
    intro n
    induction n with
    | zero =>
      intro q σ1 hq t1 hs he
      rw [t1.1, t1.2.1]
      obtain rfl : q = L := by omega
      rw [sk_L] at hs
      refine ⟨fun _ => h38 σ1 (by rw [← hs]; exact t1) ?_, fun z => absurd (by omega) z⟩
      rw [← he, ← hs]
      exact (mupd_self t1.2.1).symm
    | succ n ih =>
      intro q σ1 hq t1 hs he
      have t12 := t1.2.1
      have t13 := t1.2.2.1
      rw [t1.1, t12]
      refine ⟨fun z => absurd z (by omega), fun _ => ⟨by omega, ?_⟩⟩
      rw [t1.2.2.2 q (by omega) (by omega), jadd_eq (by omega) (by omega)]
      refine ⟨fun z => h38 σ1 ?_ ?_, fun z => ?_⟩
      · rw [← hs, sk_fix (fun _ => z)]; exact t1
      · rw [← he, ← hs, sk_fix (fun _ => z)]
        exact (mupd_self t12).symm
      · apply b_X5_atEnd_25_0
        refine ih (q + 1) _ (by omega) (t1.up (by omega)) ?_ ?_
        · rw [sk_one (by omega) z, hs]
        · rw [mupd_up, he]
  apply e_X5_atEnd_25
  have := hT.2.2.1
  exact key (L - p).toNat p σ (by omega) hT rfl rfl
theorem m_next {b : Int → Int} {L p : Int} {τ : Mem} {Q : Int → Mem → Prop} (hB : BY b L) (hT : TM b L p τ) (h1 : L ≤ sk b L p → Q (-1) (mupd τ 0 15 (sk b L p))) (h0 : sk b L p < L → Q (b (sk b L p)) (mupd τ 0 15 (sk b L p))) : HT GM M_X9_nextByte [mr 0] τ Q := by
  have h38 : ∀ τ1, TM b L (sk b L p) τ1 → τ1 = mupd τ 0 15 (sk b L p) → WP GM M_X9_nextByte 38 [some (mr 0)] [] τ1 Q := by
    intro τ1 t1 e1
    apply b_X9_nextByte_0_38
    have t13 := t1.2.2.1
    have hL := hB.1
    rw [t1.1, t1.2.1]
    refine ⟨fun z => by rw [e1]; exact h1 z, fun z => ⟨by omega, ?_⟩⟩
    rw [t1.2.2.2 _ (by omega) (by omega), e1]
    exact h0 (by omega)
  have hin := hB.1
  have key : ∀ (n : Nat) (q : Int) (τ1 : Mem), q + n = L → TM b L q τ1 → sk b L q = sk b L p → mupd τ1 0 15 (sk b L p) = mupd τ 0 15 (sk b L p) → ((τ1 0 14 ≤ τ1 0 15 → WP GM M_X9_nextByte 38 [some (mr 0)] [] τ1 Q) ∧ (¬ τ1 0 14 ≤ τ1 0 15 → (0 ≤ τ1 0 15 ∧ τ1 0 15 < 100) ∧ ((¬ τ1 10 (τ1 0 15) = 32 → WP GM M_X9_nextByte 38 [some (mr 0)] [] τ1 Q) ∧ (τ1 10 (τ1 0 15) = 32 → WP GM M_X9_nextByte 0 [some (mr 0)] [] (mupd τ1 0 15 (jadd (τ1 0 15) 1)) Q)))) := by
    intro n
    induction n with
    | zero =>
      intro q τ1 hq t1 hs he
      rw [t1.1, t1.2.1]
      obtain rfl : q = L := by omega
      rw [sk_L] at hs
      refine ⟨fun _ => h38 τ1 (by rw [← hs]; exact t1) ?_, fun z => absurd (by omega) z⟩
      rw [← he, ← hs]
      exact (mupd_self t1.2.1).symm
    | succ n ih =>
      intro q τ1 hq t1 hs he
      have t12 := t1.2.1
      have t13 := t1.2.2.1
      rw [t1.1, t12]
      refine ⟨fun z => absurd z (by omega), fun _ => ⟨by omega, ?_⟩⟩
      rw [t1.2.2.2 q (by omega) (by omega), jadd_eq (by omega) (by omega)]
      refine ⟨fun z => h38 τ1 ?_ ?_, fun z => ?_⟩
      · rw [← hs, sk_fix (fun _ => z)]; exact t1
      · rw [← he, ← hs, sk_fix (fun _ => z)]
        exact (mupd_self t12).symm
      · apply b_X9_nextByte_0_0
        refine ih (q + 1) _ (by omega) (t1.up (by omega)) ?_ ?_
        · rw [sk_one (by omega) z, hs]
        · rw [mupd_up, he]
  apply e_X9_nextByte_0
  have := hT.2.2.1
  exact key (L - p).toNat p τ (by omega) hT rfl rfl
/-- a digit below m stands next -/
def dgt (b : Int → Int) (L p m : Int) : Prop := sk b L p < L ∧ 0 ≤ b (sk b L p) - 48 ∧ b (sk b L p) - 48 < m
theorem sk_ok {b : Int → Int} {L p : Int} (hp : 0 ≤ p ∧ p ≤ L) : 0 ≤ sk b L p ∧ sk b L p ≤ L := by
  have := sk_in (b := b) hp.2
  omega
theorem c_digit {b : Int → Int} {L p m : Int} {σ : Mem} {Q : Int → Mem → Prop} (hB : BY b L) (hT : TC b L p σ) (h1 : dgt b L p m → Q (b (sk b L p) - 48) (mupd σ 25 2 (sk b L p))) (h0 : ¬ dgt b L p m → Q (-4) (mupd σ 25 2 (sk b L p))) : HT GC M_X5_digitBelow [mr 25, mi m] σ Q := by
  apply e_X5_digitBelow_25
  have hq := sk_ok (b := b) hT.2.2.1
  have hL := hB.1
  refine c_atEnd hB hT (fun z => br1 (h0 (fun q => by have := q.1; omega))) (fun z => br0 ?_)
  have tt := hT.up hq
  have hy := hB.2 _ hq.1 z
  rw [tt.2.1, tt.2.2.2 _ hq.1 z, jsub_eq (by omega) (by omega)]
  exact ⟨by omega, c_within (fun k => br1 (h1 ⟨z, k⟩)) (fun k => br0 (h0 (fun q => k q.2)))⟩
theorem c_passes {b : Int → Int} {L p x : Int} {σ : Mem} {Q : Int → Mem → Prop} (hB : BY b L) (hT : TC b L p σ) (h1 : sk b L p < L → b (sk b L p) = x → Q 1 (mupd σ 25 2 (sk b L p + 1))) (h0 : ¬ (sk b L p < L ∧ b (sk b L p) = x) → Q 0 (mupd σ 25 2 (sk b L p))) : HT GC M_X5_passes [mr 25, mi x] σ Q := by
  apply e_X5_passes_25
  have hq := sk_ok (b := b) hT.2.2.1
  have hL := hB.1
  refine c_atEnd hB hT (fun z => bn1 (h0 (fun q => by have := q.1; omega))) (fun z => bn0 ?_)
  have tt := hT.up hq
  rw [tt.2.1, tt.2.2.2 _ hq.1 z, jadd_eq (by omega) (by omega), mupd_up]
  exact ⟨by omega, fun e => h1 z e, fun e => h0 (fun q => e q.2)⟩
theorem c_passDigit {b : Int → Int} {L p m : Int} {σ : Mem} {Q : Int → Mem → Prop} (hB : BY b L) (hT : TC b L p σ) (h1 : dgt b L p m → Q (b (sk b L p) - 48) (mupd σ 25 2 (sk b L p + 1))) (h0 : ¬ dgt b L p m → Q (-4) (mupd σ 25 2 (sk b L p))) : HT GC M_X5_passDigit [mr 25, mi m] σ Q := by
  apply e_X5_passDigit_25
  have hq := sk_ok (b := b) hT.2.2.1
  have hL := hB.1
  have tt := hT.up hq
  refine c_digit hB hT (fun z => ?_) (fun z => ⟨fun _ => h0 z, fun k => absurd rfl k⟩)
  rw [tt.2.1, jadd_eq (by omega) (by omega), mupd_up]
  exact ⟨fun k => by have := z.2.1; omega, fun _ => h1 z⟩
theorem m_digit {b : Int → Int} {L p m : Int} {τ : Mem} {Q : Int → Mem → Prop} (hB : BY b L) (hT : TM b L p τ) (h1 : dgt b L p (m + 1) → Q (b (sk b L p) - 48) (mupd τ 0 15 (sk b L p + 1))) (h0 : ¬ dgt b L p (m + 1) → Q (-1) (mupd τ 0 15 (sk b L p))) : HT GM M_X9_readDigit [mr 0, mi m] τ Q := by
  apply e_X9_readDigit_0
  have hq := sk_ok (b := b) hT.2.2.1
  have hL := hB.1
  have tt := hT.up hq
  refine m_next hB hT (fun z => ?_) (fun z => ?_)
  · rw [jsub_eq (by omega) (by omega)]
    exact c_in (fun k => absurd k.1 (by decide)) (fun _ => bn0 (h0 (fun q => by have := q.1; omega)))
  · have hy := hB.2 _ hq.1 z
    rw [jsub_eq (by omega) (by omega)]
    refine c_in (fun k => bn1 ?_) (fun k => bn0 (h0 (fun q => k ⟨q.2.1, by have := q.2.2; omega⟩)))
    rw [tt.2.1, jadd_eq (by omega) (by omega), mupd_up]
    exact h1 ⟨z, k.1, by omega⟩
