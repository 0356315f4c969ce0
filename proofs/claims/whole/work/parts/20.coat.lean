/-! coat -/
theorem RR.gen {σ σ' τ τ' : Mem} (hR : RR σ τ) (s1 : ∀ k, k = 0 ∨ k = 1 ∨ k = 2 ∨ (13 ≤ k ∧ k ≤ 24) ∨ (46 ≤ k ∧ k ≤ 49) → σ' k = σ k) (t1 : ∀ k, k = 9 ∨ (17 ≤ k ∧ k ≤ 20) → τ' k = τ k) (t0 : ∀ j, j = 9 ∨ j = 11 ∨ j = 12 ∨ j = 26 → τ' 0 j = τ 0 j) (s8 : σ' 8 0 = σ 8 0) (hn : 0 ≤ τ' 0 4 ∧ τ' 0 4 ≤ 4) (s3 : σ' 3 0 = τ' 0 4) (hc : ∀ c, 0 ≤ c → c < τ' 0 4 → CO τ' c ∧ EQC 4 5 6 7 σ' τ' c) (ht : ∀ t, 0 ≤ t → t < τ 0 9 → TH τ' t ∧ EQT 9 10 11 12 σ' τ' t) (hp : TP σ' τ') : RR σ' τ' := by
  have hV := hR.1
  have hE := hR.2.1
  refine ⟨⟨hn, ?_, ?_, ?_, ?_, ?_, ?_⟩, ⟨s3, ?_, ?_, ?_, ?_, ?_, ?_⟩, ?_, hp, ?_⟩
  · rw [t0 9 (by omega)]; exact hV.2.1
  · exact fun c a b => (hc c a b).1
  · rw [t0 9 (by omega)]; exact fun t a b => (ht t a b).1
  · rw [t1 9 (by omega)]; exact hV.2.2.2.2.1
  · rw [t0 11 (by omega)]; exact hV.2.2.2.2.2.1
  · rw [t0 12 (by omega)]; exact hV.2.2.2.2.2.2
  · rw [t0 9 (by omega), s8]; exact hE.2.1
  · rw [t0 11 (by omega), s1 1 (by omega)]; exact hE.2.2.1
  · rw [t0 12 (by omega), s1 1 (by omega)]; exact hE.2.2.2.1
  · exact fun c a b => (hc c a b).2
  · rw [t0 9 (by omega)]; exact fun t a b => (ht t a b).2
  · rw [t1 9 (by omega), s1 2 (by omega)]; exact hE.2.2.2.2.2.2
  · exact hR.2.2.1.fr (fun k k1 k2 => s1 k (by omega)) (by rw [s1 0 (by omega)]) (t1 17 (by omega)) (t0 26 (by omega))
  · exact hR.2.2.2.2.fr (fun k k1 k2 => s1 k (by omega)) (fun k k1 k2 => t1 k (by omega))
/-- how many of the bits 0 .. 7 -/
def pcI (x : Int) : Int := (((List.range 8).filter (fun i => x.toNat.testBit i)).length : Nat)
def bcF (x0 : Int) : Int := (jand (jadd (jadd (jand (jadd (jadd (jand (jsub x0 (jand (jushr x0 1) 1431655765)) 858993459) (jand (jushr (jsub x0 (jand (jushr x0 1) 1431655765)) 2) 858993459)) (jushr (jadd (jand (jsub x0 (jand (jushr x0 1) 1431655765)) 858993459) (jand (jushr (jsub x0 (jand (jushr x0 1) 1431655765)) 2) 858993459)) 4)) 252645135) (jushr (jand (jadd (jadd (jand (jsub x0 (jand (jushr x0 1) 1431655765)) 858993459) (jand (jushr (jsub x0 (jand (jushr x0 1) 1431655765)) 2) 858993459)) (jushr (jadd (jand (jsub x0 (jand (jushr x0 1) 1431655765)) 858993459) (jand (jushr (jsub x0 (jand (jushr x0 1) 1431655765)) 2) 858993459)) 4)) 252645135) 8)) (jushr (jadd (jand (jadd (jadd (jand (jsub x0 (jand (jushr x0 1) 1431655765)) 858993459) (jand (jushr (jsub x0 (jand (jushr x0 1) 1431655765)) 2) 858993459)) (jushr (jadd (jand (jsub x0 (jand (jushr x0 1) 1431655765)) 858993459) (jand (jushr (jsub x0 (jand (jushr x0 1) 1431655765)) 2) 858993459)) 4)) 252645135) (jushr (jand (jadd (jadd (jand (jsub x0 (jand (jushr x0 1) 1431655765)) 858993459) (jand (jushr (jsub x0 (jand (jushr x0 1) 1431655765)) 2) 858993459)) (jushr (jadd (jand (jsub x0 (jand (jushr x0 1) 1431655765)) 858993459) (jand (jushr (jsub x0 (jand (jushr x0 1) 1431655765)) 2) 858993459)) 4)) 252645135) 8)) 16)) 63)
theorem bc_all : ∀ n : Nat, n < 256 → bcF (n : Int) = pcI n := by decide +kernel
theorem on_all : ∀ n : Nat, n < 256 → n ≠ 0 → (0 ≤ jand n (jsub n 1) ∧ jand n (jsub n 1) < 256) ∧ pcI (jand n (jsub n 1)) + 1 = pcI n := by decide +kernel
theorem add_all : ∀ n : Nat, n < 256 → ∀ d : Nat, d < 8 → pcI (jor n (jshl 1 d)) = (if tb n d then pcI n else pcI n + 1) := by decide +kernel
theorem pc_le : ∀ n : Nat, n < 256 → 0 ≤ pcI n ∧ pcI n ≤ 8 := by decide +kernel
theorem c_bitCount {x : Int} {σ : Mem} {Q : Int → Mem → Prop} (hx : 0 ≤ x ∧ x < 256) (h : Q (pcI x) σ) : HT GC M_J6_bitCount_0f7a4 [mi x] σ Q := by
  apply e_J6_bitCount_0f7a4
  obtain ⟨n, rfl⟩ := nn_of hx.1
  have e := bc_all n (by omega)
  unfold bcF at e
  rw [e]; exact h
theorem c_ones {σ : Mem} {Q : Int → Mem → Prop} : ∀ (m : Nat) (x a : Int), 0 ≤ x ∧ x < 256 → pcI x ≤ m → 0 ≤ a ∧ a ≤ 100 - m → Q (a + pcI x) σ → WP GM M_X9_ones 4 [none, some (mi a), some (mi x)] [] σ Q
  | 0, x, a, hx, hp, ha, h => by
    apply b_X9_ones_4
    obtain ⟨n, rfl⟩ := nn_of hx.1
    have h1 := pc_le n (by omega)
    by_cases e : (n : Int) = 0
    · refine ⟨fun _ => ?_, fun z => absurd e z⟩
      rw [show a + pcI (n : Int) = a by omega] at h
      exact h
    · have h2 := on_all n (by omega) (by omega)
      have h3 := pc_le (jand n (jsub n 1)).toNat (by omega)
      rw [show ((jand (n : Int) (jsub n 1)).toNat : Int) = jand n (jsub n 1) by omega] at h3
      omega
  | m + 1, x, a, hx, hp, ha, h => by
    apply b_X9_ones_4
    by_cases e : x = 0
    · refine ⟨fun _ => ?_, fun z => absurd e z⟩
      rw [e, show a + pcI 0 = a by rw [show pcI 0 = 0 from by decide]; omega] at h
      exact h
    · refine ⟨fun z => absurd z e, fun _ => ?_⟩
      obtain ⟨n, rfl⟩ := nn_of hx.1
      have h2 := on_all n (by omega) (by omega)
      rw [jadd_eq (by omega) (by omega)]
      refine c_ones m _ _ h2.1 (by omega) (by omega) ?_
      rw [show a + 1 + pcI (jand (n : Int) (jsub n 1)) = a + pcI n by omega]
      exact h
/-- digit k of a turn, and the boys seen in the first k digits -/
def dg (t k : Int) : Int := jand (jshr t (jmul 3 k)) 7
def sn (t : Int) : Nat → Int
  | 0 => 0
  | k + 1 => jor (sn t k) (jshl 1 (dg t k))
theorem dg_in {t k : Int} (ht : N31 t) (hk : 0 ≤ k ∧ k < 4) : 0 ≤ dg t k ∧ dg t k < 8 := digit_in ht hk
theorem sn_in {t : Int} (ht : N31 t) : ∀ k : Nat, k ≤ 4 → 0 ≤ sn t k ∧ sn t k < 256
  | 0, _ => by simp [sn]
  | k + 1, h => jor_256 (sn_in ht k (by omega)) (shl1_256 (dg_in ht (by omega)))
theorem sn_tb {t : Int} (ht : N31 t) : ∀ k : Nat, k ≤ 4 → ∀ d, 0 ≤ d → (tb (sn t k) d = true ↔ ∃ j : Int, 0 ≤ j ∧ j < k ∧ dg t j = d)
  | 0, _, d, _ => by
    simp only [sn, tb_0]
    constructor
    · intro z; exact absurd z (by decide)
    · rintro ⟨j, a, b, _⟩; omega
  | k + 1, h, d, hd => by
    have ih := sn_tb ht k (by omega) d hd
    have hs := sn_in ht k (by omega)
    have hg := dg_in (k := k) ht (by omega)
    have hb := shl1_256 hg
    simp only [sn]
    rw [tb_or ⟨hs.1, by omega⟩ ⟨hb.1, by omega⟩, tb_shl1 (by omega) hd, Bool.or_eq_true, ih, decide_eq_true_eq]
    constructor
    · rintro (⟨j, a, b, c⟩ | c)
      · exact ⟨j, a, by omega, c⟩
      · exact ⟨k, by omega, by omega, c⟩
    · rintro ⟨j, a, b, c⟩
      by_cases e : j = k
      · right; rw [← e]; exact c
      · left; exact ⟨j, a, by omega, c⟩
theorem sn_pc {t : Int} (ht : N31 t) (k : Nat) (hk : k < 4) : pcI (sn t (k + 1)) = if tb (sn t k) (dg t k) then pcI (sn t k) else pcI (sn t k) + 1 := by
  have hs := sn_in ht k (by omega)
  have hg := dg_in (k := k) ht (by omega)
  obtain ⟨n, hn⟩ := nn_of hs.1
  obtain ⟨d, hd⟩ := nn_of hg.1
  simp only [sn]
  rw [hn, hd]
  exact add_all n (by omega) d (by omega)
theorem sn_le {t : Int} (ht : N31 t) : ∀ k : Nat, k ≤ 4 → pcI (sn t k) ≤ k
  | 0, _ => by simp only [sn]; rw [show pcI 0 = 0 from by decide]; omega
  | k + 1, h => by
    have ih := sn_le ht k (by omega)
    rw [sn_pc ht k (by omega)]
    split <;> omega
theorem sn_dis {t : Int} (ht : N31 t) : ∀ k : Nat, k ≤ 4 → pcI (sn t k) = k → ∀ i j : Int, 0 ≤ i → i < j → j < k → dg t i ≠ dg t j
  | 0, _, _, i, j, a, b, c => by omega
  | k + 1, h, hp, i, j, a, b, c => by
    have hl := sn_le ht k (by omega)
    rw [sn_pc ht k (by omega)] at hp
    by_cases ht' : tb (sn t k) (dg t k) = true
    · rw [if_pos ht'] at hp; omega
    · rw [if_neg ht'] at hp
      by_cases e : j = k
      · intro z
        apply ht'
        rw [sn_tb ht k (by omega) _ (dg_in ht (by omega)).1]
        exact ⟨i, a, by omega, by rw [z, e]⟩
      · exact sn_dis ht k (by omega) (by omega) i j a b (by omega)
theorem shl1_3 (n : Nat) (h : 3 * n < 31) : jshl 1 (jmul 3 (n : Int)) = ((2 ^ (3 * n) : Nat) : Int) := by
  rw [jmul_eq (by omega) (by omega), show (3 * (n : Int)) = ((3 * n : Nat) : Int) by omega]
  have h2 := p2_31 (3 * n) h
  have e := jshl_nat 1 (3 * n) (by omega) (by omega)
  rw [show ((1 : Nat) : Int) = 1 from rfl, Nat.one_mul] at e
  exact e
def okT (t s : Int) : Prop := (1 ≤ s ∧ s ≤ 4) ∧ (0 ≤ t ∧ t < jshl 1 (jmul 3 s)) ∧ pcI (sn t s.toNat) = s
theorem shl3_in {s : Int} (hs : 1 ≤ s ∧ s ≤ 4) : 1 ≤ jshl 1 (jmul 3 s) ∧ jshl 1 (jmul 3 s) ≤ 4096 := by
  rcases (by omega : s = 1 ∨ s = 2 ∨ s = 3 ∨ s = 4) with e | e | e | e <;> subst e <;> decide
theorem c_isTurn {t s : Int} {σ : Mem} {Q : Int → Mem → Prop} (h1 : okT t s → Q 1 σ) (h0 : ¬ okT t s → Q 0 σ) : HT GC M_X8_isTurn [mi t, mi s] σ Q := by
  apply e_X8_isTurn
  refine ⟨fun z => h0 (fun q => by have := q.1; omega), fun a => ⟨fun z => h0 (fun q => by have := q.1; omega), fun b => ?_⟩⟩
  have hs : 1 ≤ s ∧ s ≤ 4 := by omega
  have hq := shl3_in hs
  refine c_within (fun ht => bn1 ?_) (fun ht => bn0 (h0 (fun q => ht q.2.1)))
  have hN : N31 t := by omega
  have key : ∀ (m k : Nat), (k : Int) + m = s → WP GC M_X8_isTurn 28 [some (mi t), some (mi s), some (mi (sn t k)), some (mi (k : Int))] [] σ Q := by
    intro m
    induction m with
    | zero =>
      intro k hk
      obtain rfl : s = k := by omega
      refine b_X8_isTurn_28 _ _ _ _ ⟨fun _ => ?_, fun z => absurd (by omega) z⟩
      refine c_bitCount (sn_in hN k (by omega)) ⟨fun z => h0 (fun q => ?_), fun z => h1 ⟨by omega, ht, ?_⟩⟩
      · have := q.2.2
        rw [Int.toNat_natCast] at this
        omega
      · rw [Int.toNat_natCast]; exact z
    | succ m ih =>
      intro k hk
      have ih2 := ih (k + 1) (by omega)
      refine b_X8_isTurn_28 _ _ _ _ ⟨fun z => absurd z (by omega), fun _ => ?_⟩
      rw [jadd_eq (by omega) (by omega)]
      exact ih2
  exact key s.toNat 0 (by omega)
/-- what the new coat is -/
def NCC (σ : Mem) (n t s h : Int) (σ' : Mem) : Prop := (∀ k, k ≤ 2 ∨ 8 ≤ k → σ' k = σ k) ∧ σ' 3 0 = n + 1 ∧ (∀ i, σ' 4 i = if 4 * n ≤ i ∧ i < 4 * n + s then dg t (i - 4 * n) else σ 4 i) ∧ (∀ i, σ' 5 i = if i = n then s else σ 5 i) ∧ (∀ i, σ' 6 i = if i = n then 0 else σ 6 i) ∧ (∀ i, σ' 7 i = if i = n then h else σ 7 i)
def NCM (τ : Mem) (n t s h : Int) (τ' : Mem) : Prop := (∀ k, 5 ≤ k → τ' k = τ k) ∧ (∀ j, j ≠ 4 → τ' 0 j = τ 0 j) ∧ τ' 0 4 = n + 1 ∧ (∀ i, τ' 4 i = if 4 * n ≤ i ∧ i < 4 * n + s then dg t (i - 4 * n) else τ 4 i) ∧ (∀ i, τ' 1 i = if i = n then s else τ 1 i) ∧ (∀ i, τ' 2 i = if i = n then 0 else τ 2 i) ∧ (∀ i, τ' 3 i = if i = n then h else τ 3 i)
theorem mupd_ap (σ : Mem) (k : Nat) (i v j : Int) : (mupd σ k i v) k j = if j = i then v else σ k j := by
  by_cases e : j = i
  · rw [if_pos e, e, mupd_at]
  · rw [if_neg e, mupd_ri e]
theorem l_coatC {n t s h : Int} {σ0 : Mem} {Q : Int → Mem → Prop} (hn : 0 ≤ n ∧ n < 4) (hs : 1 ≤ s ∧ s ≤ 4) (hQ : ∀ σ', NCC σ0 n t s h σ' → Q n σ') : ∀ (m k : Nat) (σ : Mem), (k : Int) + m = s → (∀ q, q ≤ 2 ∨ 8 ≤ q → σ q = σ0 q) → σ 3 0 = n → (∀ i, σ 4 i = if 4 * n ≤ i ∧ i < 4 * n + k then dg t (i - 4 * n) else σ0 4 i) → (∀ i, σ 5 i = if i = n then (k : Int) else σ0 5 i) → (∀ i, σ 6 i = if i = n then 0 else σ0 6 i) → σ 7 = σ0 7 → WP GC M_X8_coat 48 [some (mr 0), some (mi t), some (mi s), some (mi h), some (mi (k : Int))] [] σ Q
  | 0, k, σ, hk, f, a3, a4, a5, a6, a7 => by
    obtain rfl : s = k := by omega
    refine b_X8_coat_0_48 _ _ _ _ ⟨fun _ => ?_, fun z => absurd (by omega) z⟩
    refine e_X0_close_3 _ ⟨fun z => absurd z (by omega), fun _ => ⟨by omega, ?_⟩⟩
    rw [mupd_at, a3, jadd_eq (by omega) (by omega), jsub_eq (by omega) (by omega), show n + 1 - 1 = n by omega]
    refine hQ _ ⟨fun q hq => by rw [mupd_ne _ (by omega), mupd_ne _ (by omega), f q hq], by rw [mupd_at], fun i => ?_, fun i => ?_, fun i => ?_, fun i => ?_⟩
    · rw [mupd_rp (by decide), mupd_rp (by decide), a4]
    · rw [mupd_rp (by decide), mupd_rp (by decide), a5]
    · rw [mupd_rp (by decide), mupd_rp (by decide), a6]
    · rw [mupd_rp (by decide), mupd_ap, a7]
  | m + 1, k, σ, hk, f, a3, a4, a5, a6, a7 => by
    have e5 : σ 5 n = k := by rw [a5, if_pos rfl]
    refine b_X8_coat_0_48 _ _ _ _ ⟨fun z => absurd z (by omega), fun _ => ?_⟩
    apply e_X0_join_3
    rw [a3, e5, jmul_eq (by omega) (by omega), jadd_eq (a := (k : Int)) (b := 1) (by omega) (by omega), jadd_eq (a := n * 4) (by omega) (by omega)]
    refine ⟨fun z => absurd z (by omega), fun _ => ⟨by omega, fun z => absurd z (by omega), fun _ => ⟨by omega, by omega, by omega, by omega, ?_⟩⟩⟩
    have ih := l_coatC (t := t) (h := h) (σ0 := σ0) hn hs hQ m (k + 1) (mupd (mupd σ 4 (n * 4 + (k : Int)) (dg t k)) 5 n ((k : Int) + 1)) (by omega) (fun q hq => by rw [mupd_ne _ (by omega), mupd_ne _ (by omega), f q hq]) (by rw [mupd_rp (by decide), mupd_rp (by decide), a3]) (fun i => ?_) (fun i => ?_) (fun i => ?_) (by rw [mupd_ne _ (by decide), mupd_ne _ (by decide), a7])
    · exact ih
    · rw [mupd_rp (by decide), mupd_ap, a4]
      by_cases e : i = n * 4 + k
      · rw [if_pos e, if_pos (by omega), show i - 4 * n = k by omega]
      · rw [if_neg e]
        by_cases e2 : 4 * n ≤ i ∧ i < 4 * n + k
        · rw [if_pos e2, if_pos (by omega)]
        · rw [if_neg e2, if_neg (by omega)]
    · rw [mupd_ap, mupd_rp (by decide), a5]
      by_cases e : i = n
      · rw [if_pos e, if_pos e]; omega
      · rw [if_neg e, if_neg e, if_neg e]
    · rw [mupd_rp (by decide), mupd_rp (by decide), a6]
theorem l_coatM {n t s h : Int} {τ0 : Mem} {Q : Int → Mem → Prop} (hn : 0 ≤ n ∧ n < 4) (hs : 1 ≤ s ∧ s ≤ 4) (hQ : ∀ τ', NCM τ0 n t s h τ' → Q n τ') : ∀ (m k : Nat) (τ : Mem), (k : Int) + m = s → (∀ q, 5 ≤ q → τ q = τ0 q) → τ 0 = τ0 0 → τ 0 4 = n → (∀ i, τ 4 i = if 4 * n ≤ i ∧ i < 4 * n + k then dg t (i - 4 * n) else τ0 4 i) → (∀ i, τ 1 i = if i = n then s else τ0 1 i) → (∀ i, τ 2 i = if i = n then 0 else τ0 2 i) → (∀ i, τ 3 i = if i = n then h else τ0 3 i) → WP GM M_X9_coat 132 [some (mr 0), some (mi t), some (mi s), none, none, some (mi (k : Int))] [] τ Q
  | 0, k, τ, hk, f, a0, a4', a4, a1, a2, a3 => by
    obtain rfl : s = k := by omega
    refine b_X9_coat_0_132 _ _ _ ⟨fun _ => ?_, fun z => absurd (by omega) z⟩
    rw [a4', jadd_eq (by omega) (by omega), jsub_eq (by omega) (by omega), show n + 1 - 1 = n by omega]
    refine hQ _ ⟨fun q hq => by rw [mupd_ne _ (by omega), f q hq], fun j hj => by rw [mupd_ri hj, a0], by rw [mupd_at], fun i => ?_, fun i => ?_, fun i => ?_, fun i => ?_⟩
    · rw [mupd_rp (by decide), a4]
    · rw [mupd_rp (by decide), a1]
    · rw [mupd_rp (by decide), a2]
    · rw [mupd_rp (by decide), a3]
  | m + 1, k, τ, hk, f, a0, a4', a4, a1, a2, a3 => by
    refine b_X9_coat_0_132 _ _ _ ⟨fun z => absurd z (by omega), fun _ => ?_⟩
    rw [a4', jmul_eq (by omega) (by omega), jadd_eq (by omega) (by omega), jadd_eq (a := (k : Int)) (b := 1) (by omega) (by omega)]
    refine ⟨by omega, ?_⟩
    have ih := l_coatM (t := t) (h := h) (τ0 := τ0) hn hs hQ m (k + 1) (mupd τ 4 (4 * n + (k : Int)) (dg t k)) (by omega) (fun q hq => by rw [mupd_ne _ (by omega), f q hq]) (by rw [mupd_ne _ (by decide), a0]) (by rw [mupd_rp (by decide), a4']) (fun i => ?_) (fun i => ?_) (fun i => ?_) (fun i => ?_)
    · exact ih
    · rw [mupd_ap, a4]
      by_cases e : i = 4 * n + k
      · rw [if_pos e, if_pos (by omega), show i - 4 * n = k by omega]
      · rw [if_neg e]
        by_cases e2 : 4 * n ≤ i ∧ i < 4 * n + k
        · rw [if_pos e2, if_pos (by omega)]
        · rw [if_neg e2, if_neg (by omega)]
    · rw [mupd_rp (by decide), a1]
    · rw [mupd_rp (by decide), a2]
    · rw [mupd_rp (by decide), a3]
theorem coatM_pre {t s h : Int} {τ : Mem} {Q : Int → Mem → Prop} (hR4 : 0 ≤ τ 0 4 ∧ τ 0 4 ≤ 4) (h0 : ¬ (okT t s ∧ (0 ≤ h ∧ h < 4)) → Q (-1) τ) (h3 : okT t s → (0 ≤ h ∧ h < 4) → τ 0 4 = 4 → Q (-3) τ) (h1 : okT t s → (0 ≤ h ∧ h < 4) → τ 0 4 < 4 → ∀ τ', NCM τ (τ 0 4) t s h τ' → Q (τ 0 4) τ') : HT GM M_X9_coat [mr 0, mi t, mi s, mi h] τ Q := by
  apply e_X9_coat_0
  refine c_in (fun hs => br1 ?_) (fun z => br0 (h0 (fun q => z q.1.1)))
  have hq := shl3_in hs
  rw [jsub_eq (by omega) (by omega)]
  refine c_in (fun ht => br1 ?_) (fun z => br0 (h0 (fun q => z (by have := q.1.2.1; omega))))
  have hN : N31 t := by omega
  refine c_in (fun hh => bn1 ?_) (fun z => bn0 (h0 (fun q => z (by have := q.2; omega))))
  have key : ∀ (m k : Nat), (k : Int) + m = s → WP GM M_X9_coat 49 [some (mr 0), some (mi t), some (mi s), some (mi h), some (mi (sn t k)), some (mi (k : Int))] [] τ Q := by
    intro m
    induction m with
    | succ m ih =>
      intro k hk
      have ih2 := ih (k + 1) (by omega)
      refine b_X9_coat_0_49 _ _ _ _ _ ⟨fun z => absurd z (by omega), fun _ => ?_⟩
      rw [jadd_eq (by omega) (by omega)]
      exact ih2
    | zero =>
      intro k hk
      obtain rfl : s = k := by omega
      refine b_X9_coat_0_49 _ _ _ _ _ ⟨fun _ => ?_, fun z => absurd (by omega) z⟩
      apply e_X9_ones
      have hl := sn_le hN k (by omega)
      refine c_ones 8 _ 0 (sn_in hN k (by omega)) (by omega) (by omega) ?_
      rw [Int.zero_add]
      refine ⟨fun z => ?_, fun z => h0 (fun q => ?_)⟩
      · have hk1 : okT t k := ⟨hs, by omega, by rw [Int.toNat_natCast]; omega⟩
        have hh2 : 0 ≤ h ∧ h < 4 := by omega
        refine ⟨fun h4 => ?_, fun h4 => h3 hk1 hh2 h4⟩
        have hn : 0 ≤ τ 0 4 ∧ τ 0 4 < 4 := by omega
        refine ⟨hn, hn, hn, ?_⟩
        refine l_coatM (τ0 := τ) hn hs (h1 hk1 hh2 hn.2) k 0 _ (by omega) (fun q hq => by rw [mupd_ne _ (by omega), mupd_ne _ (by omega), mupd_ne _ (by omega)]) (by rw [mupd_ne _ (by omega), mupd_ne _ (by omega), mupd_ne _ (by omega)]) (by rw [mupd_rp (by decide), mupd_rp (by decide), mupd_rp (by decide)]) (fun i => ?_) (fun i => ?_) (fun i => ?_) (fun i => ?_)
        · rw [mupd_rp (by decide), mupd_rp (by decide), mupd_rp (by decide), if_neg (by omega)]
        · rw [mupd_rp (by decide), mupd_rp (by decide), mupd_ap]
        · rw [mupd_rp (by decide), mupd_ap, mupd_rp (by decide)]
        · rw [mupd_ap, mupd_rp (by decide), mupd_rp (by decide)]
      · have := q.1.2.2
        rw [Int.toNat_natCast] at this
        omega
  exact key s.toNat 0 (by omega)
theorem sim_coat {t s h : Int} {σ τ : Mem} (hR : RR σ τ) : SIM M_X8_coat M_X9_coat [mr 0, mi t, mi s, mi h] σ τ RR := by
  obtain ⟨h4, e4⟩ := hR.nc
  by_cases hk : okT t s ∧ (0 ≤ h ∧ h < 4)
  · obtain ⟨k1, k2⟩ := hk
    by_cases hf : τ 0 4 < 4
    · refine ⟨τ 0 4, NCC σ (τ 0 4) t s h, NCM τ (τ 0 4) t s h, ?_, ?_, ?_⟩
      · apply e_X8_coat_0
        refine c_isTurn (fun _ => br1 (c_within (fun _ => bn1 ⟨fun _ => ?_, fun z => absurd (by omega) z⟩) (fun z => absurd k2 z))) (fun z => absurd k1 z)
        refine e_X0_open_3 ⟨fun z => absurd z (by omega), fun _ => ⟨by omega, by omega, ?_⟩⟩
        rw [e4]
        have hs := k1.1
        refine l_coatC (σ0 := σ) (by omega) hs (fun σ' hq => ⟨rfl, hq⟩) s.toNat 0 _ (by omega) (fun q hq => by rw [mupd_ne _ (by omega), mupd_ne _ (by omega)]) (by rw [mupd_rp (by decide), mupd_rp (by decide), e4]) (fun i => ?_) (fun i => ?_) (fun i => ?_) (by rw [mupd_ne _ (by omega), mupd_ne _ (by omega)])
        · rw [mupd_rp (by decide), mupd_rp (by decide), if_neg (by omega)]
        · rw [mupd_rp (by decide), mupd_ap]; rfl
        · rw [mupd_ap, mupd_rp (by decide)]
      · exact coatM_pre h4 (fun z => absurd ⟨k1, k2⟩ z) (fun _ _ z => absurd z (by omega)) (fun _ _ _ τ' hq => ⟨rfl, hq⟩)
      · rintro σ' τ' - - ⟨s1, s3, s4, s5, s6, s7⟩ ⟨t1, t0, t04, t4, t1', t2, t3⟩
        have hs := k1.1
        have hq := shl3_in hs
        have hN : N31 t := by have := k1.2.1; omega
        refine hR.gen (fun k hk => s1 k (by omega)) (fun k hk => t1 k (by omega)) (fun j hj => t0 j (by omega)) (by rw [s1 8 (by omega)]) (by omega) (by rw [s3, t04]) (fun c c0 c1 => ?_) (fun q q0 q1 => ?_) ?_
        · rw [t04] at c1
          by_cases e : c = τ 0 4
          · have d1 : τ' 1 c = s := by rw [t1', if_pos e]
            have d2 : τ' 2 c = 0 := by rw [t2, if_pos e]
            have d3 : τ' 3 c = h := by rw [t3, if_pos e]
            have d4 : ∀ k, 0 ≤ k → k < s → τ' 4 (4 * c + k) = dg t k := fun k a b => by rw [t4, if_pos (by omega), show 4 * c + k - 4 * τ 0 4 = k by omega]
            unfold CO EQC
            rw [d1, d2, d3]
            refine ⟨⟨hs, by omega, by omega, fun k a b => by rw [d4 k a b]; exact dg_in hN (by omega), fun j k a b c' => ?_⟩, by rw [s5, if_pos e], by rw [s6, if_pos e], by rw [s7, if_pos e], fun k a b => by rw [d4 k a b, s4, if_pos (by omega), show 4 * c + k - 4 * τ 0 4 = k by omega]⟩
            rw [d4 j a (by omega), d4 k (by omega) c']
            exact sn_dis hN s.toNat (by omega) (by have := k1.2.2; omega) j k a b (by omega)
          · have hcc := hR.co (c := c) (by omega)
            have hC := hcc.1
            have hE := hcc.2
            unfold CO EQC at *
            rw [t1', t2, t3, s5, s6, s7, if_neg e, if_neg e, if_neg e, if_neg e, if_neg e, if_neg e]
            have o4 : ∀ k, 0 ≤ k → k < τ 1 c → τ' 4 (4 * c + k) = τ 4 (4 * c + k) := fun k a b => by rw [t4, if_neg (by omega)]
            have o4' : ∀ k, 0 ≤ k → k < τ 1 c → σ' 4 (4 * c + k) = σ 4 (4 * c + k) := fun k a b => by rw [s4, if_neg (by omega)]
            refine ⟨⟨hC.1, hC.2.1, hC.2.2.1, fun k a b => by rw [o4 k a b]; exact hC.2.2.2.1 k a b, fun j k a b c' => by rw [o4 j a (by omega), o4 k (by omega) c']; exact hC.2.2.2.2 j k a b c'⟩, hE.1, hE.2.1, hE.2.2.1, fun k a b => by rw [o4 k a b, o4' k a b]; exact hE.2.2.2 k a b⟩
        · have hT := hR.th (t := q) ⟨q0, q1⟩
          refine ⟨?_, ?_⟩
          · have h2 := hT.1
            unfold TH PLC at *
            rw [t1 5 (by omega), t1 6 (by omega), t1 7 (by omega), t1 8 (by omega), t04]
            refine ⟨h2.1, ?_, h2.2.2⟩
            have := h2.2.1
            omega
          · have h2 := hT.2
            unfold EQT at *
            rw [s1 9 (by omega), s1 10 (by omega), s1 11 (by omega), s1 12 (by omega), t1 5 (by omega), t1 6 (by omega), t1 7 (by omega), t1 8 (by omega)]
            exact h2
        · exact hR.2.2.2.1.fr (by rw [s1 25 (by omega)]) (s1 26 (by omega)) (t0 14 (by decide)) (t1 10 (by omega))
    · refine sim_same hR (-3) ?_ ?_
      · apply e_X8_coat_0
        exact c_isTurn (fun _ => br1 (c_within (fun _ => bn1 ⟨fun z => absurd z (by omega), fun z => ⟨rfl, rfl⟩⟩) (fun z => absurd k2 z))) (fun z => absurd k1 z)
      · exact coatM_pre h4 (fun z => absurd ⟨k1, k2⟩ z) (fun _ _ _ => ⟨rfl, rfl⟩) (fun _ _ z => absurd z hf)
  · refine sim_same hR (-1) ?_ ?_
    · apply e_X8_coat_0
      exact c_isTurn (fun a => br1 (c_within (fun b => absurd ⟨a, b⟩ hk) (fun _ => bn0 ⟨rfl, rfl⟩))) (fun _ => br0 ⟨rfl, rfl⟩)
    · exact coatM_pre h4 (fun _ => ⟨rfl, rfl⟩) (fun a b _ => absurd ⟨a, b⟩ hk) (fun a b _ => absurd ⟨a, b⟩ hk)
