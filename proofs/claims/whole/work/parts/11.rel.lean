/-! the relation between the class's cells (σ) and the reference's (τ); how a call of both is compared -/
/- places of the class: 0 the class (2 imaged); 1 State now (3 bells, 4 draw), 2 owed, 3 Coats (0 many), 4 boys, 5 sizes, 6 turns, 7 holes, 8 Things (0 many), 9 kinds, 10 places, 11 readers, 12 eaters; 13 .. 24 the same of kept; 25 Tape (1 length, 2 looked), 26 bytes; 27 Reader (1 act, 2 thing, 3 target), 28 .. 32 its Coats; 33 Ways (2 thieves, 3 hands, 4 pockets, 5 arrived), 34 best, 35 .. 39 its Coats; 40 Ledger, 41 trial, 42 open, 43 sums, 44 most; 45 Sheets, 46 held, 47 lanes, 48 sizes, 49 items -/
/- places of the reference: 0 (4 coats, 9 things, 11 bells, 12 drawn, 14 taped, 15 place, 16 many, 18 hands, 19 pockets, 20 via, 26 isKept), 1 sizes, 2 worn, 3 holes, 4 turns, 5 kinds, 6 places, 7 reads, 8 eaters, 9 debts, 10 tape, 11 read, 12 order, 13 best, 14 had, 15 sums, 16 parts, 17 kept, 18 lanes, 19 rowSizes, 20 items, 21 then, 22 moved -/
theorem br1 {A B : Prop} (b : B) : ((1 : Int) = 0 → A) ∧ (¬ (1 : Int) = 0 → B) := ⟨fun z => absurd z (by decide), fun _ => b⟩
theorem br0 {A B : Prop} (a : A) : ((0 : Int) = 0 → A) ∧ (¬ (0 : Int) = 0 → B) := ⟨fun _ => a, fun z => absurd rfl z⟩
theorem bn1 {A B : Prop} (b : B) : (¬ (1 : Int) = 0 → B) ∧ ((1 : Int) = 0 → A) := ⟨fun _ => b, fun z => absurd z (by decide)⟩
theorem bn0 {A B : Prop} (a : A) : (¬ (0 : Int) = 0 → B) ∧ ((0 : Int) = 0 → A) := ⟨fun z => absurd rfl z, fun _ => a⟩
theorem bt {c A B : Prop} (h : c) (a : A) : (c → A) ∧ (¬ c → B) := ⟨fun _ => a, fun z => absurd h z⟩
theorem bf {c A B : Prop} (h : ¬ c) (b : B) : (c → A) ∧ (¬ c → B) := ⟨fun z => absurd z h, fun _ => b⟩
theorem nt {c A B : Prop} (h : ¬ c) (a : A) : (¬ c → A) ∧ (c → B) := ⟨fun _ => a, fun z => absurd z h⟩
theorem nf {c A B : Prop} (h : c) (b : B) : (¬ c → A) ∧ (c → B) := ⟨fun z => absurd h z, fun _ => b⟩
def SIM (M M' : MI) (as : List MV) (σ τ : Mem) (R : Mem → Mem → Prop) : Prop := ∃ (r : Int) (PC PM : Mem → Prop), HT GC M as σ (fun a σ' => a = r ∧ PC σ') ∧ HT GM M' as τ (fun a τ' => a = r ∧ PM τ') ∧ ∀ σ' τ', mokm σ' → mokm τ' → PC σ' → PM τ' → R σ' τ'
/-- a place of a thing -/
def PLC (nc p : Int) : Prop := (0 ≤ p ∧ p < 8) ∨ (10 ≤ p ∧ p < 10 + nc) ∨ (20 ≤ p ∧ p < 20 + nc) ∨ p = 30
def CO (τ : Mem) (c : Int) : Prop := (1 ≤ τ 1 c ∧ τ 1 c ≤ 4) ∧ (0 ≤ τ 2 c ∧ τ 2 c < τ 1 c) ∧ (0 ≤ τ 3 c ∧ τ 3 c ≤ 3) ∧ (∀ k, 0 ≤ k → k < τ 1 c → 0 ≤ τ 4 (4 * c + k) ∧ τ 4 (4 * c + k) < 8) ∧ (∀ j k, 0 ≤ j → j < k → k < τ 1 c → τ 4 (4 * c + j) ≠ τ 4 (4 * c + k))
def TH (τ : Mem) (t : Int) : Prop := (0 ≤ τ 5 t ∧ τ 5 t ≤ 3) ∧ PLC (τ 0 4) (τ 6 t) ∧ (0 ≤ τ 7 t ∧ τ 7 t < 256) ∧ (0 ≤ τ 8 t ∧ τ 8 t ≤ 8)
def VAL (τ : Mem) : Prop := (0 ≤ τ 0 4 ∧ τ 0 4 ≤ 4) ∧ (0 ≤ τ 0 9 ∧ τ 0 9 ≤ 8) ∧ (∀ c, 0 ≤ c → c < τ 0 4 → CO τ c) ∧ (∀ t, 0 ≤ t → t < τ 0 9 → TH τ t) ∧ (∀ i, 0 ≤ i → i < 64 → 0 ≤ τ 9 i ∧ τ 9 i ≤ 999) ∧ (0 ≤ τ 0 11 ∧ τ 0 11 ≤ 9999) ∧ (0 ≤ τ 0 12 ∧ τ 0 12 < 2147483648)
def EQC (b z u h : Nat) (σ τ : Mem) (c : Int) : Prop := σ z c = τ 1 c ∧ σ u c = τ 2 c ∧ σ h c = τ 3 c ∧ ∀ k, 0 ≤ k → k < τ 1 c → σ b (4 * c + k) = τ 4 (4 * c + k)
def EQT (k p r e : Nat) (σ τ : Mem) (t : Int) : Prop := σ k t = τ 5 t ∧ σ p t = τ 6 t ∧ σ r t = τ 7 t ∧ σ e t = τ 8 t
def EQ (s w c b z u h t k p r e : Nat) (σ τ : Mem) : Prop := σ c 0 = τ 0 4 ∧ σ t 0 = τ 0 9 ∧ σ s 3 = τ 0 11 ∧ σ s 4 = τ 0 12 ∧ (∀ i, 0 ≤ i → i < τ 0 4 → EQC b z u h σ τ i) ∧ (∀ i, 0 ≤ i → i < τ 0 9 → EQT k p r e σ τ i) ∧ (∀ i, 0 ≤ i → i < 64 → σ w i = τ 9 i)
abbrev EQn (σ τ : Mem) : Prop := EQ 1 2 3 4 5 6 7 8 9 10 11 12 σ τ
abbrev EQk (σ τ : Mem) : Prop := EQ 13 14 15 16 17 18 19 20 21 22 23 24 σ τ
/-- the reference's kept row, read as its own cells -/
def kv (τ : Mem) : Mem := fun k => match k with
  | 0 => fun i => if i = 4 then τ 17 124 else if i = 9 then τ 17 125 else if i = 11 then τ 17 126 else τ 17 127
  | 1 => fun c => τ 17 c
  | 2 => fun c => τ 17 (4 + c)
  | 3 => fun c => τ 17 (8 + c)
  | 4 => fun i => τ 17 (12 + i)
  | 5 => fun t => τ 17 (28 + t)
  | 6 => fun t => τ 17 (36 + t)
  | 7 => fun t => τ 17 (44 + t)
  | 8 => fun t => τ 17 (52 + t)
  | _ => fun i => τ 17 (60 + i)
def IM (σ τ : Mem) : Prop := σ 0 2 = τ 0 26 ∧ (τ 0 26 = 0 ∨ (τ 0 26 = 1 ∧ VAL (kv τ) ∧ EQk σ (kv τ)))
def TP (σ τ : Mem) : Prop := σ 25 1 = τ 0 14 ∧ (0 ≤ τ 0 14 ∧ τ 0 14 ≤ 100) ∧ ∀ i, 0 ≤ i → i < τ 0 14 → σ 26 i = τ 10 i ∧ 32 ≤ τ 10 i ∧ τ 10 i ≤ 126
def SH1 (σ τ : Mem) (s : Int) : Prop := (σ 46 s = 0 ∧ τ 18 s = -1) ∨ (σ 46 s = 1 ∧ σ 47 s = τ 18 s ∧ (0 ≤ τ 18 s ∧ τ 18 s ≤ 2) ∧ σ 48 s = τ 19 s ∧ (0 ≤ τ 19 s ∧ τ 19 s ≤ 24))
def SH (σ τ : Mem) : Prop := (∀ s, 0 ≤ s → s < 4 → SH1 σ τ s) ∧ ∀ i, 0 ≤ i → i < 96 → σ 49 i = τ 20 i
def RR (σ τ : Mem) : Prop := VAL τ ∧ EQn σ τ ∧ IM σ τ ∧ TP σ τ ∧ SH σ τ
theorem kv_fr {τ τ' : Mem} (h : τ' 17 = τ 17) : kv τ' = kv τ := by
  funext k
  unfold kv
  simp only [h]
theorem EQ.fr {s w c b z u h t k p r e : Nat} {σ σ' τ : Mem} (hE : EQ s w c b z u h t k p r e σ τ) (h1 : ∀ q, q = s ∨ q = w ∨ q = c ∨ q = b ∨ q = z ∨ q = u ∨ q = h ∨ q = t ∨ q = k ∨ q = p ∨ q = r ∨ q = e → σ' q = σ q) : EQ s w c b z u h t k p r e σ' τ := by
  unfold EQ EQC EQT at *
  simp only [h1 s (by simp), h1 w (by simp), h1 c (by simp), h1 b (by simp), h1 z (by simp), h1 u (by simp), h1 h (by simp), h1 t (by simp), h1 k (by simp), h1 p (by simp), h1 r (by simp), h1 e (by simp)]
  exact hE
theorem IM.fr {σ σ' τ τ' : Mem} (h : IM σ τ) (h1 : ∀ k, 13 ≤ k → k ≤ 24 → σ' k = σ k) (h2 : σ' 0 2 = σ 0 2) (h3 : τ' 17 = τ 17) (h4 : τ' 0 26 = τ 0 26) : IM σ' τ' := by
  unfold IM at *
  rw [h2, h4, kv_fr h3]
  refine ⟨h.1, h.2.imp id (fun z => ⟨z.1, z.2.1, z.2.2.fr (fun q hq => h1 q (by omega) (by omega))⟩)⟩
theorem TP.fr {σ σ' τ τ' : Mem} (h : TP σ τ) (h1 : σ' 25 1 = σ 25 1) (h2 : σ' 26 = σ 26) (h3 : τ' 0 14 = τ 0 14) (h4 : τ' 10 = τ 10) : TP σ' τ' := by
  unfold TP at *
  rw [h1, h2, h3, h4]; exact h
theorem SH.fr {σ σ' τ τ' : Mem} (h : SH σ τ) (h1 : ∀ k, 46 ≤ k → k ≤ 49 → σ' k = σ k) (h2 : ∀ k, 18 ≤ k → k ≤ 20 → τ' k = τ k) : SH σ' τ' := by
  unfold SH SH1 at *
  rw [h1 46 (by decide) (by decide), h1 47 (by decide) (by decide), h1 48 (by decide) (by decide), h1 49 (by decide) (by decide), h2 18 (by decide) (by decide), h2 19 (by decide) (by decide), h2 20 (by decide) (by decide)]
  exact h
theorem VAL.fr {τ τ' : Mem} (h : VAL τ) (h1 : ∀ k, 1 ≤ k → k ≤ 9 → τ' k = τ k) (h2 : ∀ j, j = 4 ∨ j = 9 ∨ j = 11 ∨ j = 12 → τ' 0 j = τ 0 j) : VAL τ' := by
  unfold VAL CO TH at *
  simp only [h1 1 (by decide) (by decide), h1 2 (by decide) (by decide), h1 3 (by decide) (by decide), h1 4 (by decide) (by decide), h1 5 (by decide) (by decide), h1 6 (by decide) (by decide), h1 7 (by decide) (by decide), h1 8 (by decide) (by decide), h1 9 (by decide) (by decide), h2 4 (by decide), h2 9 (by decide), h2 11 (by decide), h2 12 (by decide)]
  exact h
theorem EQn.fr {σ σ' τ τ' : Mem} (h : EQn σ τ) (h0 : ∀ k, 1 ≤ k → k ≤ 12 → σ' k = σ k) (h1 : ∀ k, 1 ≤ k → k ≤ 9 → τ' k = τ k) (h2 : ∀ j, j = 4 ∨ j = 9 ∨ j = 11 ∨ j = 12 → τ' 0 j = τ 0 j) : EQn σ' τ' := by
  have h3 : EQn σ' τ := EQ.fr h (fun q hq => h0 q (by omega) (by omega))
  unfold EQn EQ EQC EQT at *
  simp only [h1 1 (by decide) (by decide), h1 2 (by decide) (by decide), h1 3 (by decide) (by decide), h1 4 (by decide) (by decide), h1 5 (by decide) (by decide), h1 6 (by decide) (by decide), h1 7 (by decide) (by decide), h1 8 (by decide) (by decide), h1 9 (by decide) (by decide), h2 4 (by decide), h2 9 (by decide), h2 11 (by decide), h2 12 (by decide)]
  exact h3
/-- nothing that counts has changed -/
theorem RR.fr {σ σ' τ τ' : Mem} (h : RR σ τ) (h1 : ∀ k, 1 ≤ k → k ≤ 24 → σ' k = σ k) (h2 : ∀ k, 46 ≤ k → k ≤ 49 → σ' k = σ k) (h3 : σ' 0 2 = σ 0 2) (h4 : σ' 25 1 = σ 25 1) (h5 : σ' 26 = σ 26) (k1 : ∀ k, 1 ≤ k → k ≤ 10 → τ' k = τ k) (k2 : ∀ k, 17 ≤ k → k ≤ 20 → τ' k = τ k) (k3 : ∀ j, j = 4 ∨ j = 9 ∨ j = 11 ∨ j = 12 ∨ j = 14 ∨ j = 26 → τ' 0 j = τ 0 j) : RR σ' τ' :=
  ⟨h.1.fr (fun k a b => k1 k a (by omega)) (fun j a => k3 j (by omega)), h.2.1.fr (fun k a b => h1 k a (by omega)) (fun k a b => k1 k a (by omega)) (fun j a => k3 j (by omega)), h.2.2.1.fr (fun k a b => h1 k (by omega) b) h3 (k2 17 (by decide) (by decide)) (k3 26 (by decide)), h.2.2.2.1.fr h4 h5 (k3 14 (by decide)) (k1 10 (by decide) (by decide)), h.2.2.2.2.fr h2 (fun k a b => k2 k (by omega) b)⟩
/-! the small methods -/
theorem c_within {a b : Int} {σ : Mem} {Q : Int → Mem → Prop} (h1 : 0 ≤ a ∧ a < b → Q 1 σ) (h0 : ¬ (0 ≤ a ∧ a < b) → Q 0 σ) : HT GC M_X8_within [mi a, mi b] σ Q := by
  apply e_X8_within
  exact ⟨fun h => h0 (by omega), fun h => ⟨fun k => h0 (by omega), fun k => h1 (by omega)⟩⟩
theorem c_in {v lo hi : Int} {σ : Mem} {Q : Int → Mem → Prop} (h1 : lo ≤ v ∧ v ≤ hi → Q 1 σ) (h0 : ¬ (lo ≤ v ∧ v ≤ hi) → Q 0 σ) : HT GM M_X9_in [ml v, ml lo, ml hi] σ Q := by
  apply e_X9_in
  simp only [lcmp_lt, lcmp_gt]
  exact ⟨fun h => h0 (by omega), fun h => ⟨fun k => h0 (by omega), fun k => h1 (by omega)⟩⟩
theorem c_hasT {a : Int} {σ : Mem} {Q : Int → Mem → Prop} (h1 : 0 ≤ a ∧ a < σ 8 0 → Q 1 σ) (h0 : ¬ (0 ≤ a ∧ a < σ 8 0) → Q 0 σ) : HT GC M_X6_has [mr 8, mi a] σ Q := by
  apply e_X6_has_8
  exact c_within (fun h => ⟨Or.inr rfl, h1 h⟩) (fun h => ⟨Or.inl rfl, h0 h⟩)
theorem c_hasC {a : Int} {σ : Mem} {Q : Int → Mem → Prop} (h1 : 0 ≤ a ∧ a < σ 3 0 → Q 1 σ) (h0 : ¬ (0 ≤ a ∧ a < σ 3 0) → Q 0 σ) : HT GC M_X0_has [mr 3, mi a] σ Q := by
  apply e_X0_has_3
  exact c_within (fun h => ⟨Or.inr rfl, h1 h⟩) (fun h => ⟨Or.inl rfl, h0 h⟩)
theorem c_isBoy {a : Int} {σ : Mem} {Q : Int → Mem → Prop} (h1 : 0 ≤ a ∧ a < 8 → Q 1 σ) (h0 : ¬ (0 ≤ a ∧ a < 8) → Q 0 σ) : HT GM M_X9_isBoy [mi a] σ Q := by
  apply e_X9_isBoy
  exact c_in (fun h => ⟨Or.inr rfl, h1 (by omega)⟩) (fun h => ⟨Or.inl rfl, h0 (by omega)⟩)
theorem c_isThing {a : Int} {σ : Mem} {Q : Int → Mem → Prop} (hn : 0 ≤ σ 0 9 ∧ σ 0 9 ≤ 8) (h1 : 0 ≤ a ∧ a < σ 0 9 → Q 1 σ) (h0 : ¬ (0 ≤ a ∧ a < σ 0 9) → Q 0 σ) : HT GM M_X9_isThing [mr 0, mi a] σ Q := by
  apply e_X9_isThing_0
  rw [jsub_eq (by omega) (by omega)]
  exact c_in (fun h => ⟨Or.inr rfl, h1 (by omega)⟩) (fun h => ⟨Or.inl rfl, h0 (by omega)⟩)
theorem c_isCoat {a : Int} {σ : Mem} {Q : Int → Mem → Prop} (hn : 0 ≤ σ 0 4 ∧ σ 0 4 ≤ 4) (h1 : 0 ≤ a ∧ a < σ 0 4 → Q 1 σ) (h0 : ¬ (0 ≤ a ∧ a < σ 0 4) → Q 0 σ) : HT GM M_X9_isCoat [mr 0, mi a] σ Q := by
  apply e_X9_isCoat_0
  rw [jsub_eq (by omega) (by omega)]
  exact c_in (fun h => ⟨Or.inr rfl, h1 (by omega)⟩) (fun h => ⟨Or.inl rfl, h0 (by omega)⟩)
/-! where, told -/
theorem sim_where {t : Int} {σ τ : Mem} (hR : RR σ τ) : SIM M_X8_where M_X9_where [mr 0, mi t] σ τ RR := by
  have hV := hR.1
  have hE := hR.2.1
  by_cases h : 0 ≤ t ∧ t < τ 0 9
  · refine ⟨τ 6 t, (· = σ), (· = τ), ?_, ?_, fun _ _ _ _ a b => by rw [a, b]; exact hR⟩
    · apply e_X8_where_0
      refine c_hasT (fun _ => br1 ⟨⟨h.1, by have := hV.2.1; omega⟩, (hE.2.2.2.2.2.1 t h.1 h.2).2.1, rfl⟩) (fun z => absurd (by rw [hE.2.1]; exact h) z)
    · apply e_X9_where_0
      exact c_isThing hV.2.1 (fun _ => br1 ⟨⟨h.1, by have := hV.2.1; omega⟩, rfl, rfl⟩) (fun z => absurd h z)
  · refine ⟨-1, (· = σ), (· = τ), ?_, ?_, fun _ _ _ _ a b => by rw [a, b]; exact hR⟩
    · apply e_X8_where_0
      exact c_hasT (fun z => absurd (by rw [hE.2.1] at z; exact z) h) (fun _ => br0 ⟨rfl, rfl⟩)
    · apply e_X9_where_0
      exact c_isThing hV.2.1 (fun z => absurd z h) (fun _ => br0 ⟨rfl, rfl⟩)
