/-! what keeps the relation, by what has changed; owe, balance, hole, of, count -/
theorem RR.things {σ σ' τ τ' : Mem} (hR : RR σ τ) (s1 : ∀ k, k ≤ 8 ∨ 13 ≤ k → σ' k = σ k) (t1 : ∀ k, k ≤ 4 ∨ 9 ≤ k → τ' k = τ k) (h : ∀ t, 0 ≤ t → t < τ 0 9 → TH τ' t ∧ EQT 9 10 11 12 σ' τ' t) : RR σ' τ' := by
  have hV := hR.1
  have hE := hR.2.1
  have t0 := t1 0 (by decide)
  refine ⟨⟨?_, ?_, ?_, ?_, ?_, ?_, ?_⟩, ⟨?_, ?_, ?_, ?_, ?_, ?_, ?_⟩, ?_, ?_, ?_⟩
  · rw [t0]; exact hV.1
  · rw [t0]; exact hV.2.1
  · rw [t0]; exact fun c c1 c2 => (hV.2.2.1 c c1 c2).fr (fun k k1 k2 => t1 k (by omega))
  · rw [t0]; exact fun t a b => (h t a b).1
  · rw [t1 9 (by omega)]; exact hV.2.2.2.2.1
  · rw [t0]; exact hV.2.2.2.2.2.1
  · rw [t0]; exact hV.2.2.2.2.2.2
  · rw [t0, s1 3 (by omega)]; exact hE.1
  · rw [t0, s1 8 (by omega)]; exact hE.2.1
  · rw [t0, s1 1 (by omega)]; exact hE.2.2.1
  · rw [t0, s1 1 (by omega)]; exact hE.2.2.2.1
  · rw [t0]; exact fun c c1 c2 => (hE.2.2.2.2.1 c c1 c2).fr ⟨s1 4 (by omega), s1 5 (by omega), s1 6 (by omega), s1 7 (by omega)⟩ (fun k k1 k2 => t1 k (by omega))
  · rw [t0]; exact fun t a b => (h t a b).2
  · rw [t1 9 (by omega), s1 2 (by omega)]; exact hE.2.2.2.2.2.2
  · exact hR.2.2.1.fr (fun k k1 k2 => s1 k (by omega)) (by rw [s1 0 (by omega)]) (t1 17 (by omega)) (by rw [t0])
  · exact hR.2.2.2.1.fr (by rw [s1 25 (by omega)]) (s1 26 (by omega)) (by rw [t0]) (t1 10 (by omega))
  · exact hR.2.2.2.2.fr (fun k k1 k2 => s1 k (by omega)) (fun k k1 k2 => t1 k (by omega))
theorem RR.debts {σ σ' τ τ' : Mem} (hR : RR σ τ) (s1 : ∀ k, k ≠ 2 → k ≠ 41 → σ' k = σ k) (t1 : ∀ k, k ≠ 9 → k ≠ 21 → τ' k = τ k) (h : ∀ i, 0 ≤ i → i < 64 → (0 ≤ τ' 9 i ∧ τ' 9 i ≤ 999) ∧ σ' 2 i = τ' 9 i) : RR σ' τ' := by
  have hV := hR.1
  have hE := hR.2.1
  have t0 := t1 0 (by decide) (by decide)
  refine ⟨⟨?_, ?_, ?_, ?_, ?_, ?_, ?_⟩, ⟨?_, ?_, ?_, ?_, ?_, ?_, ?_⟩, ?_, ?_, ?_⟩
  · rw [t0]; exact hV.1
  · rw [t0]; exact hV.2.1
  · rw [t0]; exact fun c c1 c2 => (hV.2.2.1 c c1 c2).fr (fun k k1 k2 => t1 k (by omega) (by omega))
  · rw [t0]; exact fun t a b => (hV.2.2.2.1 t a b).fr (by rw [t0]) (fun k k1 k2 => by rw [t1 k (by omega) (by omega)])
  · exact fun i a b => (h i a b).1
  · rw [t0]; exact hV.2.2.2.2.2.1
  · rw [t0]; exact hV.2.2.2.2.2.2
  · rw [t0, s1 3 (by decide) (by decide)]; exact hE.1
  · rw [t0, s1 8 (by decide) (by decide)]; exact hE.2.1
  · rw [t0, s1 1 (by decide) (by decide)]; exact hE.2.2.1
  · rw [t0, s1 1 (by decide) (by decide)]; exact hE.2.2.2.1
  · rw [t0]; exact fun c c1 c2 => (hE.2.2.2.2.1 c c1 c2).fr ⟨s1 4 (by decide) (by decide), s1 5 (by decide) (by decide), s1 6 (by decide) (by decide), s1 7 (by decide) (by decide)⟩ (fun k k1 k2 => t1 k (by omega) (by omega))
  · rw [t0]
    intro t a b
    have hq := hE.2.2.2.2.2.1 t a b
    unfold EQT at *
    rw [s1 9 (by decide) (by decide), s1 10 (by decide) (by decide), s1 11 (by decide) (by decide), s1 12 (by decide) (by decide), t1 5 (by decide) (by decide), t1 6 (by decide) (by decide), t1 7 (by decide) (by decide), t1 8 (by decide) (by decide)]
    exact hq
  · exact fun i a b => (h i a b).2
  · exact hR.2.2.1.fr (fun k k1 k2 => s1 k (by omega) (by omega)) (by rw [s1 0 (by decide) (by decide)]) (t1 17 (by decide) (by decide)) (by rw [t0])
  · exact hR.2.2.2.1.fr (by rw [s1 25 (by decide) (by decide)]) (s1 26 (by decide) (by decide)) (by rw [t0]) (t1 10 (by decide) (by decide))
  · exact hR.2.2.2.2.fr (fun k k1 k2 => s1 k (by omega) (by omega)) (fun k k1 k2 => t1 k (by omega) (by omega))
theorem RR.sheets {σ σ' τ τ' : Mem} (hR : RR σ τ) (s1 : ∀ k, k ≤ 26 → σ' k = σ k) (t1 : ∀ k, k ≤ 17 → τ' k = τ k) (h : SH σ' τ') : RR σ' τ' :=
  ⟨hR.1.fr (fun k a b => t1 k (by omega)) (fun j _ => by rw [t1 0 (by decide)]), hR.2.1.fr (fun k a b => s1 k (by omega)) (fun k a b => t1 k (by omega)) (fun j _ => by rw [t1 0 (by decide)]), hR.2.2.1.fr (fun k a b => s1 k (by omega)) (by rw [s1 0 (by decide)]) (t1 17 (by decide)) (by rw [t1 0 (by decide)]), hR.2.2.2.1.fr (by rw [s1 25 (by decide)]) (s1 26 (by decide)) (by rw [t1 0 (by decide)]) (t1 10 (by decide)), h⟩
theorem RR.tape {σ σ' τ τ' : Mem} (hR : RR σ τ) (s1 : ∀ k, k ≤ 24 → σ' k = σ k) (s2 : ∀ k, 46 ≤ k → k ≤ 49 → σ' k = σ k) (t1 : ∀ k, (1 ≤ k ∧ k ≤ 9) ∨ (17 ≤ k ∧ k ≤ 20) → τ' k = τ k) (t0 : ∀ j, j = 4 ∨ j = 9 ∨ j = 11 ∨ j = 12 ∨ j = 26 → τ' 0 j = τ 0 j) (h : TP σ' τ') : RR σ' τ' :=
  ⟨hR.1.fr (fun k a b => t1 k (by omega)) (fun j q => t0 j (by omega)), hR.2.1.fr (fun k a b => s1 k (by omega)) (fun k a b => t1 k (by omega)) (fun j q => t0 j (by omega)), hR.2.2.1.fr (fun k a b => s1 k (by omega)) (by rw [s1 0 (by decide)]) (t1 17 (by omega)) (t0 26 (by decide)), h, hR.2.2.2.2.fr s2 (fun k a b => t1 k (by omega))⟩
theorem sim_same {M M' : MI} {as : List MV} {σ τ : Mem} (hR : RR σ τ) (r : Int) (h1 : HT GC M as σ (fun a σ' => a = r ∧ σ' = σ)) (h2 : HT GM M' as τ (fun a τ' => a = r ∧ τ' = τ)) : SIM M M' as σ τ RR :=
  ⟨r, (· = σ), (· = τ), h1, h2, fun _ _ _ _ a b => by rw [a, b]; exact hR⟩
theorem c_isPair {a b : Int} {σ : Mem} {Q : Int → Mem → Prop} (h1 : (0 ≤ a ∧ a < 8) ∧ (0 ≤ b ∧ b < 8) ∧ ¬ a = b → Q 1 σ) (h0 : ¬ ((0 ≤ a ∧ a < 8) ∧ (0 ≤ b ∧ b < 8) ∧ ¬ a = b) → Q 0 σ) : HT GC M_X8_isPair [mi a, mi b] σ Q := by
  apply e_X8_isPair
  refine c_within (fun ha => br1 ?_) (fun ha => br0 (h0 (fun z => ha z.1)))
  exact c_within (fun hb => br1 ⟨fun e => h0 (fun z => z.2.2 e), fun e => h1 ⟨ha, hb, e⟩⟩) (fun hb => br0 (h0 (fun z => hb z.2.1)))
theorem c_areTwo {a b : Int} {σ : Mem} {Q : Int → Mem → Prop} (h1 : (0 ≤ a ∧ a < 8) ∧ (0 ≤ b ∧ b < 8) ∧ ¬ a = b → Q 1 σ) (h0 : ¬ ((0 ≤ a ∧ a < 8) ∧ (0 ≤ b ∧ b < 8) ∧ ¬ a = b) → Q 0 σ) : HT GM M_X9_areTwo [mi a, mi b] σ Q := by
  apply e_X9_areTwo
  refine c_isBoy (fun ha => br1 ?_) (fun ha => br0 (h0 (fun z => ha z.1)))
  exact c_isBoy (fun hb => br1 ⟨fun e => h0 (fun z => z.2.2 e), fun e => h1 ⟨ha, hb, e⟩⟩) (fun hb => br0 (h0 (fun z => hb z.2.1)))
theorem sim_owe {a b v : Int} {σ τ : Mem} (hR : RR σ τ) : SIM M_X8_owe M_X9_owe [mr 0, mi a, mi b, mi v] σ τ RR := by
  have hV := hR.1
  have hE := hR.2.1
  by_cases h : (0 ≤ a ∧ a < 8) ∧ (0 ≤ b ∧ b < 8) ∧ ¬ a = b
  · by_cases hv : 0 ≤ v ∧ v < 1000
    · have hi : 0 ≤ 8 * a + b ∧ 8 * a + b < 64 := by omega
      have ex : jadd (jmul a 8) b = 8 * a + b := by rw [jmul_eq (by omega) (by omega), jadd_eq (by omega) (by omega)]; omega
      have ey : jadd (jmul 8 a) b = 8 * a + b := by rw [jmul_eq (by omega) (by omega), jadd_eq (by omega) (by omega)]
      refine ⟨τ 9 (8 * a + b), (· = mupd σ 2 (8 * a + b) v), (· = mupd τ 9 (8 * a + b) v), ?_, ?_, ?_⟩
      · apply e_X8_owe_0
        rw [ex]
        exact c_isPair (fun _ => br1 (c_within (fun _ => bn1 ⟨hi, hi, hE.2.2.2.2.2.2 _ hi.1 hi.2, rfl⟩) (fun z => absurd hv z))) (fun z => absurd h z)
      · apply e_X9_owe_0
        rw [ey]
        exact c_areTwo (fun _ => br1 (c_in (fun _ => bn1 ⟨hi, hi, rfl, rfl⟩) (fun z => absurd (by omega) z))) (fun z => absurd h z)
      · rintro σ' τ' - - hs ht
        refine hR.debts (fun k k1 k2 => by rw [hs, mupd_ne _ k1]) (fun k k1 k2 => by rw [ht, mupd_ne _ k1]) (fun i i1 i2 => ?_)
        by_cases e : i = 8 * a + b
        · subst e
          rw [hs, ht, mupd_at, mupd_at]
          exact ⟨by omega, rfl⟩
        · rw [hs, ht, mupd_ri e, mupd_ri e]
          exact ⟨hV.2.2.2.2.1 i i1 i2, hE.2.2.2.2.2.2 i i1 i2⟩
    · refine sim_same hR (-1) ?_ ?_
      · apply e_X8_owe_0
        exact c_isPair (fun _ => br1 (c_within (fun z => absurd z hv) (fun _ => bn0 ⟨rfl, rfl⟩))) (fun z => absurd h z)
      · apply e_X9_owe_0
        exact c_areTwo (fun _ => br1 (c_in (fun z => absurd (by omega) hv) (fun _ => bn0 ⟨rfl, rfl⟩))) (fun z => absurd h z)
  · refine sim_same hR (-1) ?_ ?_
    · apply e_X8_owe_0
      exact c_isPair (fun z => absurd z h) (fun _ => br0 ⟨rfl, rfl⟩)
    · apply e_X9_owe_0
      exact c_areTwo (fun z => absurd z h) (fun _ => br0 ⟨rfl, rfl⟩)
/-- a balance, over the first others -/
def balN (f : Int → Int) (b : Int) : Nat → Int
  | 0 => 0
  | n + 1 => balN f b n + (f (8 * n + b) - f (8 * b + n))
theorem balN_in {f : Int → Int} {b : Int} (hf : ∀ i, 0 ≤ i → i < 64 → 0 ≤ f i ∧ f i ≤ 999) (hb : 0 ≤ b ∧ b < 8) : ∀ n : Nat, n ≤ 8 → -(999 * n : Int) ≤ balN f b n ∧ balN f b n ≤ 999 * n
  | 0, _ => by simp [balN]
  | n + 1, h => by
    have ih := balN_in hf hb n (by omega)
    have h1 := hf (8 * n + b) (by omega) (by omega)
    have h2 := hf (8 * b + n) (by omega) (by omega)
    simp only [balN]
    omega
theorem balN_congr {f g : Int → Int} {b : Int} (h : ∀ i, 0 ≤ i → i < 64 → f i = g i) (hb : 0 ≤ b ∧ b < 8) : ∀ n : Nat, n ≤ 8 → balN f b n = balN g b n
  | 0, _ => rfl
  | n + 1, hn => by
    simp only [balN]
    rw [balN_congr h hb n (by omega), h _ (by omega) (by omega), h _ (by omega) (by omega)]
theorem l_balC {b : Int} {σ : Mem} {Q : Int → Mem → Prop} (hf : ∀ i, 0 ≤ i → i < 64 → 0 ≤ σ 2 i ∧ σ 2 i ≤ 999) (hb : 0 ≤ b ∧ b < 8) (hQ : Q (balN (σ 2) b 8) σ) : ∀ (n k : Nat), k + n = 8 → WP GC M_X4_balanceOf 4 [some (mr 1), some (mi b), some (mi (balN (σ 2) b k)), some (mi (k : Int))] [] σ Q
  | 0, k, h => by
    obtain rfl : k = 8 := by omega
    exact b_X4_balanceOf_1_4 _ _ _ ⟨fun _ => hQ, fun z => absurd (by omega) z⟩
  | n + 1, k, h => by
    have hk := balN_in hf hb k (by omega)
    have h1 := hf (8 * k + b) (by omega) (by omega)
    have h2 := hf (8 * b + k) (by omega) (by omega)
    have e1 : jadd (jmul (k : Int) 8) b = 8 * k + b := by rw [jmul_eq (by omega) (by omega), jadd_eq (by omega) (by omega)]; omega
    have e2 : jadd (jmul b 8) (k : Int) = 8 * b + k := by rw [jmul_eq (by omega) (by omega), jadd_eq (by omega) (by omega)]; omega
    apply b_X4_balanceOf_1_4
    rw [e1, e2, jsub_eq (by omega) (by omega), jadd_eq (by omega) (by omega), jadd_eq (by omega) (by omega)]
    exact ⟨fun z => absurd z (by omega), fun _ => ⟨by omega, by omega, l_balC hf hb hQ n (k + 1) (by omega)⟩⟩
theorem c_balC {b : Int} {σ : Mem} {Q : Int → Mem → Prop} (hf : ∀ i, 0 ≤ i → i < 64 → 0 ≤ σ 2 i ∧ σ 2 i ≤ 999) (hb : 0 ≤ b ∧ b < 8) (hQ : Q (balN (σ 2) b 8) σ) : HT GC M_X4_balanceOf [mr 1, mi b] σ Q := by
  apply e_X4_balanceOf_1
  exact l_balC hf hb hQ 8 0 rfl
theorem l_balM {b : Int} {σ : Mem} {Q : Int → Mem → Prop} (hf : ∀ i, 0 ≤ i → i < 64 → 0 ≤ σ 9 i ∧ σ 9 i ≤ 999) (hb : 0 ≤ b ∧ b < 8) (hQ : Q (balN (σ 9) b 8) σ) : ∀ (n k : Nat), k + n = 8 → WP GM M_X9_balanceOf 4 [some (mr 0), some (mi b), some (mi (balN (σ 9) b k)), some (mi (k : Int))] [] σ Q
  | 0, k, h => by
    obtain rfl : k = 8 := by omega
    exact b_X9_balanceOf_0_4 _ _ _ ⟨fun _ => hQ, fun z => absurd (by omega) z⟩
  | n + 1, k, h => by
    have hk := balN_in hf hb k (by omega)
    have h1 := hf (8 * k + b) (by omega) (by omega)
    have h2 := hf (8 * b + k) (by omega) (by omega)
    have e1 : jadd (jmul 8 (k : Int)) b = 8 * k + b := by rw [jmul_eq (by omega) (by omega), jadd_eq (by omega) (by omega)]
    have e2 : jadd (jmul 8 b) (k : Int) = 8 * b + k := by rw [jmul_eq (by omega) (by omega), jadd_eq (by omega) (by omega)]
    apply b_X9_balanceOf_0_4
    rw [e1, e2, jsub_eq (by omega) (by omega), jadd_eq (by omega) (by omega), jadd_eq (by omega) (by omega)]
    exact ⟨fun z => absurd z (by omega), fun _ => ⟨by omega, by omega, l_balM hf hb hQ n (k + 1) (by omega)⟩⟩
theorem c_balM {b : Int} {σ : Mem} {Q : Int → Mem → Prop} (hf : ∀ i, 0 ≤ i → i < 64 → 0 ≤ σ 9 i ∧ σ 9 i ≤ 999) (hb : 0 ≤ b ∧ b < 8) (hQ : Q (balN (σ 9) b 8) σ) : HT GM M_X9_balanceOf [mr 0, mi b] σ Q := by
  apply e_X9_balanceOf_0
  exact l_balM hf hb hQ 8 0 rfl
theorem RR.owed {σ τ : Mem} (hR : RR σ τ) : (∀ i, 0 ≤ i → i < 64 → 0 ≤ σ 2 i ∧ σ 2 i ≤ 999) ∧ ∀ i, 0 ≤ i → i < 64 → σ 2 i = τ 9 i :=
  ⟨fun i a b => by rw [hR.2.1.2.2.2.2.2.2 i a b]; exact hR.1.2.2.2.2.1 i a b, hR.2.1.2.2.2.2.2.2⟩
theorem sim_balance {b : Int} {σ τ : Mem} (hR : RR σ τ) : SIM M_X8_balance M_X9_balance [mr 0, mi b] σ τ RR := by
  obtain ⟨ho, he⟩ := hR.owed
  by_cases h : 0 ≤ b ∧ b < 8
  · refine sim_same hR (balN (τ 9) b 8) ?_ ?_
    · apply e_X8_balance_0
      exact c_within (fun _ => br1 (c_balC ho h ⟨balN_congr he h 8 (by decide), rfl⟩)) (fun z => absurd h z)
    · apply e_X9_balance_0
      exact c_isBoy (fun _ => br1 (c_balM hR.1.2.2.2.2.1 h ⟨rfl, rfl⟩)) (fun z => absurd h z)
  · refine sim_same hR (-100001) ?_ ?_
    · apply e_X8_balance_0
      exact c_within (fun z => absurd z h) (fun _ => br0 ⟨rfl, rfl⟩)
    · apply e_X9_balance_0
      exact c_isBoy (fun z => absurd z h) (fun _ => br0 ⟨rfl, rfl⟩)
