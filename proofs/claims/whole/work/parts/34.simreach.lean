/-! reach in step -/
def nOf (τ : Mem) : Nat := (τ 0 4).toNat
def bOf (τ : Mem) : Int → Int → Int := fun c j => τ 4 (4 * c + j)
theorem RR.cfg {σ τ : Mem} (hR : RR σ τ) : CFG (nOf τ) (τ 1) (τ 2) (τ 3) (bOf τ) ∧ MKo (nOf τ) (τ 1) (τ 2) (τ 3) (bOf τ) τ ∧ ((nOf τ : Nat) : Int) = τ 0 4 := by
  have hn := hR.nc
  have e : ((nOf τ : Nat) : Int) = τ 0 4 := by unfold nOf; omega
  refine ⟨⟨by omega, fun c c0 c1 => ?_⟩, ⟨e.symm, fun c _ _ => ⟨rfl, rfl, rfl, fun _ _ _ => rfl⟩⟩, e⟩
  have hc := (hR.co (c := c) ⟨c0, by omega⟩).1
  exact ⟨hc.1, hc.2.1, hc.2.2.1, hc.2.2.2.1⟩
theorem c_copy {σ τ : Mem} {Q : Int → Mem → Prop} (hR : RR σ τ) (hQ : ∀ σ', CK (nOf τ) (τ 1) (τ 2) (τ 3) (bOf τ) 0 σ' → FW σ σ' → Q 0 σ') : HT GC M_X0_become [mr 35, mr 3] σ Q := by
  have hn := hR.nc
  obtain ⟨-, -, e⟩ := hR.cfg
  apply e_X0_become_35_3
  refine hQ _ ⟨?_, fun c c0 c1 => ?_⟩ (fun q hq => ?_)
  · rw [e, ← hn.2]; simp (config := { decide := true }) [mupd, mcpy]
  · have hc := hR.co (c := c) ⟨c0, by omega⟩
    have h1 := hc.1.1
    have h2 := hc.1.2.1
    have g := hc.2
    have e0 : (τ 2 c + ((0 : Nat) : Int)) % τ 1 c = τ 2 c := by
      rw [show (τ 2 c + ((0 : Nat) : Int)) = τ 2 c by omega]; exact Int.emod_eq_of_lt h2.1 h2.2
    rw [e0, ← g.1, ← g.2.1, ← g.2.2.1]
    refine ⟨?_, ?_, ?_, fun j j0 j1 => ?_⟩
    · simp (config := { decide := true }) [mupd, mcpy]; omega
    · simp (config := { decide := true }) [mupd, mcpy]; omega
    · simp (config := { decide := true }) [mupd, mcpy]; omega
    · rw [g.1] at j1
      have := g.2.2.2 j j0 j1
      unfold bOf
      rw [← this]
      simp (config := { decide := true }) [mupd, mcpy]; omega
  · rw [mcpy_ne _ (by omega), mcpy_ne _ (by omega), mcpy_ne _ (by omega), mcpy_ne _ (by omega), mupd_ne _ (by omega)]
theorem stW_in {n : Nat} {z u ho : Int → Int} {bo : Int → Int → Int} {T a : Int} (hG : CFG n z u ho bo) (ha : 0 ≤ a ∧ a < 8) : ∀ k, (0 ≤ (stW n z u ho bo T a k).1 ∧ (stW n z u ho bo T a k).1 < 256) ∧ (0 ≤ (stW n z u ho bo T a k).2 ∧ (stW n z u ho bo T a k).2 < 16)
  | 0 => ⟨hS_in (shl1_256 ha) n (hG.w 0), pS_in (by omega) n hG.1⟩
  | k + 1 => by
    have ih := stW_in (T := T) hG ha k
    exact ⟨hS_in ih.1 n (hG.w (k + 1)), pS_in (pF_in ih.2 n hG.1).1 n hG.1⟩
/-- what came through the pockets at bell k -/
def arW (n : Nat) (z u ho : Int → Int) (bo : Int → Int → Int) (T a : Int) : Nat → Int
  | 0 => 0
  | k + 1 => pF (wk z u bo (k + 1)) T (stW n z u ho bo T a k).2 n
def CS (n : Nat) (z u ho : Int → Int) (bo : Int → Int → Int) (T a : Int) (k : Nat) (σ : Mem) : Prop := CW n z u ho bo k T (stW n z u ho bo T a k).1 (stW n z u ho bo T a k).2 σ ∧ σ 33 5 = arW n z u ho bo T a k
theorem c_start {n : Nat} {z u ho : Int → Int} {bo : Int → Int → Int} {x a : Int} {σ0 : Mem} {Q : Int → Mem → Prop} (hG : CFG n z u ho bo) (hC : CK n z u ho bo 0 σ0) (ha : 0 ≤ a ∧ a < 8) (hQ : ∀ σ', CS n z u ho bo (jand x (jxor (jshl 1 a) (-1))) a 0 σ' → FW σ0 σ' → Q 0 σ') : HT GC M_X7_start [mr 33, mi a, mi x] σ0 Q := by
  apply e_X7_start_33
  refine c_spread (H := jshl 1 a) (P := 0) (T := jand x (jxor (jshl 1 a) (-1))) hG ⟨hC.p.p.p.p, ?_, ?_, ?_⟩ (shl1_256 ha) (by omega) (fun σ' a1 a2 a3 => hQ σ' ⟨a1, by rw [a3, mupd_at]; rfl⟩ (fun q hq => ?_))
  · rw [mupd_ri (by decide), mupd_ri (by decide), mupd_ri (by decide), mupd_at]
  · rw [mupd_ri (by decide), mupd_ri (by decide), mupd_at]
  · rw [mupd_ri (by decide), mupd_at]
  · rw [a2 q (by omega), mupd_ne _ (by omega), mupd_ne _ (by omega), mupd_ne _ (by omega), mupd_ne _ (by omega)]
theorem c_bell {n : Nat} {z u ho : Int → Int} {bo : Int → Int → Int} {T a : Int} {k : Nat} {σ0 : Mem} {Q : Int → Mem → Prop} (hG : CFG n z u ho bo) (hT : 0 ≤ T ∧ T < 256) (ha : 0 ≤ a ∧ a < 8) (hC : CS n z u ho bo T a k σ0) (hQ : ∀ σ', CS n z u ho bo T a (k + 1) σ' → FW σ0 σ' → Q 0 σ') : HT GC M_X7_ring [mr 33] σ0 Q := by
  have hi := stW_in (T := T) hG ha k
  exact c_ring hG hC.1 hT hi.1 hi.2 (fun σ' a1 a2 a3 => hQ σ' ⟨a1, a3⟩ a2)
theorem l_hands {n : Nat} {z u ho : Int → Int} {bo : Int → Int → Int} {T a : Int} {σ0 : Mem} {Q : Int → Mem → Prop} (hG : CFG n z u ho bo) (hT : 0 ≤ T ∧ T < 256) (ha : 0 ≤ a ∧ a < 8) {N : Nat} (hN : N < 1000) (hQ : ∀ σ', FW σ0 σ' → Q (stW n z u ho bo T a N).1 σ') : ∀ (m k : Nat) (σ : Mem), k + m = N → CS n z u ho bo T a k σ → FW σ0 σ → WP GC M_X7_handsAfter 18 [some (mr 33), none, none, some (mi (N : Int)), none, some (mi (k : Int))] [] σ Q
  | 0, k, σ, hk, hC, f => by
    obtain rfl : k = N := by omega
    apply b_X7_handsAfter_33_3_18
    rw [hC.1.2.2.1]
    exact bt (Int.le_refl _) (hQ σ f)
  | m + 1, k, σ, hk, hC, f => by
    apply b_X7_handsAfter_33_3_18
    refine bf (by omega) (c_bell hG hT ha hC (fun σ' c1 c2 => ?_))
    rw [jadd_eq (by omega) (by omega)]
    exact l_hands hG hT ha hN hQ m (k + 1) σ' (by omega) c1 (f.tr c2)
theorem l_reachM {n : Nat} {z u ho : Int → Int} {bo : Int → Int → Int} {T a : Int} {τ0 : Mem} {Q : Int → Mem → Prop} (hG : CFG n z u ho bo) (hM : MKo n z u ho bo τ0) (hT : 0 ≤ T ∧ T < 256) {N : Nat} (hN : N < 999) (hQ : ∀ τ', FV τ0 τ' → Q (stW n z u ho bo T a N).1 τ') : ∀ (m k : Nat) (τ : Mem) (Pm : Int), k + m = N → FV τ0 τ → τ 0 18 = (stW n z u ho bo T a k).1 → τ 0 19 = Pm → INV n ho T (stW n z u ho bo T a k) Pm → WP GM M_X9_reach 57 [some (mr 0), none, some (mi (N : Int)), none, some (mi T), some (mi ((k : Int) + 1))] [] τ Q
  | 0, k, τ, Pm, hk, f, a1, a2, hI => by
    obtain rfl : k = N := by omega
    apply b_X9_reach_0_57
    rw [a1]
    exact bt (by omega) (hQ τ f)
  | m + 1, k, τ, Pm, hk, f, a1, a2, hI => by
    apply b_X9_reach_0_57
    refine bf (by omega) (m_bell hG (f.mk hM) (by omega) hT a1 a2 hI (fun τ1 f1 p1 h => HT.mono h (fun r s _ _ q => ?_)))
    obtain ⟨Pm2, g1, g2, g3, g4⟩ := q
    rw [jadd_eq (by omega) (by omega)]
    exact l_reachM hG hM hT hN hQ m (k + 1) s Pm2 (by omega) (f.tr g1) g2 g3 g4
theorem thief_in {x a : Int} (hx : 0 ≤ x ∧ x < 256) (ha : 0 ≤ a ∧ a < 8) : (0 ≤ jand x (jxor (jshl 1 a) (-1)) ∧ jand x (jxor (jshl 1 a) (-1)) < 256) ∧ ¬ tb (jand x (jxor (jshl 1 a) (-1))) a = true := by
  have hN := jandn_N (a := x) (k := a) ⟨hx.1, by omega⟩ (by omega)
  refine ⟨⟨hN.1, lt_of_tb (p := 8) hN.1 (fun k hk => ?_)⟩, ?_⟩
  · rw [tb_andn ⟨hx.1, by omega⟩ (by omega) (by omega), tb_high (a := x) (p := 8) hx hk]; rfl
  · rw [tb_andn ⟨hx.1, by omega⟩ (by omega) ha.1]
    simp
theorem RR.wv {σ σ' τ τ' : Mem} (hR : RR σ τ) (f : FW σ σ') (g : ∀ q, q ≠ 0 → q < 12 ∨ 15 < q → τ' q = τ q) (g0 : ∀ j, j ≠ 18 → j ≠ 19 → j ≠ 20 → τ' 0 j = τ 0 j) : RR σ' τ' :=
  hR.fr (fun k a b => f k (by omega)) (fun k a b => f k (by omega)) (by rw [f 0 (by omega)]) (by rw [f 25 (by omega)]) (f 26 (by omega)) (fun k a b => g k (by omega) (by omega)) (fun k a b => g k (by omega) (by omega)) (fun j a => g0 j (by omega) (by omega) (by omega))
theorem sim_reach {a k x : Int} {σ τ : Mem} (hR : RR σ τ) : SIM M_X8_reach M_X9_reach [mr 0, mi a, mi k, mi x] σ τ RR := by
  by_cases ha : 0 ≤ a ∧ a < 8
  · by_cases hk : 0 ≤ k ∧ k < 25
    · by_cases hx : 0 ≤ x ∧ x < 256
      · obtain ⟨hG, hM, hn⟩ := hR.cfg
        obtain ⟨hT, hTa⟩ := thief_in hx ha
        obtain ⟨N, rfl⟩ := nn_of hk.1
        refine ⟨(stW (nOf τ) (τ 1) (τ 2) (τ 3) (bOf τ) (jand x (jxor (jshl 1 a) (-1))) a N).1, FW σ, FV τ, ?_, ?_, fun σ' τ' _ _ f g => hR.wv f (fun q q0 _ => g.1 q q0) (fun j j1 j2 _ => g.2 j j1 j2)⟩
        · apply e_X8_reach_0
          refine c_within (fun _ => bf (by decide) (c_within (fun _ => bf (by decide) ?_) (fun z => absurd hk z))) (fun z => absurd ha z)
          apply e_X8_isBoys
          refine c_within (fun _ => ⟨Or.inr rfl, bn1 ?_⟩) (fun z => absurd hx z)
          apply e_X7_handsAfter_33_3
          refine c_copy hR (fun σ1 c1 f1 => c_start hG c1 ha (fun σ2 c2 f2 => ?_))
          exact l_hands hG hT ha (by omega) (fun σ' f => ⟨rfl, (f1.tr f2).tr f⟩) N 0 σ2 (by omega) c2 (fun _ _ => rfl)
        · apply e_X9_reach_0
          refine c_isBoy (fun _ => bf (by decide) (c_in (fun _ => bf (by decide) (c_in (fun _ => bn1 ?_) (fun z => absurd (by omega) z))) (fun z => absurd (by omega) z))) (fun z => absurd ha z)
          apply e_X9_begin_0
          have f0 : FV τ (mupd (mupd τ 0 18 (jshl 1 a)) 0 19 0) := (FV.p (Or.inl rfl)).tr (FV.p (Or.inr rfl))
          refine m_start hG (f0.mk hM) hT ha hTa (by rw [mupd_ri (by decide), mupd_at]) (by rw [mupd_at]) (fun τ1 Pm g1 g2 g3 g4 => ?_)
          exact l_reachM hG hM hT (by omega) (fun τ' f => ⟨rfl, f⟩) N 0 τ1 Pm (by omega) (f0.tr g1) g2 g3 g4
      · refine sim_same hR (-1) ?_ ?_
        · apply e_X8_reach_0
          refine c_within (fun _ => bf (by decide) (c_within (fun _ => bf (by decide) ?_) (fun z => absurd hk z))) (fun z => absurd ha z)
          apply e_X8_isBoys
          exact c_within (fun z => absurd z hx) (fun _ => ⟨Or.inl rfl, bn0 ⟨rfl, rfl⟩⟩)
        · apply e_X9_reach_0
          exact c_isBoy (fun _ => bf (by decide) (c_in (fun _ => bf (by decide) (c_in (fun z => absurd (by omega) hx) (fun _ => bn0 ⟨rfl, rfl⟩))) (fun z => absurd (by omega) z))) (fun z => absurd ha z)
    · refine sim_same hR (-1) ?_ ?_
      · apply e_X8_reach_0
        exact c_within (fun _ => bf (by decide) (c_within (fun z => absurd z hk) (fun _ => bt rfl ⟨rfl, rfl⟩))) (fun z => absurd ha z)
      · apply e_X9_reach_0
        exact c_isBoy (fun _ => bf (by decide) (c_in (fun z => absurd (by omega) hk) (fun _ => bt rfl ⟨rfl, rfl⟩))) (fun z => absurd ha z)
  · refine sim_same hR (-1) ?_ ?_
    · apply e_X8_reach_0
      exact c_within (fun z => absurd z ha) (fun _ => bt rfl ⟨rfl, rfl⟩)
    · apply e_X9_reach_0
      exact c_isBoy (fun z => absurd z ha) (fun _ => bt rfl ⟨rfl, rfl⟩)
