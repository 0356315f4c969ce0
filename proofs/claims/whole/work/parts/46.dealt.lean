/-! dealt: one order tried, in both -/
def rb (bo : Int → Int → Int) (c : Int) (f : Int → Int) : Int → Int → Int := fun d j => if d = c then f j else bo d j
theorem rb_at {bo : Int → Int → Int} {c j : Int} {f : Int → Int} : rb bo c f c j = f j := by simp [rb]
theorem rb_ne {bo : Int → Int → Int} {c d j : Int} {f : Int → Int} (h : d ≠ c) : rb bo c f d j = bo d j := by simp [rb, h]
def RG (s : Nat) (f : Int → Int) : Prop := ∀ j : Int, 0 ≤ j → j < s → 0 ≤ f j ∧ f j < 8
theorem sw_rg {s : Nat} {f : Int → Int} {i j : Int} (h : RG s f) (hi : 0 ≤ i ∧ i < s) (hj : 0 ≤ j ∧ j < s) : RG s (swF f i j) := by
  intro k k0 k1
  unfold swF upF
  split
  · exact h i hi.1 hi.2
  · split
    · exact h j hj.1 hj.2
    · exact h k k0 k1
theorem rv_rg {s : Nat} : ∀ (m lo hi : Nat) (f : Int → Int), hi < s → RG s f → RG s (rvF m lo hi f)
  | 0, lo, hi, f, _, h => h
  | m + 1, lo, hi, f, hh, h => by
    simp only [rvF]
    by_cases e : hi ≤ lo
    · rw [if_pos e]; exact h
    · rw [if_neg e]
      exact rv_rg m (lo + 1) (hi - 1) _ (by omega) (sw_rg h (by omega) (by omega))
theorem nx_rg {s : Nat} (hs : 1 ≤ s) {f : Int → Int} (h : RG s f) : RG s (nxF s f).2 := by
  have hp := fi_le f (s - 1)
  unfold nxF
  by_cases q : fiF f (s - 1) = 0
  · rw [if_pos q]; exact h
  · rw [if_neg q]
    have hj := fj_le f (fiF f (s - 1) - 1) (s - 1)
    exact rv_rg 4 _ _ _ (by omega) (sw_rg h (by omega) (by omega))
theorem sj_rg {s : Nat} {i : Nat} (hi : i < s) : ∀ (m j : Nat) (f : Int → Int), j + m = s → RG s f → RG s (sjC i m j f)
  | 0, _, _, _, h => h
  | m + 1, j, f, hj, h => by
    simp only [sjC]
    by_cases e : f i ≤ f j
    · rw [if_pos e]; exact sj_rg hi m (j + 1) f (by omega) h
    · rw [if_neg e]; exact sj_rg hi m (j + 1) _ (by omega) (sw_rg h (by omega) (by omega))
theorem si_rg {s : Nat} : ∀ (m i : Nat) (f : Int → Int), i + m = s → RG s f → RG s (siC m i f)
  | 0, _, _, _, h => h
  | m + 1, i, f, hi, h => by
    simp only [siC]
    exact si_rg m (i + 1) _ (by omega) (sj_rg (by omega) m (i + 1) f (by omega) h)
theorem nx_01 (s : Nat) (f : Int → Int) : (nxF s f).1 = 0 ∨ (nxF s f).1 = 1 := by
  unfold nxF
  split
  · exact Or.inl rfl
  · exact Or.inr rfl
theorem CFG.rb {n : Nat} {z u ho : Int → Int} {bo : Int → Int → Int} {c : Int} {f : Int → Int} {s : Nat} (hG : CFG n z u ho bo) (hs : (s : Int) = z c) (hf : RG s f) : CFG n z (upF u c 0) ho (rb bo c f) := by
  refine ⟨hG.1, fun d d0 d1 => ?_⟩
  have g := hG.2 d d0 d1
  unfold upF
  by_cases e : d = c
  · subst e
    rw [if_pos rfl]
    refine ⟨g.1, by omega, g.2.2.1, fun j j0 j1 => ?_⟩
    rw [rb_at]; exact hf j j0 (by omega)
  · rw [if_neg e]
    refine ⟨g.1, g.2.1, g.2.2.1, fun j j0 j1 => ?_⟩
    rw [rb_ne e]; exact g.2.2.2 j j0 j1
def FX (σ σ' : Mem) : Prop := ∀ q, q < 33 ∨ 39 < q → σ' q = σ q
theorem FX.tr {a b c : Mem} (h : FX a b) (g : FX b c) : FX a c := fun q hq => by rw [g q hq, h q hq]
theorem FW.x {a b : Mem} (h : FW a b) : FX a b := fun q hq => h q (by omega)
/-- the class's coats, as a round finds them -/
def CL (n : Nat) (z ho : Int → Int) (bo : Int → Int → Int) (c : Int) (f : Int → Int) (σ0 σ : Mem) : Prop := FX σ0 σ ∧ σ 35 0 = n ∧ ∀ d : Int, 0 ≤ d → d < n → σ 37 d = z d ∧ σ 39 d = ho d ∧ ∀ j, 0 ≤ j → j < z d → σ 36 (4 * d + j) = rb bo c f d j
theorem c_bound {n : Nat} {z u ho : Int → Int} {bo : Int → Int → Int} {T a t L : Int} {σ0 σ : Mem} {Q : Int → Mem → Prop} (hG : CFG n z u ho bo) (hT : 0 ≤ T ∧ T < 256) (ha : 0 ≤ a ∧ a < 8) (ht : 0 ≤ t ∧ t < 8) (hL : L = -4 ∨ (0 ≤ L ∧ L ≤ 24)) (hC : CS n z u ho bo T a 0 σ) (f : FW σ0 σ) (h1 : ∀ kf : Nat, kf ≤ 24 → hitW n z u ho bo T a t kf → (∀ j, j < kf → ¬ hitW n z u ho bo T a t j) → (L = -4 ∨ (kf : Int) < L) → ∀ k σ', CS n z u ho bo T a k σ' → FW σ0 σ' → Q (kf : Int) σ') (h0 : (∀ kf : Nat, kf ≤ 24 → hitW n z u ho bo T a t kf → (∀ j, j < kf → ¬ hitW n z u ho bo T a t j) → L ≠ -4 ∧ L ≤ (kf : Int)) → ∀ k σ', CS n z u ho bo T a k σ' → FW σ0 σ' → Q (-4) σ') : HT GC M_X7_bellsTo [mr 33, mi t, mi (if L = -4 then 24 else L - 1)] σ Q := by
  apply e_X7_bellsTo_33
  rcases hL with e | hL
  · subst e
    rw [if_pos rfl]
    exact l_bells (B := 24) (σ0 := σ0) hG hT ha ht (by omega) (fun kf k1 k2 k3 σ' d1 d2 => h1 kf k1 k2 k3 (Or.inl rfl) kf σ' d1 d2) (fun hn σ' d1 d2 => h0 (fun kf k1 k2 _ => absurd k2 (hn kf k1)) 24 σ' d1 d2) 24 0 σ (by omega) hC f (fun j hj => by omega)
  · rw [if_neg (by omega)]
    by_cases e : L = 0
    · subst e
      apply b_X7_bellsTo_33_2
      exact bt (by omega) (h0 (fun kf _ _ _ => ⟨by decide, by omega⟩) 0 σ hC f)
    · obtain ⟨B, hB⟩ := nn_of (show 0 ≤ L - 1 by omega)
      rw [hB]
      exact l_bells (B := B) (σ0 := σ0) hG hT ha ht (by omega) (fun kf k1 k2 k3 σ' d1 d2 => h1 kf (by omega) k2 k3 (Or.inr (by omega)) kf σ' d1 d2) (fun hn σ' d1 d2 => h0 (fun kf k1 k2 _ => ⟨by omega, Classical.byContradiction (fun y => hn kf (by omega) k2)⟩) B σ' d1 d2) B 0 σ (by omega) hC f (fun j hj => by omega)
theorem c_one {n : Nat} {z u ho : Int → Int} {bo : Int → Int → Int} {c a t L : Int} {s k : Nat} {f : Int → Int} {σ0 σ : Mem} {Q : Int → Mem → Prop} (hG : CFG n z u ho bo) (hc : 0 ≤ c ∧ c < n) (hs : (s : Int) = z c) (hf : RG s f) (ha : 0 ≤ a ∧ a < 8) (ht : 0 ≤ t ∧ t < 8) (hu : ∀ d : Int, 0 ≤ d → d < n → σ0 6 d = u d) (hk : k < 24) (hL : L = -4 ∨ (0 ≤ L ∧ L ≤ 24)) (hC : CL n z ho bo c f σ0 σ) (h1 : ∀ kf : Nat, kf ≤ 24 → hitW n z (upF u c 0) ho (rb bo c f) (jand 0 (jxor (jshl 1 a) (-1))) a t kf → (∀ j, j < kf → ¬ hitW n z (upF u c 0) ho (rb bo c f) (jand 0 (jxor (jshl 1 a) (-1))) a t j) → (L = -4 ∨ (kf : Int) < L) → ∀ σ', CL n z ho bo c (nxF s f).2 σ0 σ' → (∀ j : Int, 0 ≤ j → j < s → σ' 34 j = f j) → WP GC M_X7_dealBest 26 [some (mr 33), some (mr 3), some (mi c), some (mi a), some (mi t), some (mi (kf : Int)), some (mi ((nxF s f).1 : Int)), some (mi ((k + 1 : Nat) : Int)), none] [] σ' Q) (h0 : (∀ kf : Nat, kf ≤ 24 → hitW n z (upF u c 0) ho (rb bo c f) (jand 0 (jxor (jshl 1 a) (-1))) a t kf → (∀ j, j < kf → ¬ hitW n z (upF u c 0) ho (rb bo c f) (jand 0 (jxor (jshl 1 a) (-1))) a t j) → L ≠ -4 ∧ L ≤ (kf : Int)) → ∀ σ', CL n z ho bo c (nxF s f).2 σ0 σ' → σ' 34 = σ 34 → WP GC M_X7_dealBest 26 [some (mr 33), some (mr 3), some (mi c), some (mi a), some (mi t), some (mi L), some (mi ((nxF s f).1 : Int)), some (mi ((k + 1 : Nat) : Int)), none] [] σ' Q) : WP GC M_X7_dealBest 26 [some (mr 33), some (mr 3), some (mi c), some (mi a), some (mi t), some (mi L), some (mi 1), some (mi (k : Int)), none] [] σ Q := by
  have hn := hG.1
  have hG2 := CFG.rb (f := f) hG hs hf
  have hzc := (hG.2 c hc.1 hc.2).1
  obtain ⟨hT, hTa⟩ := thief_in (x := 0) (by omega) ha
  have hmid : ∀ q, q ≠ 38 → mupd (mcpy σ 6 0 38 0 4) 38 c 0 q = σ q := fun q hq => by rw [mupd_ne _ hq, mcpy_ne _ hq]
  have hCK : CK n z (upF u c 0) ho (rb bo c f) 0 (mupd (mcpy σ 6 0 38 0 4) 38 c 0) := by
    refine ⟨by rw [hmid 35 (by decide)]; exact hC.2.1, fun d d0 d1 => ?_⟩
    have g := hC.2.2 d d0 d1
    rw [hmid 37 (by decide), hmid 39 (by decide), hmid 36 (by decide)]
    refine ⟨g.1, ?_, g.2.1, g.2.2⟩
    have gz := hG.2 d d0 d1
    rw [mupd_ap]
    unfold upF
    by_cases e : d = c
    · rw [if_pos e, if_pos e]; simp
    · rw [if_neg e, if_neg e]
      have e6 : σ 6 d = u d := by rw [hC.1 6 (by omega)]; exact hu d d0 d1
      rw [show (u d + ((0 : Nat) : Int)) = u d by omega, Int.emod_eq_of_lt gz.2.1.1 gz.2.1.2, ← e6]
      simp [mcpy]; omega
  have after : ∀ (v : Int) (σ3 : Mem), FX σ0 σ3 → σ3 35 0 = n → (∀ d : Int, 0 ≤ d → d < n → σ3 37 d = z d ∧ σ3 39 d = ho d ∧ ∀ j, 0 ≤ j → j < z d → σ3 36 (4 * d + j) = rb bo c f d j) → (∀ σ', CL n z ho bo c (nxF s f).2 σ0 σ' → σ' 34 = σ3 34 → WP GC M_X7_dealBest 26 [some (mr 33), some (mr 3), some (mi c), some (mi a), some (mi t), some (mi v), some (mi ((nxF s f).1 : Int)), some (mi ((k + 1 : Nat) : Int)), none] [] σ' Q) → WP GC M_X7_dealBest 125 [some (mr 33), some (mr 3), some (mi c), some (mi a), some (mi t), some (mi v), none, some (mi (k : Int)), none] [] σ3 Q := by
    intro v σ3 g1 g2 g3 h
    apply b_X7_dealBest_33_3_125
    have gc := g3 c hc.1 hc.2
    refine c_next (z := s) (f := f) (σ0 := σ3) (by omega) (by omega) (by rw [gc.1, hs]) ⟨fun _ _ => rfl, fun j j0 j1 => by rw [gc.2.2 j j0 (by omega), rb_at], fun _ _ => rfl⟩ (fun σ' hA => ?_)
    rw [jadd_eq (by omega) (by omega)]
    refine h σ' ⟨g1.tr (fun q hq => hA.1 q (by omega)), by rw [hA.1 35 (by decide)]; exact g2, fun d d0 d1 => ?_⟩ (hA.1 34 (by decide))
    have gd := g3 d d0 d1
    rw [hA.1 37 (by decide), hA.1 39 (by decide)]
    refine ⟨gd.1, gd.2.1, fun j j0 j1 => ?_⟩
    have hzd := (hG.2 d d0 d1).1
    by_cases e : d = c
    · subst e
      rw [rb_at]; exact hA.2.1 j j0 (by omega)
    · rw [rb_ne e, hA.2.2 (4 * d + j) (by omega), gd.2.2 j j0 j1, rb_ne e]
  apply b_X7_dealBest_33_3_26
  refine bf (by omega) (bf (by decide) ⟨by omega, ?_⟩)
  refine c_start (x := 0) hG2 hCK ha (fun σ1 c1 f1 => ?_)
  have key : WP GC M_X7_dealBest 90 [some (mr 33), some (mr 3), some (mi c), some (mi a), some (mi t), some (mi L), none, some (mi (k : Int)), none] [mi (if L = -4 then 24 else L - 1), mi t, mr 33] σ1 Q := by
    apply b_X7_dealBest_33_3_90
    have fx : ∀ σ2, FW (mupd (mcpy σ 6 0 38 0 4) 38 c 0) σ2 → FX σ0 σ2 := fun σ2 d => hC.1.tr (fun q hq => by rw [d q (by omega), hmid q (by omega)])
    refine c_bound hG2 hT ha ht hL c1 f1 (fun kf k1 k2 k3 k4 kk σ2 d1 d2 => ?_) (fun k1 kk σ2 d1 d2 => ?_)
    · refine bf (by omega) ?_
      rw [jmul_eq (by omega) (by omega), Int.mul_comm c 4]
      refine ⟨by omega, ?_⟩
      have hK := d1.1.1
      refine after _ _ ((fx σ2 d2).tr (fun q hq => mcpy_ne _ (by omega))) (by rw [mcpy_ne _ (by decide)]; exact hK.1) (fun d e0 e1 => ?_) (fun σ' y1 y2 => h1 kf k1 k2 k3 k4 σ' y1 (fun j j0 j1 => ?_))
      · have g := hK.2 d e0 e1
        rw [mcpy_ne _ (by decide), mcpy_ne _ (by decide), mcpy_ne _ (by decide)]
        exact ⟨g.1, g.2.2.1, g.2.2.2⟩
      · have g := (hK.2 c hc.1 hc.2).2.2.2 j j0 (by omega)
        rw [rb_at] at g
        rw [y2, ← g]
        unfold mcpy
        rw [if_pos ⟨rfl, by omega, by omega⟩, show j - 0 = j by omega]
    · refine bt rfl (after _ _ (fx σ2 d2) d1.1.1.1 (fun d e0 e1 => ?_) (fun σ' y1 y2 => h0 k1 σ' y1 ?_))
      · have g := d1.1.1.2 d e0 e1
        exact ⟨g.1, g.2.2.1, g.2.2.2⟩
      · rw [y2, d2 34 (by omega), hmid 34 (by decide)]
  refine ⟨fun e => ?_, fun e => ?_⟩
  · rw [if_neg e] at key
    rw [jsub_eq (by omega) (by omega)]; exact key
  · rw [if_pos e] at key; exact key
