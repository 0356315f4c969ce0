/-! THE LAYER OVER THE MACHINE: a fixed graph of cells (places), whole numbers in it; WP a walk at a point of a method, HT a method's triple -/
abbrev Mem := Nat → Int → Int
abbrev MV := Int ⊕ (Int ⊕ Nat)
abbrev mi (x : Int) : MV := .inl x
abbrev ml (x : Int) : MV := .inr (.inl x)
abbrev mr (k : Nat) : MV := .inr (.inr k)
def mval (ad : Nat → Nat) : MV → Value
  | .inl x => .int (Int32.ofInt x)
  | .inr (.inl x) => .long (Int64.ofInt x)
  | .inr (.inr k) => .ref (ad k)
abbrev R32 (x : Int) : Prop := -2147483648 ≤ x ∧ x < 2147483648
abbrev R64 (x : Int) : Prop := -9223372036854775808 ≤ x ∧ x < 9223372036854775808
def mok : MV → Prop
  | .inl x => R32 x
  | .inr (.inl x) => R64 x
  | .inr (.inr _) => True
def mcat : MV → Nat
  | .inr (.inl _) => 2
  | _ => 1
theorem mcat_val (ad : Nat → Nat) (v : MV) : (mval ad v).category = mcat v := by
  rcases v with x | x | k <;> rfl
theorem r32_lo {x : Int} (h : R32 x) : (Int32.ofInt x).toInt = x := Int32.toInt_ofInt_of_le (by omega) (by omega)
theorem r64_lo {x : Int} (h : R64 x) : (Int64.ofInt x).toInt = x := Int64.toInt_ofInt_of_le (by omega) (by omega)
theorem r32_of (x : Int32) : R32 x.toInt := ⟨by have := x.le_toInt; omega, by have := x.toInt_lt; omega⟩
theorem r64_of (x : Int64) : R64 x.toInt := ⟨by have := x.le_toInt; omega, by have := x.toInt_lt; omega⟩
/-! locals -/
def mlh (ad : Nat → Nat) (ls : Array Slot) (nL : Nat) (L : List (Option MV)) : Prop :=
  ls.size = nL ∧ lv_wf ls ∧ ∀ (i : Nat) (v : MV), L[i]? = some (some v) → ls[i]? = some (.val (mval ad v))
def mlist (ad : Nat → Nat) (L : List (Option MV)) : List (Nat × Value) := L.zipIdx.filterMap (fun q => q.1.map (fun v => (q.2, mval ad v)))
theorem mlist_in {ad : Nat → Nat} {L : List (Option MV)} {i : Nat} {v : MV} (h : L[i]? = some (some v)) : (i, mval ad v) ∈ mlist ad L := by
  refine List.mem_filterMap.mpr ⟨(some v, i), ?_, rfl⟩
  exact List.mem_zipIdx_iff_getElem?.mpr h
theorem mlh_has {ad : Nat → Nat} {ls : Array Slot} {nL : Nat} {L : List (Option MV)} (h : mlh ad ls nL L) : lv_has ls nL (mlist ad L) := by
  refine ⟨h.1, h.2.1, fun q hq => ?_⟩
  obtain ⟨⟨o, i⟩, h1, h2⟩ := List.mem_filterMap.mp hq
  cases o with
  | none => cases h2
  | some v =>
    cases h2
    exact h.2.2 i v (List.mem_zipIdx_iff_getElem?.mp h1)
def mst0 (L : List (Option MV)) : Nat → List (Option MV)
  | 0 => L
  | j + 1 => match L[j]? with
    | some (some (.inr (.inl _))) => L.set j none
    | _ => L
def mst (L : List (Option MV)) (i : Nat) (v : MV) : List (Option MV) := (mst0 L i).set i (some v)
def mst2 (L : List (Option MV)) (i : Nat) (v : MV) : List (Option MV) := (mst L i v).set (i + 1) none
theorem mst0_get {L : List (Option MV)} {i j : Nat} {w : MV} (h : (mst0 L i)[j]? = some (some w)) : L[j]? = some (some w) ∧ ¬ (j + 1 = i ∧ mcat w = 2) := by
  cases i with
  | zero => exact ⟨h, fun z => by omega⟩
  | succ k =>
    simp only [mst0] at h
    split at h
    next x hk =>
      by_cases hj : j = k
      · subst hj
        rw [List.getElem?_set_self (List.getElem?_eq_some_iff.mp hk).1] at h
        cases h
      · rw [List.getElem?_set_ne (Ne.symm hj)] at h
        exact ⟨h, fun z => by omega⟩
    next hk =>
      refine ⟨h, fun z => ?_⟩
      have hj : j = k := by omega
      subst hj
      rcases w with x | x | x
      · exact absurd z.2 (by simp [mcat])
      · exact hk x h
      · exact absurd z.2 (by simp [mcat])
theorem mst_has {ad : Nat → Nat} {ls : Array Slot} {nL i : Nat} {L : List (Option MV)} {v : MV}
    (h : lv_has ls nL ((i, mval ad v) :: (mlist ad L).filter (fun q => !(q.1 == i) && !(q.1 + 1 == i && q.2.category == 2)))) : mlh ad ls nL (mst L i v) := by
  refine ⟨h.1, h.2.1, fun j w hw => ?_⟩
  by_cases hj : j = i
  · subst hj
    unfold mst at hw
    by_cases hl : j < (mst0 L j).length
    · rw [List.getElem?_set_self hl] at hw
      cases hw
      exact h.2.2 _ List.mem_cons_self
    · rw [List.getElem?_eq_none (by rw [List.length_set]; omega)] at hw
      cases hw
  · unfold mst at hw
    rw [List.getElem?_set_ne (Ne.symm hj)] at hw
    obtain ⟨h1, h2⟩ := mst0_get hw
    refine h.2.2 (j, mval ad w) (List.mem_cons_of_mem _ (List.mem_filter.mpr ⟨mlist_in h1, ?_⟩))
    rw [show (mval ad w).category = mcat w from mcat_val ad w]
    simp only [Bool.and_eq_true, Bool.not_eq_true', beq_eq_false_iff_ne, ne_eq, hj, not_false_eq_true, Bool.and_eq_false_iff, true_and]
    by_cases h3 : j + 1 = i
    · exact Or.inr (fun z => h2 ⟨h3, z⟩)
    · exact Or.inl h3
theorem mst2_has {ad : Nat → Nat} {ls : Array Slot} {nL i : Nat} {L : List (Option MV)} {v : MV}
    (h : lv_has ls nL ((i, mval ad v) :: (mlist ad L).filter (fun q => !(q.1 == i) && (!(q.1 == i + 1) && !(q.1 + 1 == i && q.2.category == 2))))) : mlh ad ls nL (mst2 L i v) := by
  refine ⟨h.1, h.2.1, fun j w hw => ?_⟩
  unfold mst2 at hw
  by_cases hj1 : j = i + 1
  · subst hj1
    by_cases hl : i + 1 < (mst L i v).length
    · rw [List.getElem?_set_self hl] at hw
      cases hw
    · rw [List.getElem?_eq_none (by rw [List.length_set]; omega)] at hw
      cases hw
  · rw [List.getElem?_set_ne (Ne.symm hj1)] at hw
    by_cases hj : j = i
    · subst hj
      unfold mst at hw
      by_cases hl : j < (mst0 L j).length
      · rw [List.getElem?_set_self hl] at hw
        cases hw
        exact h.2.2 _ List.mem_cons_self
      · rw [List.getElem?_eq_none (by rw [List.length_set]; omega)] at hw
        cases hw
    · unfold mst at hw
      rw [List.getElem?_set_ne (Ne.symm hj)] at hw
      obtain ⟨h1, h2⟩ := mst0_get hw
      refine h.2.2 (j, mval ad w) (List.mem_cons_of_mem _ (List.mem_filter.mpr ⟨mlist_in h1, ?_⟩))
      rw [show (mval ad w).category = mcat w from mcat_val ad w]
      simp only [Bool.and_eq_true, Bool.not_eq_true', beq_eq_false_iff_ne, ne_eq, hj, hj1, not_false_eq_true, Bool.and_eq_false_iff, true_and]
      by_cases h3 : j + 1 = i
      · exact Or.inr (fun z => h2 ⟨h3, z⟩)
      · exact Or.inl h3
def mlay : List MV → List (Option MV)
  | [] => []
  | v :: r => match v with
    | .inr (.inl x) => some (ml x) :: none :: mlay r
    | w => some w :: mlay r
theorem mlay_args (ad : Nat → Nat) : ∀ (as : List MV) (k i : Nat) (v : MV), (mlay as)[i]? = some (some v) → (k + i, mval ad v) ∈ lv_args k (as.map (mval ad))
  | [], k, i, v, h => by simp [mlay] at h
  | a :: r, k, i, v, h => by
    have one : ∀ w : MV, a = w → mcat w = 1 → (some w :: mlay r)[i]? = some (some v) → (k + i, mval ad v) ∈ lv_args k ((a :: r).map (mval ad)) := by
      intro w hw hc h
      subst hw
      simp only [List.map_cons, lv_args, mcat_val, hc]
      cases i with
      | zero =>
        simp only [List.getElem?_cons_zero, Option.some.injEq] at h
        subst h
        exact List.mem_cons_self
      | succ i =>
        rw [List.getElem?_cons_succ] at h
        have h2 := mlay_args ad r (k + 1) i v h
        rw [show k + 1 + i = k + (i + 1) by omega] at h2
        exact List.mem_cons_of_mem _ h2
    rcases a with x | x | x
    · exact one _ rfl rfl h
    · simp only [List.map_cons, lv_args, mcat_val, mcat, if_true]
      simp only [mlay] at h
      cases i with
      | zero =>
        simp only [List.getElem?_cons_zero, Option.some.injEq] at h
        subst h
        exact List.mem_cons_self
      | succ i =>
        rw [List.getElem?_cons_succ] at h
        cases i with
        | zero => simp at h
        | succ i =>
          rw [List.getElem?_cons_succ] at h
          have h2 := mlay_args ad r (k + 2) i v h
          rw [show k + 2 + i = k + (i + 1 + 1) by omega] at h2
          exact List.mem_cons_of_mem _ h2
    · exact one _ rfl rfl h
theorem mlay_len (ad : Nat → Nat) : ∀ as : List MV, (lg_sl (as.map (mval ad))).length = (mlay as).length
  | [] => rfl
  | a :: r => by
    have ih := mlay_len ad r
    unfold lg_sl at ih ⊢
    rw [List.map_cons, List.flatMap_cons, List.length_append, ih]
    rcases a with x | x | x <;> simp [mval, Value.category, mlay] <;> omega
def ment (n : Nat) (as : List MV) : List (Option MV) := mlay as ++ List.replicate (n - (mlay as).length) none
theorem ment_has {ad : Nat → Nat} {ls : Array Slot} {n : Nat} {as : List MV} (h : lv_has ls n (lv_args 0 (as.map (mval ad)))) : mlh ad ls n (ment n as) := by
  refine ⟨h.1, h.2.1, fun i v hv => ?_⟩
  unfold ment at hv
  by_cases hi : i < (mlay as).length
  · rw [List.getElem?_append_left hi] at hv
    have h1 := mlay_args ad as 0 i v hv
    rw [Nat.zero_add] at h1
    exact h.2.2 _ h1
  · rw [List.getElem?_append_right (by omega)] at hv
    exact absurd (List.eq_of_mem_replicate (List.mem_of_getElem? hv)) (by simp)
/-! cells -/
abbrev MK := (Bool × Nat) ⊕ (Nat × List (Option Nat))
abbrev MG := List MK
def mfld (ad : Nat → Nat) (σ : Mem) (k : Nat) (q : Option Nat × Nat) : Value := match q.1 with
  | none => .int (Int32.ofInt (σ k q.2))
  | some k' => .ref (ad k')
def mcell (cI cZ : ClassId) (ad : Nat → Nat) (σ : Mem) (k : Nat) : MK → va_E
  | .inl (z, n) => .inl (bif z then cZ else cI, n, .inl (fun j => Int32.ofInt (σ k j)))
  | .inr (ci, fs) => .inr (ci, fs.zipIdx.map (mfld ad σ k))
def mws (cI cZ : ClassId) (ad : Nat → Nat) (G : MG) (σ : Mem) : va_W := G.zipIdx.map (fun q => (ad q.2, mcell cI cZ ad σ q.2 q.1))
theorem mws_at {cI cZ : ClassId} {ad : Nat → Nat} {G : MG} {σ : Mem} {k : Nat} {x : MK} (h : G[k]? = some x) : (mws cI cZ ad G σ)[k]? = some (ad k, mcell cI cZ ad σ k x) := by
  simp [mws, List.getElem?_zipIdx, h]
theorem mcell_congr {cI cZ : ClassId} {ad : Nat → Nat} {σ σ' : Mem} {k : Nat} (h : σ' k = σ k) (x : MK) : mcell cI cZ ad σ' k x = mcell cI cZ ad σ k x := by
  rcases x with ⟨z, n⟩ | ⟨ci, fs⟩
  · simp only [mcell, h]
  · simp only [mcell]
    congr 2
    refine List.map_congr_left fun q _ => ?_
    simp only [mfld, h]
theorem mws_set {cI cZ : ClassId} {ad : Nat → Nat} {G : MG} {σ σ' : Mem} {k : Nat} {x : MK} {e : va_E} (h : G[k]? = some x) (hσ : ∀ a, a ≠ k → σ' a = σ a) (he : e = mcell cI cZ ad σ' k x) : (mws cI cZ ad G σ).set k (ad k, e) = mws cI cZ ad G σ' := by
  apply List.ext_getElem?
  intro i
  by_cases hi : i = k
  · subst hi
    rw [List.getElem?_set_self (List.getElem?_eq_some_iff.mp (mws_at (cI := cI) (cZ := cZ) (ad := ad) (σ := σ) h)).1, mws_at h, he]
  · rw [List.getElem?_set_ne (Ne.symm hi)]
    cases hx : G[i]? with
    | none => simp [mws, List.getElem?_zipIdx, hx]
    | some y => rw [mws_at hx, mws_at hx, mcell_congr (hσ i hi)]
def mupd (σ : Mem) (k : Nat) (i v : Int) : Mem := fun a b => if a = k ∧ b = i then v else σ a b
def mcpy (σ : Mem) (k0 : Nat) (sp : Int) (k1 : Nat) (dp n : Int) : Mem := fun a b => if a = k1 ∧ dp ≤ b ∧ b < dp + n then σ k0 (sp + (b - dp)) else σ a b
theorem mupd_ne {σ : Mem} {k : Nat} {i v : Int} (a : Nat) (h : a ≠ k) : mupd σ k i v a = σ a := by
  funext b
  simp [mupd, h]
theorem mcpy_ne {σ : Mem} {k0 k1 : Nat} {sp dp n : Int} (a : Nat) (h : a ≠ k1) : mcpy σ k0 sp k1 dp n a = σ a := by
  funext b
  simp [mcpy, h]
def mokm (σ : Mem) : Prop := ∀ k j, R32 (σ k j)
theorem mokm_upd {σ : Mem} (h : mokm σ) {k : Nat} {i v : Int} (hv : R32 v) : mokm (mupd σ k i v) := by
  intro a b
  unfold mupd
  split
  · exact hv
  · exact h a b
theorem mokm_cpy {σ : Mem} (h : mokm σ) {k0 k1 : Nat} {sp dp n : Int} : mokm (mcpy σ k0 sp k1 dp n) := by
  intro a b
  unfold mcpy
  split
  · exact h _ _
  · exact h a b
/-! methods -/
abbrev MI := MethodName × ByteArray × Nat × Option FieldType × Nat × Nat
abbrev m_y (M : MI) : MethodName := M.1
abbrev m_c (M : MI) : ByteArray := M.2.1
abbrev m_n (M : MI) : Nat := M.2.2.1
abbrev m_r (M : MI) : Option FieldType := M.2.2.2.1
abbrev m_f (M : MI) : Nat := M.2.2.2.2.1
abbrev m_l (M : MI) : Nat := M.2.2.2.2.2
def mroom (M : MI) : Room := { frames := m_f M, cells := 0, slots := 0, locals := m_l M }
def wsM (M : MI) : List Cond := Cond.code (m_y M) (m_c M) (m_n M) (m_r M) :: TBL
abbrev mtys (cI cZ : ClassId) : List (ClassId × FieldType) := [(cI, .int), (cZ, .boolean)]
/-- the links between nest mates -/
def mNW : List Cond := [.methodLinkNest RX0 34 yX8_within RX8, .methodLinkNest RX1 39 yX8_isPair RX8, .methodLinkNest RX1 43 yX8_within RX8, .methodLinkNest RX5 26 yX8_within RX8, .methodLinkNest RX6 34 yX8_within RX8]
def mnest (U : State) : Prop := ∀ w ∈ mNW, va_Nw w U
theorem mnest_warm {s U : State} (hW : s.WarmedH U.vm) (h : mnest s) : mnest U := by
  intro w hw
  have h1 := h w hw
  simp only [mNW, List.mem_cons, List.not_mem_nil, or_false] at hw
  rcases hw with rfl | rfl | rfl | rfl | rfl <;> exact va_Nw.warmM hW h1
theorem mnest_same {u U : State} (hv : u.vm = U.vm) (h : mnest u) : mnest U := by
  intro w hw
  have h1 := h w hw
  simp only [mNW, List.mem_cons, List.not_mem_nil, or_false] at hw
  rcases hw with rfl | rfl | rfl | rfl | rfl <;> exact va_Nw.same rfl hv h1
def mret (ret : Option FieldType) (r : Int) : Option Value := match ret with
  | none => none
  | some _ => some (.int (Int32.ofInt r))
def mpush (ret : Option FieldType) (r : Int) (S : List MV) : List MV := match ret with
  | none => S
  | some _ => mi r :: S
def mwld (D : va_G) (cI cZ : ClassId) (ad : Nat → Nat) (G : MG) (A : Nat → Prop) (σ : Mem) (U : State) : Prop :=
  va_P D vwCl (mws cI cZ ad G σ) U.heap ∧ va_K D vwCl (mtys cI cZ) U ∧ va_D A (mws cI cZ ad G σ)
def mpre (D : va_G) (cI cZ : ClassId) (ad : Nat → Nat) (G : MG) (sz : Nat) (σ : Mem) (U : State) : Prop :=
  U.heap.size = sz ∧ mwld D cI cZ ad G (fun _ => True) σ U ∧ mnest U
def mQ (ret : Option FieldType) (D : va_G) (cI cZ : ClassId) (ad : Nat → Nat) (G : MG) (A : Nat → Prop) (Q : Int → Mem → Prop) : Array Value → State → Outcome → State → Prop := fun _ st oc t =>
  (∃ (r : Int) (σ : Mem), oc = .returned (mret ret r) ∧ R32 r ∧ mokm σ ∧ Q r σ ∧ mwld D cI cZ ad G A σ t) ∧ va_F A st t
def HT (G : MG) (M : MI) (as : List MV) (σ : Mem) (Q : Int → Mem → Prop) : Prop :=
  (∀ v ∈ as, mok v) → mokm σ → ∀ (l : Launch) (D : va_G) (cI cZ : ClassId) (ad : Nat → Nat) (sz : Nat),
    Met l (m_y M) (wsM M) (mroom M) (va_Pc (as.map (mval ad)) (mpre D cI cZ ad G sz σ)) (mQ (m_r M) D cI cZ ad G (va_A (mws cI cZ ad G σ) sz) Q) 0 0 (va_A (mws cI cZ ad G σ) sz)
def mcx (M : MI) (p : Program) (s : State) (m : MethodId) (args : Array Value) (meth : Method) (c : Code) (A : Nat → Prop) (D : va_G) (cI cZ : ClassId) : Prop :=
  p.tables.exec = Jvm.exec ∧ c.code = m_c M ∧ c.maxLocals = m_n M ∧ s.vm.findClass (m_y M).cls = some m.cls ∧ (∀ w ∈ TBL, w.before args s = true) ∧ meth.locks = false ∧ meth.sig.returnType = m_r M ∧ va_K D vwCl (mtys cI cZ) s ∧ (∀ q, s.heap.size ≤ q → A q) ∧ mnest s
def WP (G : MG) (M : MI) (pc : Nat) (L : List (Option MV)) (S : List MV) (σ : Mem) (Q : Int → Mem → Prop) : Prop :=
  (∀ v, some v ∈ L → mok v) → (∀ v ∈ S, mok v) → mokm σ → ∀ (p : Program) (l : Launch) (e : Env) (s : State) (m : MethodId) (args : Array Value) (below : List Frame) (meth : Method) (c : Code) (A : Nat → Prop) (D : va_G) (cI cZ : ClassId) (ad : Nat → Nat),
    mcx M p s m args meth c A D cI cZ → ∀ (H : Heap) (locs : List Loc) (ls : Array Slot), va_P D vwCl (mws cI cZ ad G σ) H → va_D A (mws cI cZ ad G σ) → va_S A s.heap H locs → mlh ad ls (m_n M) L →
      W p l e (mroom M) s m args below meth c H locs 0 0 (MQ below (mQ (m_r M) D cI cZ ad G A Q) args s 0 0 A) (F0 m pc ls (S.map (mval ad)))
theorem Met.imp' {l : Launch} {y : MethodName} {ws : List Cond} {rm : Room} {Pc : Array Value → State → Prop} {Qc Qc' : Array Value → State → Outcome → State → Prop} {mc ms : Nat} {free : Addr → Prop} (h : Met l y ws rm Pc Qc mc ms free) (hq : ∀ a s o t, Qc a s o t → Qc' a s o t) : Met l y ws rm Pc Qc' mc ms free := by
  intro p e ha hc hk s m args below hf happ hP hK
  obtain ⟨n, o, h1, h2, h3, h4⟩ := h p e ha hc hk s m args below hf happ hP hK
  exact ⟨n, o, h1, h2, h3, hq _ _ _ _ h4.1, h4.2⟩
theorem HT.mono {G : MG} {M : MI} {as : List MV} {σ : Mem} {Q Q' : Int → Mem → Prop} (h : HT G M as σ Q) (hq : ∀ r σ', R32 r → mokm σ' → Q r σ' → Q' r σ') : HT G M as σ Q' := by
  intro ha hσ l D cI cZ ad sz
  refine Met.imp' (h ha hσ l D cI cZ ad sz) ?_
  rintro a s o t ⟨⟨r, σ', h1, h2, h3, h4, h5⟩, h6⟩
  exact ⟨⟨r, σ', h1, h2, h3, hq r σ' h2 h3 h4, h5⟩, h6⟩
theorem HT.rng {G : MG} {M : MI} {as : List MV} {σ : Mem} {Q : Int → Mem → Prop} (h : (∀ v ∈ as, mok v) → mokm σ → HT G M as σ Q) : HT G M as σ Q := fun ha hσ => h ha hσ ha hσ
theorem HT.of {G : MG} {M : MI} {as : List MV} {σ : Mem} {Q : Int → Mem → Prop} (hy : plainName (m_y M).cls = true) (hlen : (mlay as).length ≤ m_n M) (h : WP G M 0 (ment (m_n M) as) [] σ Q) : HT G M as σ Q := by
  intro ha hσ l D cI cZ ad sz
  refine Met.ofW (cc := m_c M) (maxL := m_n M) (ret := m_r M) hy rfl ?_
  intro p e s m args below meth c s₁ B hml hv
  obtain ⟨rfl, hsz, ⟨hP, hK, hD0⟩, hN⟩ := hv
  have hx := B.exec
  have hb := B.bytes
  have hr := B.returns
  have hts := atoms_spec (ws := wsM M) B.pre
  have hown : s.vm.findClass (m_y M).cls = some m.cls := findClass_of_methodNamed B.named
  have hlocks := B.notSynchronized
  subst hsz
  have hD := hD0.self (sz := s.heap.size)
  have hl := lv_entry (as.map (mval ad)) (n := m_n M) (by rw [mlay_len]; exact hlen)
  rw [lg_entry_eq]
  refine h ?_ (fun v hv => by cases hv) hσ p l e s m _ below meth c _ D cI cZ ad ⟨hx, hb, hml, hown, fun w hw => hts w (List.mem_cons_of_mem _ hw), hlocks, hr, hK, fun q hq => Or.inr hq, hN⟩ s.heap [] _ hP hD va_S.rf (ment_has hl)
  intro v hv
  unfold ment at hv
  rcases List.mem_append.mp hv with h1 | h1
  · have key : ∀ (as : List MV), some v ∈ mlay as → v ∈ as := by
      intro as
      induction as with
      | nil => intro h; cases h
      | cons a r ih =>
        intro h
        rcases a with x | x | x
        · rcases List.mem_cons.mp h with h | h
          · cases h; exact List.mem_cons_self
          · exact List.mem_cons_of_mem _ (ih h)
        · rcases List.mem_cons.mp h with h | h
          · cases h; exact List.mem_cons_self
          · rcases List.mem_cons.mp h with h | h
            · cases h
            · exact List.mem_cons_of_mem _ (ih h)
        · rcases List.mem_cons.mp h with h | h
          · cases h; exact List.mem_cons_self
          · exact List.mem_cons_of_mem _ (ih h)
    exact ha v (key as h1)
  · exact absurd (List.eq_of_mem_replicate h1) (by simp)
