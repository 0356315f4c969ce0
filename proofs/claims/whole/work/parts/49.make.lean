/-! MAKING: constructors over a list of cells that grows -/
def mNI : List Cond := [.methodLinkNest RX8 9 yX4_init RX8, .methodLinkNest RX4 11 yX0_init RX8, .methodLinkNest RX4 20 yX6_init RX8, .methodLinkNest RX8 21 yX5_init RX8, .methodLinkNest RX8 28 yX2_init RX8, .methodLinkNest RX2 11 yX0_init RX8, .methodLinkNest RX8 35 yX7_init RX8, .methodLinkNest RX7 11 yX0_init RX8, .methodLinkNest RX8 42 yX1_init RX8, .methodLinkNest RX8 49 yX3_init RX8]
def knest (U : State) : Prop := ∀ w ∈ mNI, va_Nw w U
theorem knest_warm {s U : State} (hW : s.WarmedH U.vm) (h : knest s) : knest U := by
  intro w hw
  have h1 := h w hw
  simp only [mNI, List.mem_cons, List.not_mem_nil, or_false] at hw
  rcases hw with rfl | rfl | rfl | rfl | rfl | rfl | rfl | rfl | rfl | rfl <;> exact va_Nw.warmM hW h1
theorem knest_same {u U : State} (hv : u.vm = U.vm) (h : knest u) : knest U := by
  intro w hw
  have h1 := h w hw
  simp only [mNI, List.mem_cons, List.not_mem_nil, or_false] at hw
  rcases hw with rfl | rfl | rfl | rfl | rfl | rfl | rfl | rfl | rfl | rfl <;> exact va_Nw.same rfl hv h1
theorem arr_K {args : Array Value} {s : State} {ty : FieldType} (hty : ty = .int ∨ ty = .boolean) (h : (Cond.arrayClass ty).before args s = true) : ∃ c : ClassId, ArrOfT s c ty ∧ va_RA s c ty := by
  obtain ⟨c, k, comp, h1, h2, h3⟩ := Cond.arrayClass_spec h
  refine ⟨c, fun n z => ⟨fun k h => (by cases h), k, h2, comp, h3⟩, ?_⟩
  rcases hty with rfl | rfl <;> exact h1
def kB (D : va_G) (cI cZ : ClassId) (A : Nat → Prop) (w : va_W) (t : State) : Prop := va_P D vwCl w t.heap ∧ va_K D vwCl (mtys cI cZ) t ∧ va_D A w
def kroom (M : MI) (mc ms : Nat) : Room := { frames := m_f M, cells := mc, slots := ms, locals := m_l M }
def kpre (D : va_G) (cI cZ : ClassId) (sz : Nat) (w : va_W) (U : State) : Prop := U.heap.size = sz ∧ (va_P D vwCl w U.heap ∧ va_K D vwCl (mtys cI cZ) U ∧ va_D (fun _ => True) w) ∧ knest U
/-- a constructor's contract -/
def KT (M : MI) (mc ms : Nat) (ci : Nat) (f0 : List Value) (Q : ClassId → ClassId → Nat → va_W → Prop) : Prop :=
  ∀ (l : Launch) (D : va_G) (cI cZ : ClassId) (h0 sz : Nat), Met l (m_y M) (wsM M) (kroom M mc ms) (va_Pc [.ref h0] (kpre D cI cZ sz [(h0, .inr (ci, f0))])) (va_Qv (Q cI cZ h0) (kB D cI cZ (va_A [(h0, .inr (ci, f0))] sz)) (va_A [(h0, .inr (ci, f0))] sz)) mc ms (va_A [(h0, .inr (ci, f0))] sz)
def kcx (M : MI) (p : Program) (s : State) (m : MethodId) (args : Array Value) (meth : Method) (c : Code) (A : Nat → Prop) (D : va_G) (cI cZ : ClassId) : Prop :=
  p.tables.exec = Jvm.exec ∧ c.code = m_c M ∧ c.maxLocals = m_n M ∧ s.vm.findClass (m_y M).cls = some m.cls ∧ (∀ w ∈ TBL, w.before args s = true) ∧ meth.locks = false ∧ meth.sig.returnType = none ∧ va_K D vwCl (mtys cI cZ) s ∧ (∀ q, s.heap.size ≤ q → A q) ∧ knest s ∧ meth.name = "<init>"
/-- a point of a constructor -/
def KP (M : MI) (mc ms : Nat) (cI cZ : ClassId) (Q : va_W → Prop) (pc : Nat) (lv : List (Nat × Value)) (S : List Value) (k n : Nat) (ws : va_W) : Prop :=
  ∀ (p : Program) (l : Launch) (e : Env) (s : State) (m : MethodId) (args : Array Value) (below : List Frame) (meth : Method) (c : Code) (A : Nat → Prop) (D : va_G), kcx M p s m args meth c A D cI cZ → ∀ (H : Heap) (locs : List Loc) (ls : Array Slot), va_P D vwCl ws H → va_D A ws → va_S A s.heap H locs → lv_has ls (m_n M) lv →
    W p l e (kroom M mc ms) s m args below meth c H locs k n (MQ below (va_Qv Q (kB D cI cZ A) A) args s mc ms A) (F0 m pc ls S)
theorem KT.of {M : MI} {mc ms ci : Nat} {f0 : List Value} {Q : ClassId → ClassId → Nat → va_W → Prop} (hy : plainName (m_y M).cls = true) (hi : (m_y M).name = "<init>") (hr0 : m_r M = none) (hlen : 1 ≤ m_n M) (h : ∀ (cI cZ : ClassId) (h0 : Nat), KP M mc ms cI cZ (Q cI cZ h0) 0 [(0, .ref h0)] [] 0 0 [(h0, .inr (ci, f0))]) : KT M mc ms ci f0 Q := by
  intro l D cI cZ h0 sz
  refine Met.ofW (cc := m_c M) (maxL := m_n M) (ret := m_r M) hy rfl ?_
  intro p e s m args below meth c s₁ B hml hv
  obtain ⟨rfl, hsz, ⟨hP, hK, hD0⟩, hN⟩ := hv
  have hx := B.exec
  have hb := B.bytes
  have hr := B.returns
  have hts := atoms_spec (ws := wsM M) B.pre
  have hown : s.vm.findClass (m_y M).cls = some m.cls := findClass_of_methodNamed B.named
  have hlocks := B.notSynchronized
  have hin : meth.name = "<init>" := (name_of_methodNamed B.named B.method).1.trans hi
  subst hsz
  have hD := hD0.self (sz := s.heap.size)
  have hl := lv_entry ([.ref h0]) (n := m_n M) hlen
  rw [lg_entry_eq]
  exact h cI cZ h0 p l e s m _ below meth c _ D ⟨hx, hb, hml, hown, fun w hw => hts w (List.mem_cons_of_mem _ hw), hlocks, hr.trans hr0, hK, fun q hq => Or.inr hq, hN, hin⟩ s.heap [] _ hP hD va_S.rf hl
theorem KP.cw {M : MI} {mc ms : Nat} {cI cZ : ClassId} {Q : va_W → Prop} {pc : Nat} {lv : List (Nat × Value)} {S : List Value} {k n : Nat} {ws : va_W} (ws' : va_W) (h : ws = ws') (kk : KP M mc ms cI cZ Q pc lv S k n ws') : KP M mc ms cI cZ Q pc lv S k n ws := by subst h; exact kk
theorem KP.aload0 {M : MI} {mc ms : Nat} {cI cZ : ClassId} {Q : va_W → Prop} {pc : Nat} {lv : List (Nat × Value)} {S : List Value} {k n : Nat} {ws : va_W} {a : Nat} (d : decode (m_c M) pc = .ok (.aload_n 0, 1)) (h : (0, Value.ref a) ∈ lv) (kk : KP M mc ms cI cZ Q (pc + 1) lv (.ref a :: S) k n ws) : KP M mc ms cI cZ Q pc lv S k n ws := by
  intro p l e s m args below meth c A D C H locs ls hP hD hS hl
  obtain ⟨hx, hb, hml, hown, hts, hlocks, hr, hK, hA, hN, hin⟩ := id C
  exact lv_aload_n hx hb d rfl (hl.2.2 _ h) (kk p l e s m args below meth c A D C H locs ls hP hD hS hl)
theorem KP.iconst {M : MI} {mc ms : Nat} {cI cZ : ClassId} {Q : va_W → Prop} {pc : Nat} {lv : List (Nat × Value)} {S : List Value} {k n : Nat} {ws : va_W} {x : Int} (d : decode (m_c M) pc = .ok (.iconst x, 1)) (kk : KP M mc ms cI cZ Q (pc + 1) lv (.int (Int32.ofInt x) :: S) k n ws) : KP M mc ms cI cZ Q pc lv S k n ws := by
  intro p l e s m args below meth c A D C H locs ls hP hD hS hl
  obtain ⟨hx, hb, hml, hown, hts, hlocks, hr, hK, hA, hN, hin⟩ := id C
  exact lv_iconst hx hb d rfl (kk p l e s m args below meth c A D C H locs ls hP hD hS hl)
theorem KP.bipush {M : MI} {mc ms : Nat} {cI cZ : ClassId} {Q : va_W → Prop} {pc : Nat} {lv : List (Nat × Value)} {S : List Value} {k n : Nat} {ws : va_W} {x : Int} (d : decode (m_c M) pc = .ok (.bipush x, 2)) (hv : (Int8.ofInt x).toInt32 = Int32.ofInt x) (kk : KP M mc ms cI cZ Q (pc + 2) lv (.int (Int32.ofInt x) :: S) k n ws) : KP M mc ms cI cZ Q pc lv S k n ws := by
  intro p l e s m args below meth c A D C H locs ls hP hD hS hl
  obtain ⟨hx, hb, hml, hown, hts, hlocks, hr, hK, hA, hN, hin⟩ := id C
  exact lv_bipush hx hb d hv (kk p l e s m args below meth c A D C H locs ls hP hD hS hl)
theorem KP.sipush {M : MI} {mc ms : Nat} {cI cZ : ClassId} {Q : va_W → Prop} {pc : Nat} {lv : List (Nat × Value)} {S : List Value} {k n : Nat} {ws : va_W} {x : Int} (d : decode (m_c M) pc = .ok (.sipush x, 3)) (hv : (Int16.ofInt x).toInt32 = Int32.ofInt x) (kk : KP M mc ms cI cZ Q (pc + 3) lv (.int (Int32.ofInt x) :: S) k n ws) : KP M mc ms cI cZ Q pc lv S k n ws := by
  intro p l e s m args below meth c A D C H locs ls hP hD hS hl
  obtain ⟨hx, hb, hml, hown, hts, hlocks, hr, hK, hA, hN, hin⟩ := id C
  exact lv_sipush hx hb d hv (kk p l e s m args below meth c A D C H locs ls hP hD hS hl)
theorem KP.dup {M : MI} {mc ms : Nat} {cI cZ : ClassId} {Q : va_W → Prop} {pc : Nat} {lv : List (Nat × Value)} {S : List Value} {k n : Nat} {ws : va_W} {a : Nat} (d : decode (m_c M) pc = .ok (.dup, 1)) (kk : KP M mc ms cI cZ Q (pc + 1) lv (.ref a :: .ref a :: S) k n ws) : KP M mc ms cI cZ Q pc lv (.ref a :: S) k n ws := by
  intro p l e s m args below meth c A D C H locs ls hP hD hS hl
  obtain ⟨hx, hb, hml, hown, hts, hlocks, hr, hK, hA, hN, hin⟩ := id C
  exact lv_dup hx hb d rfl (kk p l e s m args below meth c A D C H locs ls hP hD hS hl)
def kobj (own : String) (idx : Nat) : Prop := Cond.methodLink own idx objectInit ∈ TBL ∧ Cond.instanceMethod objectInit ∈ TBL ∧ Cond.code objectInit ⟨#[0xb1]⟩ 1 none ∈ TBL
theorem KP.super {M : MI} {mc ms : Nat} {cI cZ : ClassId} {Q : va_W → Prop} {pc : Nat} {lv : List (Nat × Value)} {k n : Nat} {ws : va_W} {a idx : Nat} (f : kobj (m_y M).cls idx) (d : decode (m_c M) pc = .ok (.invokespecial idx, 3)) (hR : 1 ≤ m_f M ∧ 12 ≤ m_l M) (kk : KP M mc ms cI cZ Q (pc + 3) lv [] k n ws) : KP M mc ms cI cZ Q pc lv [.ref a] k n ws := by
  intro p l e s m args below meth c A D C H locs ls hP hD hS hl
  obtain ⟨hx, hb, hml, hown, hts, hlocks, hr, hK, hA, hN, hin⟩ := id C
  refine W.objInit hx hb hown (hts _ f.1) (hts _ f.2.1) (hts _ f.2.2) rfl (by rw [hml]; exact hl.1) rfl d hR.1 hR.2 ?_
  exact W.eq (g2 := F0 m (pc + 3) ls []) rfl (kk p l e s m args below meth c A D C H locs ls hP hD hS hl)
theorem KP.newI {M : MI} {mc ms : Nat} {cI cZ : ClassId} {Q : va_W → Prop} {pc : Nat} {lv : List (Nat × Value)} {S : List Value} {k n : Nat} {ws : va_W} {v : Int32} (N : Nat) (d : decode (m_c M) pc = .ok (.newarray .int, 2)) (hneg : ¬ v < 0) (hv : v.toNatClampNeg = N) (hb4 : N * 4 ≤ 536870912) (hc : k + 1 ≤ mc) (hs : n + N ≤ ms) (f : Cond.arrayClass .int ∈ TBL) (kk : ∀ q, KP M mc ms cI cZ Q (pc + 2) lv (.ref q :: S) (k + 1) (n + N) (ws ++ [(q, .inl (cI, N, .inl (fun _ => Int32.ofInt 0)))])) : KP M mc ms cI cZ Q pc lv (.int v :: S) k n ws := by
  intro p l e s m args below meth c A D C H locs ls hP hD hS hl
  obtain ⟨hx, hb, hml, hown, hts, hlocks, hr, hK, hA, hN, hin⟩ := id C
  refine va_newa (atype := .int) (ty := .int) (a0 := (N, .inl (fun _ => Int32.ofInt 0))) hx hb (hts _ f) rfl hK hP hD hS hA (fun _ => rfl) hneg hv hb4 hc hs d (fun q cA H1 hK1 hP1 hD1 hS1 => ?_)
  have h1 : s.vm.findClass ("[" ++ (FieldType.int).toString) = some cA := (hK1.2 2 (cA, .int) rfl).2
  have h2 : s.vm.findClass ("[" ++ (FieldType.int).toString) = some cI := (hK.2 0 (cI, .int) rfl).2
  obtain rfl : cA = cI := Option.some.inj (h1.symm.trans h2)
  exact kk q p l e s m args below meth c A D C H1 locs ls hP1 hD1 hS1 hl
theorem KP.newZ {M : MI} {mc ms : Nat} {cI cZ : ClassId} {Q : va_W → Prop} {pc : Nat} {lv : List (Nat × Value)} {S : List Value} {k n : Nat} {ws : va_W} {v : Int32} (N : Nat) (d : decode (m_c M) pc = .ok (.newarray .boolean, 2)) (hneg : ¬ v < 0) (hv : v.toNatClampNeg = N) (hb4 : N * 1 ≤ 536870912) (hc : k + 1 ≤ mc) (hs : n + N ≤ ms) (f : Cond.arrayClass .boolean ∈ TBL) (kk : ∀ q, KP M mc ms cI cZ Q (pc + 2) lv (.ref q :: S) (k + 1) (n + N) (ws ++ [(q, .inl (cZ, N, .inl (fun _ => Int32.ofInt 0)))])) : KP M mc ms cI cZ Q pc lv (.int v :: S) k n ws := by
  intro p l e s m args below meth c A D C H locs ls hP hD hS hl
  obtain ⟨hx, hb, hml, hown, hts, hlocks, hr, hK, hA, hN, hin⟩ := id C
  refine va_newa (atype := .boolean) (ty := .boolean) (a0 := (N, .inl (fun _ => Int32.ofInt 0))) hx hb (hts _ f) rfl hK hP hD hS hA (fun _ => rfl) hneg hv hb4 hc hs d (fun q cA H1 hK1 hP1 hD1 hS1 => ?_)
  have h1 : s.vm.findClass ("[" ++ (FieldType.boolean).toString) = some cA := (hK1.2 2 (cA, .boolean) rfl).2
  have h2 : s.vm.findClass ("[" ++ (FieldType.boolean).toString) = some cZ := (hK.2 1 (cZ, .boolean) rfl).2
  obtain rfl : cA = cZ := Option.some.inj (h1.symm.trans h2)
  exact kk q p l e s m args below meth c A D C H1 locs ls hP1 hD1 hS1 hl
def kcl (own : String) (idx ci : Nat) (f0 : List Value) : Prop := ∃ (C : String) (T : u_T) (ty : Nat → FieldType), vwCl[ci]? = some (C, T, f0.length) ∧ (∀ w ∈ u_ws C T f0.length, w ∈ TBL) ∧ (∀ k, k < f0.length → parseFieldDescriptor (T k).2.2.1 = some (ty k)) ∧ Cond.classLink own idx C ∈ TBL ∧ Cond.instantiable C f0.length ∈ TBL ∧ Cond.initialized C ∈ TBL ∧ ∀ j, j < f0.length → defaultValue (ty j) = vp_V f0 j
theorem KP.new {M : MI} {mc ms : Nat} {cI cZ : ClassId} {Q : va_W → Prop} {pc : Nat} {lv : List (Nat × Value)} {S : List Value} {k n : Nat} {ws : va_W} {idx : Nat} (ci : Nat) (f0 : List Value) (f : kcl (m_y M).cls idx ci f0) (d : decode (m_c M) pc = .ok (.new idx, 3)) (hc : k + 1 ≤ mc) (hs : n + f0.length ≤ ms) (kk : ∀ q, KP M mc ms cI cZ Q (pc + 3) lv (.ref q :: S) (k + 1) (n + f0.length) (ws ++ [(q, .inr (ci, f0))])) : KP M mc ms cI cZ Q pc lv S k n ws := by
  intro p l e s m args below meth c A D C H locs ls hP hD hS hl
  obtain ⟨hx, hb, hml, hown, hts, hlocks, hr, hK, hA, hN, hin⟩ := id C
  obtain ⟨Cn, T, ty, f1, f2, f3, f4, f5, f6, f7⟩ := f
  exact va_new hx hb hts f2 ty f3 hown (hts _ f4) (hts _ f5) (hts _ f6) hK hP hD hS hA f1 f7 hc hs d (fun q H1 hP1 hD1 hS1 => kk q p l e s m args below meth c A D C H1 locs ls hP1 hD1 hS1 hl)
theorem nd_range (n : Nat) : va_nd (List.range n) = true := by
  have key : ∀ (m k : Nat), va_nd (List.range' k m) = true := by
    intro m
    induction m with
    | zero => intro k; rfl
    | succ m ih =>
      intro k
      simp only [List.range'_succ, va_nd, Bool.and_eq_true, decide_eq_true_eq]
      exact ⟨fun h => by have := List.mem_range'_1.mp h; omega, ih (k + 1)⟩
  rw [List.range_eq_range']
  exact key n 0
theorem map_range (w r : va_W) : (List.range w.length).map (fun i => (w ++ r)[i]?) = w.map some := by
  apply List.ext_getElem?
  intro i
  by_cases h : i < w.length
  · have e : (w ++ r)[i]? = w[i]? := List.getElem?_append_left h
    simp [h, e]
  · simp [h]
theorem map_last (w : va_W) (x : Nat × va_E) : [w.length].map (fun i => (w ++ [x])[i]?) = [x].map some := by simp
def kini (M' : MI) : Prop := Cond.code (m_y M') (m_c M') (m_n M') none ∈ TBL ∧ Cond.initialized (m_y M').cls ∈ TBL ∧ Cond.instanceMethod (m_y M') ∈ TBL ∧ mdesc M' 0 ∧ (m_y M').name = "<init>" ∧ m_r M' = none
theorem kblind (D : va_G) (cI cZ : ClassId) (av : List Value) (sz : Nat) (w : va_W) : FrameBlind (va_Pc av (kpre D cI cZ sz w)) := by
  intro a U g mk q
  obtain ⟨q1, q2, ⟨q3, q4, q5⟩, q6⟩ := q
  exact ⟨q1, q2, ⟨q3, va_K.moved (u := U) (U := U.calling g mk a) (Vm.Alike.refl U.vm) q4, q5⟩, knest_same (u := U) (U := U.calling g mk a) rfl q6⟩
theorem KP.init {M : MI} {mc ms : Nat} {cI cZ : ClassId} {Q : va_W → Prop} {pc : Nat} {lv : List (Nat × Value)} {S : List Value} {k n : Nat} {w0 : va_W} {a idx ci : Nat} {f0 : List Value} {host : String} (M' : MI) (mc' ms' : Nat) {Q' : ClassId → ClassId → Nat → va_W → Prop} (hT : KT M' mc' ms' ci f0 Q') (f : kini M') (d : decode (m_c M) pc = .ok (.invokespecial idx, 3)) (hl0 : Cond.methodLinkNest (m_y M).cls idx (m_y M') host ∈ mNI) (hR : mfit M M') (hW : (S.map fun v => v.category).sum ≤ 8) (hc : k + mc' ≤ mc) (hs : n + ms' ≤ ms) (kk : ∀ w1, Q' cI cZ a w1 → KP M mc ms cI cZ Q (pc + 3) lv S (k + mc') (n + ms') (w0 ++ w1)) : KP M mc ms cI cZ Q pc lv (.ref a :: S) k n (w0 ++ [(a, .inr (ci, f0))]) := by
  intro p l e s m args below meth c A D C H locs ls hP hD hS hl
  obtain ⟨hx, hb, hml, hown, hts, hlocks, hr, hK, hA, hN, hin⟩ := id C
  obtain ⟨c1, c2, c3, c4, c5, c6⟩ := f
  have hPc := hP.sub (ws' := [(a, .inr (ci, f0))]) [w0.length] (by simp)
  have hDc := hD.sub (ws' := [(a, .inr (ci, f0))]) [w0.length] rfl (map_last _ _)
  have hFc := va_free (wc := [(a, .inr (ci, f0))]) hD hS hA [w0.length] (map_last _ _)
  have hG : GoodIn TBL (wsM M') := fun w hw => (List.mem_cons.mp hw).elim (fun z => by rw [z, c6]; exact tb_good _ c1) (fun z => tb_good w z)
  refine va_callv (va_runIN (As := []) (rest := S) ⟨hx, hb, hml, hown, hts⟩ (hT l D cI cZ a H.size) ⟨va_cnB 0 hts hG (by rw [show wsM M' = Cond.code (m_y M') (m_c M') (m_n M') (m_r M') :: TBL from rfl, c6]) rfl rfl (hN _ hl0) (hts _ c2) c4 hR, c5, hts _ c3⟩ ⟨kblind D cI cZ [.ref a] H.size _, fun U hU hW2 => ⟨rfl, by rw [hU], ⟨by rw [hU]; exact hPc, va_K.moved hW2.alike hK, hDc.weaken (fun _ _ _ _ => trivial)⟩, knest_warm hW2 hN⟩⟩ rfl rfl hl.1 rfl (lv_room hW) d ⟨hc, hs⟩) hS (fun q _ h => hFc q h) hFc (fun w1 t H1 locs1 ht hvm hw hB hz1 hk1 hS1 => ?_)
  obtain ⟨hP1, hK1, hD1⟩ := hB
  rw [ht] at hP1
  obtain ⟨hP2, hD2⟩ := va_join (wr := w0) (w1 := w1) hP hD [w0.length] (List.range w0.length) (map_last _ _) (map_range _ _) (nd_range _) (fun i hi hj => by
    have h1 := List.mem_range.mp hi
    have h2 := List.mem_singleton.mp hj
    omega) hk1 hFc hP1 hD1
  exact kk w1 hw p l e s m args below meth c A D C H1 locs1 ls hP2 hD2 hS1 hl
def kpf (own : String) (idx ci j : Nat) (ty : FieldType) : Prop := ∃ (C : String) (T : u_T) (N : Nat) (tt : Nat → FieldType), vwCl[ci]? = some (C, T, N) ∧ j < N ∧ (∀ w ∈ u_ws C T N, w ∈ TBL) ∧ Cond.fieldLink own idx C (T j).2.1 (T j).2.2.1 ∈ TBL ∧ (T j).1 = C ∧ (∀ k, k < N → parseFieldDescriptor (T k).2.2.1 = some (tt k)) ∧ (∀ a, a < N → ∀ b, b < N → a ≠ b → (T a).2.1 ≠ (T b).2.1) ∧ (T j).2.2.2 = true ∧ (T j).1 = own ∧ parseFieldDescriptor (T j).2.2.1 = some ty
theorem KP.putF {M : MI} {mc ms : Nat} {cI cZ : ClassId} {Q : va_W → Prop} {pc : Nat} {lv : List (Nat × Value)} {S : List Value} {k n : Nat} {ws : va_W} {a q idx ci j : Nat} {fs : List Value} {ty : FieldType} (f : kpf (m_y M).cls idx ci j ty) (d : decode (m_c M) pc = .ok (.putfield idx, 3)) (he : ws[0]? = some (a, .inr (ci, fs))) (hn : narrow ty (.ref q) = .ref q) (hf : fits ty (.ref q) = true) (hj : j < fs.length) (kk : KP M mc ms cI cZ Q (pc + 3) lv S k n (ws.set 0 (a, .inr (ci, fs.set j (.ref q))))) : KP M mc ms cI cZ Q pc lv (.ref q :: .ref a :: S) k n ws := by
  intro p l e s m args below meth c A D C H locs ls hP hD hS hl
  obtain ⟨hx, hb, hml, hown, hts, hlocks, hr, hK, hA, hN, hin⟩ := id C
  obtain ⟨Cn, T, N, tt, f1, f2, f3, f4, f5, f6, f7, f8, f9, f10⟩ := f
  exact va_putF hx hb hts f3 tt f6 f7 hown hK hP hD hS 0 he f1 j f2 (hts _ f4) (fun x h => by rw [f5] at h; exact h) f8 hin f9 f10 hn hf hj d (fun H1 locs1 hP1 hD1 hS1 => kk p l e s m args below meth c A D C H1 locs1 ls hP1 hD1 hS1 hl)
theorem KP.putI {M : MI} {mc ms : Nat} {cI cZ : ClassId} {Q : va_W → Prop} {pc : Nat} {lv : List (Nat × Value)} {S : List Value} {k n : Nat} {ws : va_W} {a idx ci j : Nat} {x : Int32} {fs : List Value} (f : mfp (m_y M).cls idx ci j .int) (d : decode (m_c M) pc = .ok (.putfield idx, 3)) (he : ws[0]? = some (a, .inr (ci, fs))) (hj : j < fs.length) (kk : KP M mc ms cI cZ Q (pc + 3) lv S k n (ws.set 0 (a, .inr (ci, fs.set j (.int x))))) : KP M mc ms cI cZ Q pc lv (.int x :: .ref a :: S) k n ws := by
  intro p l e s m args below meth c A D C H locs ls hP hD hS hl
  obtain ⟨hx, hb, hml, hown, hts, hlocks, hr, hK, hA, hN, hin⟩ := id C
  obtain ⟨Cn, T, N, tt, f1, f2, f3, f4, f5, f6, f7, f8, f9⟩ := f
  exact va_put hx hb hts f3 tt f6 f7 hown hK hP hD hS 0 he f1 j f2 (hts _ f4) (fun x h => by rw [f5] at h; exact h) f8 f9 rfl rfl hj d (fun H1 locs1 hP1 hD1 hS1 => kk p l e s m args below meth c A D C H1 locs1 ls hP1 hD1 hS1 hl)
theorem KP.vret {M : MI} {mc ms : Nat} {cI cZ : ClassId} {Q : va_W → Prop} {pc : Nat} {lv : List (Nat × Value)} {k n : Nat} {ws : va_W} (d : decode (m_c M) pc = .ok (.return_, 1)) (hc : k ≤ mc) (hs : n ≤ ms) (is : List Nat) (w' : va_W) (hn : va_nd is = true) (hw : is.map (fun i => ws[i]?) = w'.map some) (h : Q w') : KP M mc ms cI cZ Q pc lv [] k n ws := by
  intro p l e s m args below meth c A D C H locs ls hP hD hS hl
  obtain ⟨hx, hb, hml, hown, hts, hlocks, hr, hK, hA, hN, hin⟩ := id C
  have hw2 : is.filterMap (fun i => ws[i]?) = w' := by
    have h1 : ∀ (is : List Nat) (w' : va_W), is.map (fun i => ws[i]?) = w'.map some → is.filterMap (fun i => ws[i]?) = w' := by
      intro is
      induction is with
      | nil => intro w' h; cases w' with
        | nil => rfl
        | cons x r => simp at h
      | cons i is ih =>
        intro w' h
        cases w' with
        | nil => simp at h
        | cons x r =>
          simp only [List.map_cons, List.cons.injEq] at h
          rw [List.filterMap_cons, h.1]
          simp only [ih r h.2]
    exact h1 is w' hw
  have hP9 := hP.sub is hw2
  have hD9 := hD.sub is hn hw
  refine W.widen (k := mc) (n := ms) hc hs ?_
  exact W.vret hx hb hr (fun t ht hW => ⟨⟨w', rfl, h, by rw [ht]; exact hP9, va_K.moved hW.alike hK, hD9⟩, hS.F ht⟩) hS.2.2 d hlocks
