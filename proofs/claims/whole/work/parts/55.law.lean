/-! THE LAW: rows over its own frame -/
def LWP (b L : Nat) (xs : Nat → Int32) (D : va_G) (cI cZ : ClassId) (pc : Nat) (lv : List (Nat × Value)) (S : List Value) (k n : Nat) (ws : va_W) : Prop :=
  ∀ (p : Program) (l : Launch) (e : Env) (s : State) (m : MethodId) (below : List Frame) (meth : Method) (c : Code), lw_At p s m meth c b L xs → va_K D vwCl (mtys cI cZ) s → ∀ (H : Heap) (locs : List Loc) (ls : Array Slot), va_P D vwCl ws H → va_D (fun q : Nat => s.heap.size ≤ q) ws → va_S (fun q : Nat => s.heap.size ≤ q) s.heap H locs → lv_has ls 4 lv →
    W p l e room_1 s m #[Value.ref b] below meth c H locs k n (lw_Z below #[Value.ref b] s) (F0 m pc ls S)
theorem lw_knest {p : Program} {s : State} {m : MethodId} {meth : Method} {c : Code} {b L : Nat} {xs : Nat → Int32} (C0 : lw_At p s m meth c b L xs) : knest s := by
  obtain ⟨hx, hb, hr, hml, hown, hts, hX, hbl, hlocks, hgv⟩ := id C0
  intro w hw
  simp only [mNI, List.mem_cons, List.not_mem_nil, or_false] at hw
  rcases hw with rfl | rfl | rfl | rfl | rfl | rfl | rfl | rfl | rfl | rfl
  · exact va_Nw.of rfl (hts _ (List.mem_of_getElem? (i := 60) (by decide +kernel)))
  · exact va_Nw.of rfl (hts _ (List.mem_of_getElem? (i := 66) (by decide +kernel)))
  · exact va_Nw.of rfl (hts _ (List.mem_of_getElem? (i := 99) (by decide +kernel)))
  · exact va_Nw.of rfl (hts _ (List.mem_of_getElem? (i := 155) (by decide +kernel)))
  · exact va_Nw.of rfl (hts _ (List.mem_of_getElem? (i := 173) (by decide +kernel)))
  · exact va_Nw.of rfl (hts _ (List.mem_of_getElem? (i := 178) (by decide +kernel)))
  · exact va_Nw.of rfl (hts _ (List.mem_of_getElem? (i := 195) (by decide +kernel)))
  · exact va_Nw.of rfl (hts _ (List.mem_of_getElem? (i := 200) (by decide +kernel)))
  · exact va_Nw.of rfl (hts _ (List.mem_of_getElem? (i := 223) (by decide +kernel)))
  · exact va_Nw.of rfl (hts _ (List.mem_of_getElem? (i := 242) (by decide +kernel)))
theorem lw_mnest {p : Program} {s : State} {m : MethodId} {meth : Method} {c : Code} {b L : Nat} {xs : Nat → Int32} (C0 : lw_At p s m meth c b L xs) : mnest s := by
  obtain ⟨hx, hb, hr, hml, hown, hts, hX, hbl, hlocks, hgv⟩ := id C0
  intro w hw
  simp only [mNW, List.mem_cons, List.not_mem_nil, or_false] at hw
  rcases hw with rfl | rfl | rfl | rfl | rfl
  · exact va_Nw.of rfl (hts _ (List.mem_of_getElem? (i := 346) (by decide +kernel)))
  · exact va_Nw.of rfl (hts _ (List.mem_of_getElem? (i := 679) (by decide +kernel)))
  · exact va_Nw.of rfl (hts _ (List.mem_of_getElem? (i := 680) (by decide +kernel)))
  · exact va_Nw.of rfl (hts _ (List.mem_of_getElem? (i := 398) (by decide +kernel)))
  · exact va_Nw.of rfl (hts _ (List.mem_of_getElem? (i := 333) (by decide +kernel)))
section LAW
variable {b L : Nat} {xs : Nat → Int32} {D : va_G} {cI cZ : ClassId} {pc : Nat} {lv lv' : List (Nat × Value)} {S : List Value} {k n : Nat} {ws : va_W}
theorem LWP.wide (hk : k ≤ 73) (hn : n ≤ 2430) (kk : LWP b L xs D cI cZ pc lv S 73 2430 ws) : LWP b L xs D cI cZ pc lv S k n ws := by
  intro p l e s m below meth c C hK H locs ls hP hD hS hl
  exact W.widen hk hn (kk p l e s m below meth c C hK H locs ls hP hD hS hl)
theorem LWP.lvs (lv' : List (Nat × Value)) (h : ∀ q ∈ lv', q ∈ lv) (kk : LWP b L xs D cI cZ pc lv' S k n ws) : LWP b L xs D cI cZ pc lv S k n ws := by
  intro p l e s m below meth c C hK H locs ls hP hD hS hl
  exact kk p l e s m below meth c C hK H locs ls hP hD hS ⟨hl.1, hl.2.1, fun q hq => hl.2.2 q (h q hq)⟩
theorem LWP.aload_n {j : Fin 4} {i a : Nat} (d : decode code pc = .ok (.aload_n j, 1)) (hj : (j : Nat) = i) (h : (i, Value.ref a) ∈ lv) (kk : LWP b L xs D cI cZ (pc + 1) lv (.ref a :: S) k n ws) : LWP b L xs D cI cZ pc lv S k n ws := by
  intro p l e s m below meth c C hK H locs ls hP hD hS hl
  obtain ⟨hx, hb, hr, hml, hown, hts, hX, hbl, hlocks, hgv⟩ := id C
  exact lv_aload_n hx hb d hj (hl.2.2 _ h) (kk p l e s m below meth c C hK H locs ls hP hD hS hl)
theorem LWP.iload_n {j : Fin 4} {i : Nat} {x : Int32} (d : decode code pc = .ok (.iload_n j, 1)) (hj : (j : Nat) = i) (h : (i, Value.int x) ∈ lv) (kk : LWP b L xs D cI cZ (pc + 1) lv (.int x :: S) k n ws) : LWP b L xs D cI cZ pc lv S k n ws := by
  intro p l e s m below meth c C hK H locs ls hP hD hS hl
  obtain ⟨hx, hb, hr, hml, hown, hts, hX, hbl, hlocks, hgv⟩ := id C
  exact lv_iload_n hx hb d hj (hl.2.2 _ h) (kk p l e s m below meth c C hK H locs ls hP hD hS hl)
theorem LWP.iconst {x : Int} (d : decode code pc = .ok (.iconst x, 1)) (kk : LWP b L xs D cI cZ (pc + 1) lv (.int (Int32.ofInt x) :: S) k n ws) : LWP b L xs D cI cZ pc lv S k n ws := by
  intro p l e s m below meth c C hK H locs ls hP hD hS hl
  obtain ⟨hx, hb, hr, hml, hown, hts, hX, hbl, hlocks, hgv⟩ := id C
  exact lv_iconst hx hb d rfl (kk p l e s m below meth c C hK H locs ls hP hD hS hl)
theorem LWP.bipush {x : Int} (d : decode code pc = .ok (.bipush x, 2)) (hv : (Int8.ofInt x).toInt32 = Int32.ofInt x) (kk : LWP b L xs D cI cZ (pc + 2) lv (.int (Int32.ofInt x) :: S) k n ws) : LWP b L xs D cI cZ pc lv S k n ws := by
  intro p l e s m below meth c C hK H locs ls hP hD hS hl
  obtain ⟨hx, hb, hr, hml, hown, hts, hX, hbl, hlocks, hgv⟩ := id C
  exact lv_bipush hx hb d hv (kk p l e s m below meth c C hK H locs ls hP hD hS hl)
theorem LWP.dup {a : Nat} (d : decode code pc = .ok (.dup, 1)) (kk : LWP b L xs D cI cZ (pc + 1) lv (.ref a :: .ref a :: S) k n ws) : LWP b L xs D cI cZ pc lv (.ref a :: S) k n ws := by
  intro p l e s m below meth c C hK H locs ls hP hD hS hl
  obtain ⟨hx, hb, hr, hml, hown, hts, hX, hbl, hlocks, hgv⟩ := id C
  exact lv_dup hx hb d rfl (kk p l e s m below meth c C hK H locs ls hP hD hS hl)
theorem LWP.isub {x y : Int} (d : decode code pc = .ok (.isub, 1)) (kk : LWP b L xs D cI cZ (pc + 1) lv (.int (Int32.ofInt (x - y)) :: S) k n ws) : LWP b L xs D cI cZ pc lv (.int (Int32.ofInt y) :: .int (Int32.ofInt x) :: S) k n ws := by
  intro p l e s m below meth c C hK H locs ls hP hD hS hl
  obtain ⟨hx, hb, hr, hml, hown, hts, hX, hbl, hlocks, hgv⟩ := id C
  refine lv_isub hx hb d ?_
  rw [← Int32.ofInt_sub]
  exact kk p l e s m below meth c C hK H locs ls hP hD hS hl
theorem LWP.iand {x y : Int} (d : decode code pc = .ok (.iand, 1)) (kk : LWP b L xs D cI cZ (pc + 1) lv (.int (Int32.ofInt (jand x y)) :: S) k n ws) : LWP b L xs D cI cZ pc lv (.int (Int32.ofInt y) :: .int (Int32.ofInt x) :: S) k n ws := by
  intro p l e s m below meth c C hK H locs ls hP hD hS hl
  obtain ⟨hx, hb, hr, hml, hown, hts, hX, hbl, hlocks, hgv⟩ := id C
  refine lv_iand hx hb d ?_
  rw [← o_iand]
  exact kk p l e s m below meth c C hK H locs ls hP hD hS hl
theorem LWP.i2l {x : Int32} (d : decode code pc = .ok (.i2l, 1)) (kk : LWP b L xs D cI cZ (pc + 1) lv (.long x.toInt64 :: S) k n ws) : LWP b L xs D cI cZ pc lv (.int x :: S) k n ws := by
  intro p l e s m below meth c C hK H locs ls hP hD hS hl
  obtain ⟨hx, hb, hr, hml, hown, hts, hX, hbl, hlocks, hgv⟩ := id C
  exact lv_i2l hx hb d rfl (kk p l e s m below meth c C hK H locs ls hP hD hS hl)
theorem LWP.lshl {x : Int64} {y : Int32} (d : decode code pc = .ok (.lshl, 1)) (kk : LWP b L xs D cI cZ (pc + 1) lv (.long (x <<< (y.toInt64 &&& 63)) :: S) k n ws) : LWP b L xs D cI cZ pc lv (.int y :: .long x :: S) k n ws := by
  intro p l e s m below meth c C hK H locs ls hP hD hS hl
  obtain ⟨hx, hb, hr, hml, hown, hts, hX, hbl, hlocks, hgv⟩ := id C
  exact lv_lshl hx hb d rfl (kk p l e s m below meth c C hK H locs ls hP hD hS hl)
theorem LWP.land {x y : Int64} (d : decode code pc = .ok (.land, 1)) (kk : LWP b L xs D cI cZ (pc + 1) lv (.long (x &&& y) :: S) k n ws) : LWP b L xs D cI cZ pc lv (.long y :: .long x :: S) k n ws := by
  intro p l e s m below meth c C hK H locs ls hP hD hS hl
  obtain ⟨hx, hb, hr, hml, hown, hts, hX, hbl, hlocks, hgv⟩ := id C
  exact lv_land hx hb d (kk p l e s m below meth c C hK H locs ls hP hD hS hl)
theorem LWP.lor {x y : Int64} (d : decode code pc = .ok (.lor, 1)) (kk : LWP b L xs D cI cZ (pc + 1) lv (.long (Int64.ofInt (x ||| y).toInt) :: S) k n ws) : LWP b L xs D cI cZ pc lv (.long y :: .long x :: S) k n ws := by
  intro p l e s m below meth c C hK H locs ls hP hD hS hl
  obtain ⟨hx, hb, hr, hml, hown, hts, hX, hbl, hlocks, hgv⟩ := id C
  refine lv_lor hx hb d ?_
  rw [Int64.ofInt_toInt] at kk
  exact kk p l e s m below meth c C hK H locs ls hP hD hS hl
theorem LWP.ldc2 {i : Nat} {v : Int64} (d : decode code pc = .ok (.ldc2_w i, 3)) (hc : Cond.constantLong R_law i v ∈ TBL) (kk : LWP b L xs D cI cZ (pc + 3) lv (.long v :: S) k n ws) : LWP b L xs D cI cZ pc lv S k n ws := by
  intro p l e s m below meth c C hK H locs ls hP hD hS hl
  obtain ⟨hx, hb, hr, hml, hown, hts, hX, hbl, hlocks, hgv⟩ := id C
  exact lv_ldc2 hx hb hown (hts _ (tb_sub _ hc)) d (kk p l e s m below meth c C hK H locs ls hP hD hS hl)
theorem LWP.astore_n {j : Fin 4} {i a : Nat} (d : decode code pc = .ok (.astore_n j, 1)) (hj : (j : Nat) = i) (hn : i < 4) (hl2 : (i, Value.ref a) :: lv.filter (fun q => !(q.1 == i) && !(q.1 + 1 == i && q.2.category == 2)) = lv') (kk : LWP b L xs D cI cZ (pc + 1) lv' S k n ws) : LWP b L xs D cI cZ pc lv (.ref a :: S) k n ws := by
  intro p l e s m below meth c C hK H locs ls hP hD hS hl
  obtain ⟨hx, hb, hr, hml, hown, hts, hX, hbl, hlocks, hgv⟩ := id C
  exact lv_astore_n hx hb d hj hl hn hl2 (fun ls2 hl3 => kk p l e s m below meth c C hK H locs ls2 hP hD hS hl3)
theorem LWP.istore_n {j : Fin 4} {i : Nat} {x : Int32} (d : decode code pc = .ok (.istore_n j, 1)) (hj : (j : Nat) = i) (hn : i < 4) (hl2 : (i, Value.int x) :: lv.filter (fun q => !(q.1 == i) && !(q.1 + 1 == i && q.2.category == 2)) = lv') (kk : LWP b L xs D cI cZ (pc + 1) lv' S k n ws) : LWP b L xs D cI cZ pc lv (.int x :: S) k n ws := by
  intro p l e s m below meth c C hK H locs ls hP hD hS hl
  obtain ⟨hx, hb, hr, hml, hown, hts, hX, hbl, hlocks, hgv⟩ := id C
  exact lv_istore_n hx hb d hj hl hn hl2 (fun ls2 hl3 => kk p l e s m below meth c C hK H locs ls2 hP hD hS hl3)
theorem LWP.iinc {i k2 : Nat} {n2 : Int} {x v : Int32} (d : decode code pc = .ok (.iinc i n2, 3)) (hk2 : lv[k2]? = some (i, .int x)) (hv : x + Int32.ofInt n2 = v) (hn : i < 4) (hl2 : (i, Value.int v) :: lv.filter (fun q => !(q.1 == i) && !(q.1 + 1 == i && q.2.category == 2)) = lv') (kk : LWP b L xs D cI cZ (pc + 3) lv' S k n ws) : LWP b L xs D cI cZ pc lv S k n ws := by
  intro p l e s m below meth c C hK H locs ls hP hD hS hl
  obtain ⟨hx, hb, hr, hml, hown, hts, hX, hbl, hlocks, hgv⟩ := id C
  exact lv_iinc hx hb d hl hk2 hv hn hl2 (fun ls2 hl3 => kk p l e s m below meth c C hK H locs ls2 hP hD hS hl3)
theorem LWP.goto {off : Int} {tgt : Nat} (d : decode code pc = .ok (.goto off, 3)) (ht : (pc : Int) + off = (tgt : Int)) (kk : LWP b L xs D cI cZ tgt lv S k n ws) : LWP b L xs D cI cZ pc lv S k n ws := by
  intro p l e s m below meth c C hK H locs ls hP hD hS hl
  obtain ⟨hx, hb, hr, hml, hown, hts, hX, hbl, hlocks, hgv⟩ := id C
  exact lv_goto hx hb d ht (kk p l e s m below meth c C hK H locs ls hP hD hS hl)
theorem LWP.icmp_gt {x y : Int} {off : Int} {tgt : Nat} (d : decode code pc = .ok (.if_icmp .gt off, 3)) (ht : (pc : Int) + off = (tgt : Int)) (hx32 : R32 x) (hy32 : R32 y) (h1 : y < x → LWP b L xs D cI cZ tgt lv S k n ws) (h0 : ¬ y < x → LWP b L xs D cI cZ (pc + 3) lv S k n ws) : LWP b L xs D cI cZ pc lv (.int (Int32.ofInt y) :: .int (Int32.ofInt x) :: S) k n ws := by
  intro p l e s m below meth c C hK H locs ls hP hD hS hl
  obtain ⟨hx, hb, hr, hml, hown, hts, hX, hbl, hlocks, hgv⟩ := id C
  exact lv_icmp_gt hx hb d ht (fun z => h1 ((w_lt hy32 hx32).mp z) p l e s m below meth c C hK H locs ls hP hD hS hl) (fun z => h0 (fun q => z ((w_lt hy32 hx32).mpr q)) p l e s m below meth c C hK H locs ls hP hD hS hl)
theorem LWP.icmp_same {x : Int32} {off : Int} {tgt : Nat} (d : decode code pc = .ok (.if_icmp .eq off, 3)) (ht : (pc : Int) + off = (tgt : Int)) (kk : LWP b L xs D cI cZ tgt lv S k n ws) : LWP b L xs D cI cZ pc lv (.int x :: .int x :: S) k n ws := by
  intro p l e s m below meth c C hK H locs ls hP hD hS hl
  obtain ⟨hx, hb, hr, hml, hown, hts, hX, hbl, hlocks, hgv⟩ := id C
  exact lv_icmp_eq hx hb d ht (fun _ => kk p l e s m below meth c C hK H locs ls hP hD hS hl) (fun z => absurd rfl z)
theorem LWP.tabIn {dflt lo hi : Int} {offs : Array Int} {len : Nat} {x : Int} {off : Int} {tgt : Nat} (d : decode code pc = .ok (.tableswitch dflt lo hi offs, len)) (hx32 : R32 x) (h1 : lo ≤ x) (h2 : x ≤ hi) (ho : offs[(x - lo).toNat]? = some off) (ht : (pc : Int) + off = (tgt : Int)) (kk : LWP b L xs D cI cZ tgt lv S k n ws) : LWP b L xs D cI cZ pc lv (.int (Int32.ofInt x) :: S) k n ws := by
  intro p l e s m below meth c C hK H locs ls hP hD hS hl
  obtain ⟨hx, hb, hr, hml, hown, hts, hX, hbl, hlocks, hgv⟩ := id C
  exact lv_tableIn hx hb d (by rw [r32_lo hx32]; omega) (by rw [r32_lo hx32]; omega) (by rw [r32_lo hx32]; exact ho) ht (kk p l e s m below meth c C hK H locs ls hP hD hS hl)
theorem LWP.tabOut {dflt lo hi : Int} {offs : Array Int} {len : Nat} {x : Int} {tgt : Nat} (d : decode code pc = .ok (.tableswitch dflt lo hi offs, len)) (hx32 : R32 x) (h : x < lo ∨ hi < x) (ht : (pc : Int) + dflt = (tgt : Int)) (kk : LWP b L xs D cI cZ tgt lv S k n ws) : LWP b L xs D cI cZ pc lv (.int (Int32.ofInt x) :: S) k n ws := by
  intro p l e s m below meth c C hK H locs ls hP hD hS hl
  obtain ⟨hx, hb, hr, hml, hown, hts, hX, hbl, hlocks, hgv⟩ := id C
  exact lv_tableOut hx hb d (by rw [r32_lo hx32]; exact h) ht (kk p l e s m below meth c C hK H locs ls hP hD hS hl)
/-- the script's int at a place -/
def sx (xs : Nat → Int32) (i : Int) : Int := (xs i.toNat).toInt
theorem sx_ok (xs : Nat → Int32) (i : Int) : R32 (sx xs i) := r32_of _
theorem LWP.slen (d : decode code pc = .ok (.arraylength, 1)) (kk : LWP b L xs D cI cZ (pc + 1) lv (.int (Int32.ofInt (L : Int)) :: S) k n ws) : LWP b L xs D cI cZ pc lv (.ref b :: S) k n ws := by
  intro p l e s m below meth c C hK H locs ls hP hD hS hl
  obtain ⟨hx, hb, hr, hml, hown, hts, hX, hbl, hlocks, hgv⟩ := id C
  refine va_slen hx hb hX hbl (Nat.not_le.mpr hbl) hS d ?_
  have e3 : Int32.ofNat L = Int32.ofInt (L : Int) := Int32.ofInt_eq_ofNat.symm
  rw [e3]
  exact kk p l e s m below meth c C hK H locs ls hP hD hS hl
theorem LWP.sld {i : Int} (d : decode code pc = .ok (.iaload, 1)) (hi : 0 ≤ i ∧ i < L) (hL : L ≤ 3072) (kk : LWP b L xs D cI cZ (pc + 1) lv (.int (Int32.ofInt (sx xs i)) :: S) k n ws) : LWP b L xs D cI cZ pc lv (.int (Int32.ofInt i) :: .ref b :: S) k n ws := by
  intro p l e s m below meth c C hK H locs ls hP hD hS hl
  obtain ⟨hx, hb, hr, hml, hown, hts, hX, hbl, hlocks, hgv⟩ := id C
  have hi32 : R32 i := ⟨by omega, by omega⟩
  refine va_sld hx hb hX hbl (Nat.not_le.mpr hbl) hS (w_in hi32 hi.1 hi.2) d ?_
  have e3 := w_ix hi32 hi.1
  have e2 : (Int32.ofInt i).toNatClampNeg = i.toNat := by omega
  rw [e2]
  have k2 := kk p l e s m below meth c C hK H locs ls hP hD hS hl
  unfold sx at k2
  rw [Int32.ofInt_toInt] at k2
  exact k2
/-- script[i + j] -/
theorem LWP.arg {i j : Int} (hlv : (3, Value.int (Int32.ofInt i)) ∈ lv ∧ (0, Value.ref b) ∈ lv) (d1 : decode code pc = .ok (.aload_n 0, 1)) (d2 : decode code (pc + 1) = .ok (.iload_n 3, 1)) (d3 : decode code (pc + 2) = .ok (.iconst j, 1)) (d4 : decode code (pc + 3) = .ok (.iadd, 1)) (d5 : decode code (pc + 4) = .ok (.iaload, 1)) (hj : 0 ≤ j ∧ j < 6) (hi : 0 ≤ i ∧ i + 6 ≤ L) (hL : L ≤ 3072) (kk : LWP b L xs D cI cZ (pc + 5) lv (.int (Int32.ofInt (sx xs (i + j))) :: S) k n ws) : LWP b L xs D cI cZ pc lv S k n ws := by
  refine LWP.aload_n d1 rfl hlv.2 (LWP.iload_n d2 rfl hlv.1 (LWP.iconst d3 ?_))
  have k2 := LWP.sld (i := i + j) d5 (by omega) hL kk
  intro p l e s m below meth c C hK H locs ls hP hD hS hl
  obtain ⟨hx, hb, hr, hml, hown, hts, hX, hbl, hlocks, hgv⟩ := id C
  refine lv_iadd hx hb d4 ?_
  rw [← Int32.ofInt_add]
  exact k2 p l e s m below meth c C hK H locs ls hP hD hS hl
theorem LWP.ret (hk : k ≤ 73) (hn : n ≤ 2430) (d : decode code pc = .ok (.iconst 1, 1)) (d2 : decode code (pc + 1) = .ok (.ireturn, 1)) : LWP b L xs D cI cZ pc lv [] k n ws := by
  intro p l e s m below meth c C hK H locs ls hP hD hS hl
  obtain ⟨hx, hb, hr, hml, hown, hts, hX, hbl, hlocks, hgv⟩ := id C
  refine W.widen hk hn (va_forget hS.2.2 (lv_iconst hx hb d (v := 1) rfl ?_))
  exact lw_ret hx hb hr hlocks d2
end LAW
