theorem ok_cons {v : MV} {S : List MV} (h : mok v) (hS : ∀ w ∈ S, mok w) : ∀ w ∈ v :: S, mok w := fun w hw => (List.mem_cons.mp hw).elim (fun z => z ▸ h) (hS w)
theorem ok_tl {v : MV} {S : List MV} (h : ∀ w ∈ v :: S, mok w) : ∀ w ∈ S, mok w := fun w hw => h w (List.mem_cons_of_mem _ hw)
theorem ok_hd {v : MV} {S : List MV} (h : ∀ w ∈ v :: S, mok w) : mok v := h v List.mem_cons_self
theorem ok_at {L : List (Option MV)} (h : ∀ v, some v ∈ L → mok v) {i : Nat} {v : MV} (hi : L[i]? = some (some v)) : mok v := h v (List.mem_of_getElem? hi)
theorem ok_mst0 {L : List (Option MV)} (h : ∀ v, some v ∈ L → mok v) (i : Nat) : ∀ v, some v ∈ mst0 L i → mok v := by
  intro v hv
  obtain ⟨j, hj⟩ := List.getElem?_of_mem hv
  exact ok_at h (mst0_get hj).1
theorem ok_mst {L : List (Option MV)} (h : ∀ v, some v ∈ L → mok v) (i : Nat) {x : MV} (hx : mok x) : ∀ v, some v ∈ mst L i x → mok v := by
  intro v hv
  rcases List.mem_or_eq_of_mem_set hv with h1 | h1
  · exact ok_mst0 h i v h1
  · cases h1; exact hx
theorem ok_mst2 {L : List (Option MV)} (h : ∀ v, some v ∈ L → mok v) (i : Nat) {x : MV} (hx : mok x) : ∀ v, some v ∈ mst2 L i x → mok v := by
  intro v hv
  rcases List.mem_or_eq_of_mem_set hv with h1 | h1
  · exact ok_mst h i hx v h1
  · cases h1
theorem WP.iconst {G : MG} {M : MI} {pc : Nat} {L : List (Option MV)} {S : List MV} {σ : Mem} {Q : Int → Mem → Prop} {n : Int} (d : decode (m_c M) pc = .ok (.iconst n, 1)) (hn : R32 n) (k : WP G M (pc + 1) L (mi n :: S) σ Q) : WP G M pc L S σ Q := by
  intro hL hS hσ p l e s m args below meth c A D cI cZ ad C H locs ls hP hD hV hl
  obtain ⟨hx, hb, hml, hown, hts, hlocks, hr, hK, hA, hN⟩ := id C
  exact lv_iconst hx hb d rfl (k hL (ok_cons hn hS) hσ p l e s m args below meth c A D cI cZ ad C H locs ls hP hD hV hl)
theorem WP.bipush {G : MG} {M : MI} {pc : Nat} {L : List (Option MV)} {S : List MV} {σ : Mem} {Q : Int → Mem → Prop} {n : Int} (d : decode (m_c M) pc = .ok (.bipush n, 2)) (hn : R32 n) (hv : (Int8.ofInt n).toInt32 = Int32.ofInt n) (k : WP G M (pc + 2) L (mi n :: S) σ Q) : WP G M pc L S σ Q := by
  intro hL hS hσ p l e s m args below meth c A D cI cZ ad C H locs ls hP hD hV hl
  obtain ⟨hx, hb, hml, hown, hts, hlocks, hr, hK, hA, hN⟩ := id C
  exact lv_bipush hx hb d hv (k hL (ok_cons hn hS) hσ p l e s m args below meth c A D cI cZ ad C H locs ls hP hD hV hl)
theorem WP.sipush {G : MG} {M : MI} {pc : Nat} {L : List (Option MV)} {S : List MV} {σ : Mem} {Q : Int → Mem → Prop} {n : Int} (d : decode (m_c M) pc = .ok (.sipush n, 3)) (hn : R32 n) (hv : (Int16.ofInt n).toInt32 = Int32.ofInt n) (k : WP G M (pc + 3) L (mi n :: S) σ Q) : WP G M pc L S σ Q := by
  intro hL hS hσ p l e s m args below meth c A D cI cZ ad C H locs ls hP hD hV hl
  obtain ⟨hx, hb, hml, hown, hts, hlocks, hr, hK, hA, hN⟩ := id C
  exact lv_sipush hx hb d hv (k hL (ok_cons hn hS) hσ p l e s m args below meth c A D cI cZ ad C H locs ls hP hD hV hl)
theorem WP.lconst {G : MG} {M : MI} {pc : Nat} {L : List (Option MV)} {S : List MV} {σ : Mem} {Q : Int → Mem → Prop} {n : Fin 2} {x : Int} (d : decode (m_c M) pc = .ok (.lconst n, 1)) (hn : R64 x) (hv : Int64.ofNat (n : Nat) = Int64.ofInt x) (k : WP G M (pc + 1) L (ml x :: S) σ Q) : WP G M pc L S σ Q := by
  intro hL hS hσ p l e s m args below meth c A D cI cZ ad C H locs ls hP hD hV hl
  obtain ⟨hx, hb, hml, hown, hts, hlocks, hr, hK, hA, hN⟩ := id C
  exact lv_lconst hx hb d hv (k hL (ok_cons hn hS) hσ p l e s m args below meth c A D cI cZ ad C H locs ls hP hD hV hl)
theorem WP.ldc {G : MG} {M : MI} {pc : Nat} {L : List (Option MV)} {S : List MV} {σ : Mem} {Q : Int → Mem → Prop} {i : Nat} {v : Int32} {x : Int} (d : decode (m_c M) pc = .ok (.ldc i, 2)) (hc : Cond.constant (m_y M).cls i v ∈ TBL) (hn : R32 x) (hv : Int32.ofInt x = v) (k : WP G M (pc + 2) L (mi x :: S) σ Q) : WP G M pc L S σ Q := by
  intro hL hS hσ p l e s m args below meth c A D cI cZ ad C H locs ls hP hD hV hl
  obtain ⟨hx, hb, hml, hown, hts, hlocks, hr, hK, hA, hN⟩ := id C
  subst hv
  exact lv_ldc hx hb hown (hts _ hc) d (k hL (ok_cons hn hS) hσ p l e s m args below meth c A D cI cZ ad C H locs ls hP hD hV hl)
theorem WP.ldcw {G : MG} {M : MI} {pc : Nat} {L : List (Option MV)} {S : List MV} {σ : Mem} {Q : Int → Mem → Prop} {i : Nat} {v : Int32} {x : Int} (d : decode (m_c M) pc = .ok (.ldc_w i, 3)) (hc : Cond.constant (m_y M).cls i v ∈ TBL) (hn : R32 x) (hv : Int32.ofInt x = v) (k : WP G M (pc + 3) L (mi x :: S) σ Q) : WP G M pc L S σ Q := by
  intro hL hS hσ p l e s m args below meth c A D cI cZ ad C H locs ls hP hD hV hl
  obtain ⟨hx, hb, hml, hown, hts, hlocks, hr, hK, hA, hN⟩ := id C
  subst hv
  exact lv_ldcw hx hb hown (hts _ hc) d (k hL (ok_cons hn hS) hσ p l e s m args below meth c A D cI cZ ad C H locs ls hP hD hV hl)
theorem WP.ldc2 {G : MG} {M : MI} {pc : Nat} {L : List (Option MV)} {S : List MV} {σ : Mem} {Q : Int → Mem → Prop} {i : Nat} {v : Int64} {x : Int} (d : decode (m_c M) pc = .ok (.ldc2_w i, 3)) (hc : Cond.constantLong (m_y M).cls i v ∈ TBL) (hn : R64 x) (hv : Int64.ofInt x = v) (k : WP G M (pc + 3) L (ml x :: S) σ Q) : WP G M pc L S σ Q := by
  intro hL hS hσ p l e s m args below meth c A D cI cZ ad C H locs ls hP hD hV hl
  obtain ⟨hx, hb, hml, hown, hts, hlocks, hr, hK, hA, hN⟩ := id C
  subst hv
  exact lv_ldc2 hx hb hown (hts _ hc) d (k hL (ok_cons hn hS) hσ p l e s m args below meth c A D cI cZ ad C H locs ls hP hD hV hl)
theorem WP.iload {G : MG} {M : MI} {pc : Nat} {L : List (Option MV)} {S : List MV} {σ : Mem} {Q : Int → Mem → Prop} {i : Nat} {x : Int} (d : decode (m_c M) pc = .ok (.iload i, 2)) (h : L[i]? = some (some (mi x))) (k : WP G M (pc + 2) L (mi x :: S) σ Q) : WP G M pc L S σ Q := by
  intro hL hS hσ p l e s m args below meth c A D cI cZ ad C H locs ls hP hD hV hl
  obtain ⟨hx, hb, hml, hown, hts, hlocks, hr, hK, hA, hN⟩ := id C
  exact lv_iload hx hb d (hl.2.2 i _ h) (k hL (ok_cons (ok_at hL h) hS) hσ p l e s m args below meth c A D cI cZ ad C H locs ls hP hD hV hl)
theorem WP.iload_n {G : MG} {M : MI} {pc : Nat} {L : List (Option MV)} {S : List MV} {σ : Mem} {Q : Int → Mem → Prop} {j : Fin 4} {x : Int} (d : decode (m_c M) pc = .ok (.iload_n j, 1)) (h : L[(j : Nat)]? = some (some (mi x))) (k : WP G M (pc + 1) L (mi x :: S) σ Q) : WP G M pc L S σ Q := by
  intro hL hS hσ p l e s m args below meth c A D cI cZ ad C H locs ls hP hD hV hl
  obtain ⟨hx, hb, hml, hown, hts, hlocks, hr, hK, hA, hN⟩ := id C
  exact lv_iload_n hx hb d rfl (hl.2.2 _ _ h) (k hL (ok_cons (ok_at hL h) hS) hσ p l e s m args below meth c A D cI cZ ad C H locs ls hP hD hV hl)
theorem WP.lload {G : MG} {M : MI} {pc : Nat} {L : List (Option MV)} {S : List MV} {σ : Mem} {Q : Int → Mem → Prop} {i : Nat} {x : Int} (d : decode (m_c M) pc = .ok (.lload i, 2)) (h : L[i]? = some (some (ml x))) (k : WP G M (pc + 2) L (ml x :: S) σ Q) : WP G M pc L S σ Q := by
  intro hL hS hσ p l e s m args below meth c A D cI cZ ad C H locs ls hP hD hV hl
  obtain ⟨hx, hb, hml, hown, hts, hlocks, hr, hK, hA, hN⟩ := id C
  exact lv_lload hx hb d (hl.2.2 i _ h) (k hL (ok_cons (ok_at hL h) hS) hσ p l e s m args below meth c A D cI cZ ad C H locs ls hP hD hV hl)
theorem WP.lload_n {G : MG} {M : MI} {pc : Nat} {L : List (Option MV)} {S : List MV} {σ : Mem} {Q : Int → Mem → Prop} {j : Fin 4} {x : Int} (d : decode (m_c M) pc = .ok (.lload_n j, 1)) (h : L[(j : Nat)]? = some (some (ml x))) (k : WP G M (pc + 1) L (ml x :: S) σ Q) : WP G M pc L S σ Q := by
  intro hL hS hσ p l e s m args below meth c A D cI cZ ad C H locs ls hP hD hV hl
  obtain ⟨hx, hb, hml, hown, hts, hlocks, hr, hK, hA, hN⟩ := id C
  exact lv_lload_n hx hb d rfl (hl.2.2 _ _ h) (k hL (ok_cons (ok_at hL h) hS) hσ p l e s m args below meth c A D cI cZ ad C H locs ls hP hD hV hl)
theorem WP.aload {G : MG} {M : MI} {pc : Nat} {L : List (Option MV)} {S : List MV} {σ : Mem} {Q : Int → Mem → Prop} {i : Nat} {x : Nat} (d : decode (m_c M) pc = .ok (.aload i, 2)) (h : L[i]? = some (some (mr x))) (k : WP G M (pc + 2) L (mr x :: S) σ Q) : WP G M pc L S σ Q := by
  intro hL hS hσ p l e s m args below meth c A D cI cZ ad C H locs ls hP hD hV hl
  obtain ⟨hx, hb, hml, hown, hts, hlocks, hr, hK, hA, hN⟩ := id C
  exact lv_aload hx hb d (hl.2.2 i _ h) (k hL (ok_cons trivial hS) hσ p l e s m args below meth c A D cI cZ ad C H locs ls hP hD hV hl)
theorem WP.aload_n {G : MG} {M : MI} {pc : Nat} {L : List (Option MV)} {S : List MV} {σ : Mem} {Q : Int → Mem → Prop} {j : Fin 4} {x : Nat} (d : decode (m_c M) pc = .ok (.aload_n j, 1)) (h : L[(j : Nat)]? = some (some (mr x))) (k : WP G M (pc + 1) L (mr x :: S) σ Q) : WP G M pc L S σ Q := by
  intro hL hS hσ p l e s m args below meth c A D cI cZ ad C H locs ls hP hD hV hl
  obtain ⟨hx, hb, hml, hown, hts, hlocks, hr, hK, hA, hN⟩ := id C
  exact lv_aload_n hx hb d rfl (hl.2.2 _ _ h) (k hL (ok_cons trivial hS) hσ p l e s m args below meth c A D cI cZ ad C H locs ls hP hD hV hl)
theorem WP.istore {G : MG} {M : MI} {pc : Nat} {L : List (Option MV)} {S : List MV} {σ : Mem} {Q : Int → Mem → Prop} {i : Nat} {x : Int} {L2 : List (Option MV)} (d : decode (m_c M) pc = .ok (.istore i, 2)) (hi : i < m_n M) (h : mst L i (mi x) = L2) (k : WP G M (pc + 2) L2 S σ Q) : WP G M pc L (mi x :: S) σ Q := by
  intro hL hS hσ p l e s m args below meth c A D cI cZ ad C H locs ls hP hD hV hl
  obtain ⟨hx, hb, hml, hown, hts, hlocks, hr, hK, hA, hN⟩ := id C
  subst h
  exact lv_istore hx hb d (mlh_has hl) hi rfl (fun ls2 hl2 => k (ok_mst hL i (ok_hd hS)) (ok_tl hS) hσ p l e s m args below meth c A D cI cZ ad C H locs ls2 hP hD hV (mst_has (v := mi x) hl2))
theorem WP.istore_n {G : MG} {M : MI} {pc : Nat} {L : List (Option MV)} {S : List MV} {σ : Mem} {Q : Int → Mem → Prop} {j : Fin 4} {x : Int} {L2 : List (Option MV)} (d : decode (m_c M) pc = .ok (.istore_n j, 1)) (hi : (j : Nat) < m_n M) (h : mst L j (mi x) = L2) (k : WP G M (pc + 1) L2 S σ Q) : WP G M pc L (mi x :: S) σ Q := by
  intro hL hS hσ p l e s m args below meth c A D cI cZ ad C H locs ls hP hD hV hl
  obtain ⟨hx, hb, hml, hown, hts, hlocks, hr, hK, hA, hN⟩ := id C
  subst h
  exact lv_istore_n hx hb d rfl (mlh_has hl) hi rfl (fun ls2 hl2 => k (ok_mst hL j (ok_hd hS)) (ok_tl hS) hσ p l e s m args below meth c A D cI cZ ad C H locs ls2 hP hD hV (mst_has (v := mi x) hl2))
theorem WP.lstore {G : MG} {M : MI} {pc : Nat} {L : List (Option MV)} {S : List MV} {σ : Mem} {Q : Int → Mem → Prop} {i : Nat} {x : Int} {L2 : List (Option MV)} (d : decode (m_c M) pc = .ok (.lstore i, 2)) (hi : i + 1 < m_n M) (h : mst2 L i (ml x) = L2) (k : WP G M (pc + 2) L2 S σ Q) : WP G M pc L (ml x :: S) σ Q := by
  intro hL hS hσ p l e s m args below meth c A D cI cZ ad C H locs ls hP hD hV hl
  obtain ⟨hx, hb, hml, hown, hts, hlocks, hr, hK, hA, hN⟩ := id C
  subst h
  exact lv_lstore hx hb d (mlh_has hl) hi rfl (fun ls2 hl2 => k (ok_mst2 hL i (ok_hd hS)) (ok_tl hS) hσ p l e s m args below meth c A D cI cZ ad C H locs ls2 hP hD hV (mst2_has (v := ml x) hl2))
theorem WP.astore {G : MG} {M : MI} {pc : Nat} {L : List (Option MV)} {S : List MV} {σ : Mem} {Q : Int → Mem → Prop} {i : Nat} {x : Nat} {L2 : List (Option MV)} (d : decode (m_c M) pc = .ok (.astore i, 2)) (hi : i < m_n M) (h : mst L i (mr x) = L2) (k : WP G M (pc + 2) L2 S σ Q) : WP G M pc L (mr x :: S) σ Q := by
  intro hL hS hσ p l e s m args below meth c A D cI cZ ad C H locs ls hP hD hV hl
  obtain ⟨hx, hb, hml, hown, hts, hlocks, hr, hK, hA, hN⟩ := id C
  subst h
  exact lv_astore hx hb d (mlh_has hl) hi rfl (fun ls2 hl2 => k (ok_mst hL i trivial) (ok_tl hS) hσ p l e s m args below meth c A D cI cZ ad C H locs ls2 hP hD hV (mst_has (v := mr x) hl2))
def jadd (a b : Int) : Int := (Int32.ofInt a + Int32.ofInt b).toInt
theorem o_iadd (a b : Int) : Int32.ofInt (jadd a b) = Int32.ofInt a + Int32.ofInt b := Int32.ofInt_toInt _
theorem WP.iadd {G : MG} {M : MI} {pc : Nat} {L : List (Option MV)} {S : List MV} {σ : Mem} {Q : Int → Mem → Prop} {a b : Int} (d : decode (m_c M) pc = .ok (.iadd, 1))  (k : WP G M (pc + 1) L (mi (jadd a b) :: S) σ Q) : WP G M pc L (mi b :: mi a :: S) σ Q := by
  intro hL hS hσ p l e s m args below meth c A D cI cZ ad C H locs ls hP hD hV hl
  obtain ⟨hx, hb, hml, hown, hts, hlocks, hr, hK, hA, hN⟩ := id C
  have kk := k hL (ok_cons (r32_of _) (ok_tl (ok_tl hS))) hσ p l e s m args below meth c A D cI cZ ad C H locs ls hP hD hV hl
  simp only [List.map_cons, mval, o_iadd] at kk
  exact lv_iadd hx hb d  kk
def jsub (a b : Int) : Int := (Int32.ofInt a - Int32.ofInt b).toInt
theorem o_isub (a b : Int) : Int32.ofInt (jsub a b) = Int32.ofInt a - Int32.ofInt b := Int32.ofInt_toInt _
theorem WP.isub {G : MG} {M : MI} {pc : Nat} {L : List (Option MV)} {S : List MV} {σ : Mem} {Q : Int → Mem → Prop} {a b : Int} (d : decode (m_c M) pc = .ok (.isub, 1))  (k : WP G M (pc + 1) L (mi (jsub a b) :: S) σ Q) : WP G M pc L (mi b :: mi a :: S) σ Q := by
  intro hL hS hσ p l e s m args below meth c A D cI cZ ad C H locs ls hP hD hV hl
  obtain ⟨hx, hb, hml, hown, hts, hlocks, hr, hK, hA, hN⟩ := id C
  have kk := k hL (ok_cons (r32_of _) (ok_tl (ok_tl hS))) hσ p l e s m args below meth c A D cI cZ ad C H locs ls hP hD hV hl
  simp only [List.map_cons, mval, o_isub] at kk
  exact lv_isub hx hb d  kk
def jmul (a b : Int) : Int := (Int32.ofInt a * Int32.ofInt b).toInt
theorem o_imul (a b : Int) : Int32.ofInt (jmul a b) = Int32.ofInt a * Int32.ofInt b := Int32.ofInt_toInt _
theorem WP.imul {G : MG} {M : MI} {pc : Nat} {L : List (Option MV)} {S : List MV} {σ : Mem} {Q : Int → Mem → Prop} {a b : Int} (d : decode (m_c M) pc = .ok (.imul, 1))  (k : WP G M (pc + 1) L (mi (jmul a b) :: S) σ Q) : WP G M pc L (mi b :: mi a :: S) σ Q := by
  intro hL hS hσ p l e s m args below meth c A D cI cZ ad C H locs ls hP hD hV hl
  obtain ⟨hx, hb, hml, hown, hts, hlocks, hr, hK, hA, hN⟩ := id C
  have kk := k hL (ok_cons (r32_of _) (ok_tl (ok_tl hS))) hσ p l e s m args below meth c A D cI cZ ad C H locs ls hP hD hV hl
  simp only [List.map_cons, mval, o_imul] at kk
  exact lv_imul hx hb d  kk
def jand (a b : Int) : Int := (Int32.ofInt a &&& Int32.ofInt b).toInt
theorem o_iand (a b : Int) : Int32.ofInt (jand a b) = Int32.ofInt a &&& Int32.ofInt b := Int32.ofInt_toInt _
theorem WP.iand {G : MG} {M : MI} {pc : Nat} {L : List (Option MV)} {S : List MV} {σ : Mem} {Q : Int → Mem → Prop} {a b : Int} (d : decode (m_c M) pc = .ok (.iand, 1))  (k : WP G M (pc + 1) L (mi (jand a b) :: S) σ Q) : WP G M pc L (mi b :: mi a :: S) σ Q := by
  intro hL hS hσ p l e s m args below meth c A D cI cZ ad C H locs ls hP hD hV hl
  obtain ⟨hx, hb, hml, hown, hts, hlocks, hr, hK, hA, hN⟩ := id C
  have kk := k hL (ok_cons (r32_of _) (ok_tl (ok_tl hS))) hσ p l e s m args below meth c A D cI cZ ad C H locs ls hP hD hV hl
  simp only [List.map_cons, mval, o_iand] at kk
  exact lv_iand hx hb d  kk
def jor (a b : Int) : Int := (Int32.ofInt a ||| Int32.ofInt b).toInt
theorem o_ior (a b : Int) : Int32.ofInt (jor a b) = Int32.ofInt a ||| Int32.ofInt b := Int32.ofInt_toInt _
theorem WP.ior {G : MG} {M : MI} {pc : Nat} {L : List (Option MV)} {S : List MV} {σ : Mem} {Q : Int → Mem → Prop} {a b : Int} (d : decode (m_c M) pc = .ok (.ior, 1))  (k : WP G M (pc + 1) L (mi (jor a b) :: S) σ Q) : WP G M pc L (mi b :: mi a :: S) σ Q := by
  intro hL hS hσ p l e s m args below meth c A D cI cZ ad C H locs ls hP hD hV hl
  obtain ⟨hx, hb, hml, hown, hts, hlocks, hr, hK, hA, hN⟩ := id C
  have kk := k hL (ok_cons (r32_of _) (ok_tl (ok_tl hS))) hσ p l e s m args below meth c A D cI cZ ad C H locs ls hP hD hV hl
  simp only [List.map_cons, mval, o_ior] at kk
  exact lv_ior hx hb d  kk
def jxor (a b : Int) : Int := (Int32.ofInt a ^^^ Int32.ofInt b).toInt
theorem o_ixor (a b : Int) : Int32.ofInt (jxor a b) = Int32.ofInt a ^^^ Int32.ofInt b := Int32.ofInt_toInt _
theorem WP.ixor {G : MG} {M : MI} {pc : Nat} {L : List (Option MV)} {S : List MV} {σ : Mem} {Q : Int → Mem → Prop} {a b : Int} (d : decode (m_c M) pc = .ok (.ixor, 1))  (k : WP G M (pc + 1) L (mi (jxor a b) :: S) σ Q) : WP G M pc L (mi b :: mi a :: S) σ Q := by
  intro hL hS hσ p l e s m args below meth c A D cI cZ ad C H locs ls hP hD hV hl
  obtain ⟨hx, hb, hml, hown, hts, hlocks, hr, hK, hA, hN⟩ := id C
  have kk := k hL (ok_cons (r32_of _) (ok_tl (ok_tl hS))) hσ p l e s m args below meth c A D cI cZ ad C H locs ls hP hD hV hl
  simp only [List.map_cons, mval, o_ixor] at kk
  exact lv_ixor hx hb d  kk
def jdiv (a b : Int) : Int := (Int32.ofInt a / Int32.ofInt b).toInt
theorem o_idiv (a b : Int) : Int32.ofInt (jdiv a b) = Int32.ofInt a / Int32.ofInt b := Int32.ofInt_toInt _
theorem WP.idiv {G : MG} {M : MI} {pc : Nat} {L : List (Option MV)} {S : List MV} {σ : Mem} {Q : Int → Mem → Prop} {a b : Int} (d : decode (m_c M) pc = .ok (.idiv, 1)) (hb0 : ¬ b = 0) (k : WP G M (pc + 1) L (mi (jdiv a b) :: S) σ Q) : WP G M pc L (mi b :: mi a :: S) σ Q := by
  intro hL hS hσ p l e s m args below meth c A D cI cZ ad C H locs ls hP hD hV hl
  obtain ⟨hx, hb, hml, hown, hts, hlocks, hr, hK, hA, hN⟩ := id C
  have hb0 : ¬ Int32.ofInt b = 0 := fun z => hb0 (by have hq : R32 b := hS (mi b) List.mem_cons_self; have h1 := r32_lo hq; rw [z] at h1; exact h1.symm)
  have kk := k hL (ok_cons (r32_of _) (ok_tl (ok_tl hS))) hσ p l e s m args below meth c A D cI cZ ad C H locs ls hP hD hV hl
  simp only [List.map_cons, mval, o_idiv] at kk
  exact lv_idiv hx hb d hb0 kk
def jrem (a b : Int) : Int := ((Int32.ofInt a) - (Int32.ofInt a) / (Int32.ofInt b) * (Int32.ofInt b)).toInt
theorem o_irem (a b : Int) : Int32.ofInt (jrem a b) = (Int32.ofInt a) - (Int32.ofInt a) / (Int32.ofInt b) * (Int32.ofInt b) := Int32.ofInt_toInt _
theorem WP.irem {G : MG} {M : MI} {pc : Nat} {L : List (Option MV)} {S : List MV} {σ : Mem} {Q : Int → Mem → Prop} {a b : Int} (d : decode (m_c M) pc = .ok (.irem, 1)) (hb0 : ¬ b = 0) (k : WP G M (pc + 1) L (mi (jrem a b) :: S) σ Q) : WP G M pc L (mi b :: mi a :: S) σ Q := by
  intro hL hS hσ p l e s m args below meth c A D cI cZ ad C H locs ls hP hD hV hl
  obtain ⟨hx, hb, hml, hown, hts, hlocks, hr, hK, hA, hN⟩ := id C
  have hb0 : ¬ Int32.ofInt b = 0 := fun z => hb0 (by have hq : R32 b := hS (mi b) List.mem_cons_self; have h1 := r32_lo hq; rw [z] at h1; exact h1.symm)
  have kk := k hL (ok_cons (r32_of _) (ok_tl (ok_tl hS))) hσ p l e s m args below meth c A D cI cZ ad C H locs ls hP hD hV hl
  simp only [List.map_cons, mval, o_irem] at kk
  exact lv_irem hx hb d hb0 kk
def jshl (a b : Int) : Int := (Int32.ofInt a <<< (Int32.ofInt b &&& 31)).toInt
theorem o_ishl (a b : Int) : Int32.ofInt (jshl a b) = Int32.ofInt a <<< (Int32.ofInt b &&& 31) := Int32.ofInt_toInt _
theorem WP.ishl {G : MG} {M : MI} {pc : Nat} {L : List (Option MV)} {S : List MV} {σ : Mem} {Q : Int → Mem → Prop} {a b : Int} (d : decode (m_c M) pc = .ok (.ishl, 1))  (k : WP G M (pc + 1) L (mi (jshl a b) :: S) σ Q) : WP G M pc L (mi b :: mi a :: S) σ Q := by
  intro hL hS hσ p l e s m args below meth c A D cI cZ ad C H locs ls hP hD hV hl
  obtain ⟨hx, hb, hml, hown, hts, hlocks, hr, hK, hA, hN⟩ := id C
  have kk := k hL (ok_cons (r32_of _) (ok_tl (ok_tl hS))) hσ p l e s m args below meth c A D cI cZ ad C H locs ls hP hD hV hl
  simp only [List.map_cons, mval, o_ishl] at kk
  exact lv_ishl hx hb d  kk
def jshr (a b : Int) : Int := (Int32.ofInt a >>> (Int32.ofInt b &&& 31)).toInt
theorem o_ishr (a b : Int) : Int32.ofInt (jshr a b) = Int32.ofInt a >>> (Int32.ofInt b &&& 31) := Int32.ofInt_toInt _
theorem WP.ishr {G : MG} {M : MI} {pc : Nat} {L : List (Option MV)} {S : List MV} {σ : Mem} {Q : Int → Mem → Prop} {a b : Int} (d : decode (m_c M) pc = .ok (.ishr, 1))  (k : WP G M (pc + 1) L (mi (jshr a b) :: S) σ Q) : WP G M pc L (mi b :: mi a :: S) σ Q := by
  intro hL hS hσ p l e s m args below meth c A D cI cZ ad C H locs ls hP hD hV hl
  obtain ⟨hx, hb, hml, hown, hts, hlocks, hr, hK, hA, hN⟩ := id C
  have kk := k hL (ok_cons (r32_of _) (ok_tl (ok_tl hS))) hσ p l e s m args below meth c A D cI cZ ad C H locs ls hP hD hV hl
  simp only [List.map_cons, mval, o_ishr] at kk
  exact lv_ishr hx hb d  kk
def jladd (a b : Int) : Int := (Int64.ofInt a + Int64.ofInt b).toInt
theorem o_ladd (a b : Int) : Int64.ofInt (jladd a b) = Int64.ofInt a + Int64.ofInt b := Int64.ofInt_toInt _
theorem WP.ladd {G : MG} {M : MI} {pc : Nat} {L : List (Option MV)} {S : List MV} {σ : Mem} {Q : Int → Mem → Prop} {a b : Int} (d : decode (m_c M) pc = .ok (.ladd, 1))  (k : WP G M (pc + 1) L (ml (jladd a b) :: S) σ Q) : WP G M pc L (ml b :: ml a :: S) σ Q := by
  intro hL hS hσ p l e s m args below meth c A D cI cZ ad C H locs ls hP hD hV hl
  obtain ⟨hx, hb, hml, hown, hts, hlocks, hr, hK, hA, hN⟩ := id C
  have kk := k hL (ok_cons (r64_of _) (ok_tl (ok_tl hS))) hσ p l e s m args below meth c A D cI cZ ad C H locs ls hP hD hV hl
  simp only [List.map_cons, mval, o_ladd] at kk
  exact lv_ladd hx hb d  kk
def jlsub (a b : Int) : Int := (Int64.ofInt a - Int64.ofInt b).toInt
theorem o_lsub (a b : Int) : Int64.ofInt (jlsub a b) = Int64.ofInt a - Int64.ofInt b := Int64.ofInt_toInt _
theorem WP.lsub {G : MG} {M : MI} {pc : Nat} {L : List (Option MV)} {S : List MV} {σ : Mem} {Q : Int → Mem → Prop} {a b : Int} (d : decode (m_c M) pc = .ok (.lsub, 1))  (k : WP G M (pc + 1) L (ml (jlsub a b) :: S) σ Q) : WP G M pc L (ml b :: ml a :: S) σ Q := by
  intro hL hS hσ p l e s m args below meth c A D cI cZ ad C H locs ls hP hD hV hl
  obtain ⟨hx, hb, hml, hown, hts, hlocks, hr, hK, hA, hN⟩ := id C
  have kk := k hL (ok_cons (r64_of _) (ok_tl (ok_tl hS))) hσ p l e s m args below meth c A D cI cZ ad C H locs ls hP hD hV hl
  simp only [List.map_cons, mval, o_lsub] at kk
  exact lv_lsub hx hb d  kk
def jlmul (a b : Int) : Int := (Int64.ofInt a * Int64.ofInt b).toInt
theorem o_lmul (a b : Int) : Int64.ofInt (jlmul a b) = Int64.ofInt a * Int64.ofInt b := Int64.ofInt_toInt _
theorem WP.lmul {G : MG} {M : MI} {pc : Nat} {L : List (Option MV)} {S : List MV} {σ : Mem} {Q : Int → Mem → Prop} {a b : Int} (d : decode (m_c M) pc = .ok (.lmul, 1))  (k : WP G M (pc + 1) L (ml (jlmul a b) :: S) σ Q) : WP G M pc L (ml b :: ml a :: S) σ Q := by
  intro hL hS hσ p l e s m args below meth c A D cI cZ ad C H locs ls hP hD hV hl
  obtain ⟨hx, hb, hml, hown, hts, hlocks, hr, hK, hA, hN⟩ := id C
  have kk := k hL (ok_cons (r64_of _) (ok_tl (ok_tl hS))) hσ p l e s m args below meth c A D cI cZ ad C H locs ls hP hD hV hl
  simp only [List.map_cons, mval, o_lmul] at kk
  exact lv_lmul hx hb d  kk
def jland (a b : Int) : Int := (Int64.ofInt a &&& Int64.ofInt b).toInt
theorem o_land (a b : Int) : Int64.ofInt (jland a b) = Int64.ofInt a &&& Int64.ofInt b := Int64.ofInt_toInt _
theorem WP.land {G : MG} {M : MI} {pc : Nat} {L : List (Option MV)} {S : List MV} {σ : Mem} {Q : Int → Mem → Prop} {a b : Int} (d : decode (m_c M) pc = .ok (.land, 1))  (k : WP G M (pc + 1) L (ml (jland a b) :: S) σ Q) : WP G M pc L (ml b :: ml a :: S) σ Q := by
  intro hL hS hσ p l e s m args below meth c A D cI cZ ad C H locs ls hP hD hV hl
  obtain ⟨hx, hb, hml, hown, hts, hlocks, hr, hK, hA, hN⟩ := id C
  have kk := k hL (ok_cons (r64_of _) (ok_tl (ok_tl hS))) hσ p l e s m args below meth c A D cI cZ ad C H locs ls hP hD hV hl
  simp only [List.map_cons, mval, o_land] at kk
  exact lv_land hx hb d  kk
def jlor (a b : Int) : Int := (Int64.ofInt a ||| Int64.ofInt b).toInt
theorem o_lor (a b : Int) : Int64.ofInt (jlor a b) = Int64.ofInt a ||| Int64.ofInt b := Int64.ofInt_toInt _
theorem WP.lor {G : MG} {M : MI} {pc : Nat} {L : List (Option MV)} {S : List MV} {σ : Mem} {Q : Int → Mem → Prop} {a b : Int} (d : decode (m_c M) pc = .ok (.lor, 1))  (k : WP G M (pc + 1) L (ml (jlor a b) :: S) σ Q) : WP G M pc L (ml b :: ml a :: S) σ Q := by
  intro hL hS hσ p l e s m args below meth c A D cI cZ ad C H locs ls hP hD hV hl
  obtain ⟨hx, hb, hml, hown, hts, hlocks, hr, hK, hA, hN⟩ := id C
  have kk := k hL (ok_cons (r64_of _) (ok_tl (ok_tl hS))) hσ p l e s m args below meth c A D cI cZ ad C H locs ls hP hD hV hl
  simp only [List.map_cons, mval, o_lor] at kk
  exact lv_lor hx hb d  kk
def jushr (a b : Int) : Int := (((Int32.ofInt a).toUInt32 >>> ((Int32.ofInt b).toUInt32 &&& Int32.toUInt32 31)).toInt32).toInt
theorem o_iushr (a b : Int) : Int32.ofInt (jushr a b) = ((Int32.ofInt a).toUInt32 >>> ((Int32.ofInt b).toUInt32 &&& Int32.toUInt32 31)).toInt32 := Int32.ofInt_toInt _
theorem WP.iushr {G : MG} {M : MI} {pc : Nat} {L : List (Option MV)} {S : List MV} {σ : Mem} {Q : Int → Mem → Prop} {a b : Int} (d : decode (m_c M) pc = .ok (.iushr, 1))  (k : WP G M (pc + 1) L (mi (jushr a b) :: S) σ Q) : WP G M pc L (mi b :: mi a :: S) σ Q := by
  intro hL hS hσ p l e s m args below meth c A D cI cZ ad C H locs ls hP hD hV hl
  obtain ⟨hx, hb, hml, hown, hts, hlocks, hr, hK, hA, hN⟩ := id C
  exact lv_iushr hx hb d (o_iushr a b).symm (k hL (ok_cons (r32_of _) (ok_tl (ok_tl hS))) hσ p l e s m args below meth c A D cI cZ ad C H locs ls hP hD hV hl)
def jlshl (a b : Int) : Int := (Int64.ofInt a <<< ((Int32.ofInt b).toInt64 &&& 63)).toInt
theorem o_lshl (a b : Int) : Int64.ofInt (jlshl a b) = Int64.ofInt a <<< ((Int32.ofInt b).toInt64 &&& 63) := Int64.ofInt_toInt _
theorem WP.lshl {G : MG} {M : MI} {pc : Nat} {L : List (Option MV)} {S : List MV} {σ : Mem} {Q : Int → Mem → Prop} {a b : Int} (d : decode (m_c M) pc = .ok (.lshl, 1))  (k : WP G M (pc + 1) L (ml (jlshl a b) :: S) σ Q) : WP G M pc L (mi b :: ml a :: S) σ Q := by
  intro hL hS hσ p l e s m args below meth c A D cI cZ ad C H locs ls hP hD hV hl
  obtain ⟨hx, hb, hml, hown, hts, hlocks, hr, hK, hA, hN⟩ := id C
  exact lv_lshl hx hb d (o_lshl a b).symm (k hL (ok_cons (r64_of _) (ok_tl (ok_tl hS))) hσ p l e s m args below meth c A D cI cZ ad C H locs ls hP hD hV hl)
def jlshr (a b : Int) : Int := (Int64.ofInt a >>> ((Int32.ofInt b).toInt64 &&& 63)).toInt
theorem o_lshr (a b : Int) : Int64.ofInt (jlshr a b) = Int64.ofInt a >>> ((Int32.ofInt b).toInt64 &&& 63) := Int64.ofInt_toInt _
theorem WP.lshr {G : MG} {M : MI} {pc : Nat} {L : List (Option MV)} {S : List MV} {σ : Mem} {Q : Int → Mem → Prop} {a b : Int} (d : decode (m_c M) pc = .ok (.lshr, 1))  (k : WP G M (pc + 1) L (ml (jlshr a b) :: S) σ Q) : WP G M pc L (mi b :: ml a :: S) σ Q := by
  intro hL hS hσ p l e s m args below meth c A D cI cZ ad C H locs ls hP hD hV hl
  obtain ⟨hx, hb, hml, hown, hts, hlocks, hr, hK, hA, hN⟩ := id C
  exact lv_lshr hx hb d (o_lshr a b).symm (k hL (ok_cons (r64_of _) (ok_tl (ok_tl hS))) hσ p l e s m args below meth c A D cI cZ ad C H locs ls hP hD hV hl)
def jl2i (a : Int) : Int := (Int64.ofInt a).toInt32.toInt
def j2b (a : Int) : Int := (Int32.ofInt a).toInt8.toInt32.toInt
def j2s (a : Int) : Int := (Int32.ofInt a).toInt16.toInt32.toInt
theorem WP.l2i {G : MG} {M : MI} {pc : Nat} {L : List (Option MV)} {S : List MV} {σ : Mem} {Q : Int → Mem → Prop} {a : Int} (d : decode (m_c M) pc = .ok (.l2i, 1))  (k : WP G M (pc + 1) L (mi (jl2i a) :: S) σ Q) : WP G M pc L (ml a :: S) σ Q := by
  intro hL hS hσ p l e s m args below meth c A D cI cZ ad C H locs ls hP hD hV hl
  obtain ⟨hx, hb, hml, hown, hts, hlocks, hr, hK, hA, hN⟩ := id C
  exact lv_l2i hx hb d (Int32.ofInt_toInt _).symm (k hL (ok_cons (r32_of _) (ok_tl hS)) hσ p l e s m args below meth c A D cI cZ ad C H locs ls hP hD hV hl)
theorem WP.i2b {G : MG} {M : MI} {pc : Nat} {L : List (Option MV)} {S : List MV} {σ : Mem} {Q : Int → Mem → Prop} {a : Int} (d : decode (m_c M) pc = .ok (.i2b, 1))  (k : WP G M (pc + 1) L (mi (j2b a) :: S) σ Q) : WP G M pc L (mi a :: S) σ Q := by
  intro hL hS hσ p l e s m args below meth c A D cI cZ ad C H locs ls hP hD hV hl
  obtain ⟨hx, hb, hml, hown, hts, hlocks, hr, hK, hA, hN⟩ := id C
  exact lv_i2b hx hb d (Int32.ofInt_toInt _).symm (k hL (ok_cons (r32_of _) (ok_tl hS)) hσ p l e s m args below meth c A D cI cZ ad C H locs ls hP hD hV hl)
theorem WP.i2s {G : MG} {M : MI} {pc : Nat} {L : List (Option MV)} {S : List MV} {σ : Mem} {Q : Int → Mem → Prop} {a : Int} (d : decode (m_c M) pc = .ok (.i2s, 1))  (k : WP G M (pc + 1) L (mi (j2s a) :: S) σ Q) : WP G M pc L (mi a :: S) σ Q := by
  intro hL hS hσ p l e s m args below meth c A D cI cZ ad C H locs ls hP hD hV hl
  obtain ⟨hx, hb, hml, hown, hts, hlocks, hr, hK, hA, hN⟩ := id C
  exact lv_i2s hx hb d (Int32.ofInt_toInt _).symm (k hL (ok_cons (r32_of _) (ok_tl hS)) hσ p l e s m args below meth c A D cI cZ ad C H locs ls hP hD hV hl)
theorem w_i2l {a : Int} (h : R32 a) : (Int32.ofInt a).toInt64 = Int64.ofInt a := by
  apply Int64.toInt_inj.mp
  rw [Int32.toInt_toInt64, r32_lo h, r64_lo ⟨by omega, by omega⟩]
theorem WP.i2l {G : MG} {M : MI} {pc : Nat} {L : List (Option MV)} {S : List MV} {σ : Mem} {Q : Int → Mem → Prop} {a : Int} (d : decode (m_c M) pc = .ok (.i2l, 1))  (k : WP G M (pc + 1) L (ml a :: S) σ Q) : WP G M pc L (mi a :: S) σ Q := by
  intro hL hS hσ p l e s m args below meth c A D cI cZ ad C H locs ls hP hD hV hl
  obtain ⟨hx, hb, hml, hown, hts, hlocks, hr, hK, hA, hN⟩ := id C
  have ha : R32 a := ok_hd hS
  exact lv_i2l hx hb d (w_i2l ha) (k hL (ok_cons (show R64 a from ⟨by omega, by omega⟩) (ok_tl hS)) hσ p l e s m args below meth c A D cI cZ ad C H locs ls hP hD hV hl)
def lcmpM (a b : Int) : Int := if b < a then 1 else if a = b then 0 else -1
theorem w_lcmp {a b : Int} (ha : R64 a) (hb : R64 b) : lg_cmp (Int64.ofInt a) (Int64.ofInt b) = Int32.ofInt (lcmpM a b) := by
  unfold lg_cmp lcmpM
  simp only [gt_iff_lt, Int64.lt_iff_toInt_lt, ← Int64.toInt_inj, r64_lo ha, r64_lo hb]
  repeat' split
  all_goals rfl
theorem WP.lcmp {G : MG} {M : MI} {pc : Nat} {L : List (Option MV)} {S : List MV} {σ : Mem} {Q : Int → Mem → Prop} {a b : Int} (d : decode (m_c M) pc = .ok (.lcmp, 1))  (k : WP G M (pc + 1) L (mi (lcmpM a b) :: S) σ Q) : WP G M pc L (ml b :: ml a :: S) σ Q := by
  intro hL hS hσ p l e s m args below meth c A D cI cZ ad C H locs ls hP hD hV hl
  obtain ⟨hx, hb, hml, hown, hts, hlocks, hr, hK, hA, hN⟩ := id C
  have hr0 : R32 (lcmpM a b) := by unfold lcmpM; repeat' split
                                   all_goals exact ⟨by decide, by decide⟩
  have kk := k hL (ok_cons hr0 (ok_tl (ok_tl hS))) hσ p l e s m args below meth c A D cI cZ ad C H locs ls hP hD hV hl
  simp only [List.map_cons, mval, ← w_lcmp (show R64 a from hS (ml a) (List.mem_cons_of_mem _ List.mem_cons_self)) (show R64 b from ok_hd hS)] at kk
  exact W.lcmp hx hb d kk
theorem WP.dup {G : MG} {M : MI} {pc : Nat} {L : List (Option MV)} {S : List MV} {σ : Mem} {Q : Int → Mem → Prop} {v : MV} (d : decode (m_c M) pc = .ok (.dup, 1)) (hv : mcat v = 1) (k : WP G M (pc + 1) L (v :: v :: S) σ Q) : WP G M pc L (v :: S) σ Q := by
  intro hL hS hσ p l e s m args below meth c A D cI cZ ad C H locs ls hP hD hV hl
  obtain ⟨hx, hb, hml, hown, hts, hlocks, hr, hK, hA, hN⟩ := id C
  exact lv_dup hx hb d ((mcat_val ad v).trans hv) (k hL (ok_cons (ok_hd hS) hS) hσ p l e s m args below meth c A D cI cZ ad C H locs ls hP hD hV hl)
theorem WP.pop {G : MG} {M : MI} {pc : Nat} {L : List (Option MV)} {S : List MV} {σ : Mem} {Q : Int → Mem → Prop} {v : MV} (d : decode (m_c M) pc = .ok (.pop, 1)) (hv : mcat v = 1) (k : WP G M (pc + 1) L S σ Q) : WP G M pc L (v :: S) σ Q := by
  intro hL hS hσ p l e s m args below meth c A D cI cZ ad C H locs ls hP hD hV hl
  obtain ⟨hx, hb, hml, hown, hts, hlocks, hr, hK, hA, hN⟩ := id C
  exact lv_pop hx hb d ((mcat_val ad v).trans hv) (k hL (ok_tl hS) hσ p l e s m args below meth c A D cI cZ ad C H locs ls hP hD hV hl)
theorem WP.dup2 {G : MG} {M : MI} {pc : Nat} {L : List (Option MV)} {S : List MV} {σ : Mem} {Q : Int → Mem → Prop} {v w : MV} (d : decode (m_c M) pc = .ok (.dup2, 1)) (hv : mcat v = 1) (hw : mcat w = 1) (k : WP G M (pc + 1) L (v :: w :: v :: w :: S) σ Q) : WP G M pc L (v :: w :: S) σ Q := by
  intro hL hS hσ p l e s m args below meth c A D cI cZ ad C H locs ls hP hD hV hl
  obtain ⟨hx, hb, hml, hown, hts, hlocks, hr, hK, hA, hN⟩ := id C
  exact lv_dup2_11 hx hb d ((mcat_val ad v).trans hv) ((mcat_val ad w).trans hw) (k hL (ok_cons (ok_hd hS) (ok_cons (ok_hd (ok_tl hS)) hS)) hσ p l e s m args below meth c A D cI cZ ad C H locs ls hP hD hV hl)
theorem w_eq0 {a : Int} (h : R32 a) : Int32.ofInt a = 0 ↔ a = 0 := by
  rw [← Int32.toInt_inj, r32_lo h]; rfl
theorem w_lt0 {a : Int} (h : R32 a) : Int32.ofInt a < 0 ↔ a < 0 := by
  rw [Int32.lt_iff_toInt_lt, r32_lo h]; rfl
theorem w_ge0 {a : Int} (h : R32 a) : 0 ≤ Int32.ofInt a ↔ 0 ≤ a := by
  rw [Int32.le_iff_toInt_le, r32_lo h]; rfl
theorem w_gt0 {a : Int} (h : R32 a) : 0 < Int32.ofInt a ↔ 0 < a := by
  rw [Int32.lt_iff_toInt_lt, r32_lo h]; rfl
theorem w_le0 {a : Int} (h : R32 a) : Int32.ofInt a ≤ 0 ↔ a ≤ 0 := by
  rw [Int32.le_iff_toInt_le, r32_lo h]; rfl
theorem w_eq {a b : Int} (h : R32 a) (h2 : R32 b) : Int32.ofInt a = Int32.ofInt b ↔ a = b := by
  rw [← Int32.toInt_inj, r32_lo h, r32_lo h2]
theorem w_lt {a b : Int} (h : R32 a) (h2 : R32 b) : Int32.ofInt a < Int32.ofInt b ↔ a < b := by
  rw [Int32.lt_iff_toInt_lt, r32_lo h, r32_lo h2]
theorem w_le {a b : Int} (h : R32 a) (h2 : R32 b) : Int32.ofInt a ≤ Int32.ofInt b ↔ a ≤ b := by
  rw [Int32.le_iff_toInt_le, r32_lo h, r32_lo h2]
theorem WP.if_eq {G : MG} {M : MI} {pc : Nat} {L : List (Option MV)} {S : List MV} {σ : Mem} {Q : Int → Mem → Prop} {a off : Int} {tgt : Nat} (d : decode (m_c M) pc = .ok (.ifCond .eq off, 3)) (ht : (pc : Int) + off = (tgt : Int)) (kt : a = 0 → WP G M tgt L S σ Q) (kf : ¬ a = 0 → WP G M (pc + 3) L S σ Q) : WP G M pc L (mi a :: S) σ Q := by
  intro hL hS hσ p l e s m args below meth c A D cI cZ ad C H locs ls hP hD hV hl
  obtain ⟨hx, hb, hml, hown, hts, hlocks, hr, hK, hA, hN⟩ := id C
  have ha : R32 a := ok_hd hS
  exact lv_if_eq hx hb d ht (fun q => kt ((w_eq0 ha).mp q) hL (ok_tl hS) hσ p l e s m args below meth c A D cI cZ ad C H locs ls hP hD hV hl) (fun q => kf (fun z => q ((w_eq0 ha).mpr z)) hL (ok_tl hS) hσ p l e s m args below meth c A D cI cZ ad C H locs ls hP hD hV hl)
theorem WP.if_ne {G : MG} {M : MI} {pc : Nat} {L : List (Option MV)} {S : List MV} {σ : Mem} {Q : Int → Mem → Prop} {a off : Int} {tgt : Nat} (d : decode (m_c M) pc = .ok (.ifCond .ne off, 3)) (ht : (pc : Int) + off = (tgt : Int)) (kt : ¬ a = 0 → WP G M tgt L S σ Q) (kf : a = 0 → WP G M (pc + 3) L S σ Q) : WP G M pc L (mi a :: S) σ Q := by
  intro hL hS hσ p l e s m args below meth c A D cI cZ ad C H locs ls hP hD hV hl
  obtain ⟨hx, hb, hml, hown, hts, hlocks, hr, hK, hA, hN⟩ := id C
  have ha : R32 a := ok_hd hS
  exact lv_if_ne hx hb d ht (fun q => kt (fun z => q ((w_eq0 ha).mpr z)) hL (ok_tl hS) hσ p l e s m args below meth c A D cI cZ ad C H locs ls hP hD hV hl) (fun q => kf ((w_eq0 ha).mp q) hL (ok_tl hS) hσ p l e s m args below meth c A D cI cZ ad C H locs ls hP hD hV hl)
theorem WP.if_lt {G : MG} {M : MI} {pc : Nat} {L : List (Option MV)} {S : List MV} {σ : Mem} {Q : Int → Mem → Prop} {a off : Int} {tgt : Nat} (d : decode (m_c M) pc = .ok (.ifCond .lt off, 3)) (ht : (pc : Int) + off = (tgt : Int)) (kt : a < 0 → WP G M tgt L S σ Q) (kf : ¬ a < 0 → WP G M (pc + 3) L S σ Q) : WP G M pc L (mi a :: S) σ Q := by
  intro hL hS hσ p l e s m args below meth c A D cI cZ ad C H locs ls hP hD hV hl
  obtain ⟨hx, hb, hml, hown, hts, hlocks, hr, hK, hA, hN⟩ := id C
  have ha : R32 a := ok_hd hS
  exact lv_if_lt hx hb d ht (fun q => kt ((w_lt0 ha).mp q) hL (ok_tl hS) hσ p l e s m args below meth c A D cI cZ ad C H locs ls hP hD hV hl) (fun q => kf (fun z => q ((w_lt0 ha).mpr z)) hL (ok_tl hS) hσ p l e s m args below meth c A D cI cZ ad C H locs ls hP hD hV hl)
theorem WP.if_ge {G : MG} {M : MI} {pc : Nat} {L : List (Option MV)} {S : List MV} {σ : Mem} {Q : Int → Mem → Prop} {a off : Int} {tgt : Nat} (d : decode (m_c M) pc = .ok (.ifCond .ge off, 3)) (ht : (pc : Int) + off = (tgt : Int)) (kt : 0 ≤ a → WP G M tgt L S σ Q) (kf : ¬ 0 ≤ a → WP G M (pc + 3) L S σ Q) : WP G M pc L (mi a :: S) σ Q := by
  intro hL hS hσ p l e s m args below meth c A D cI cZ ad C H locs ls hP hD hV hl
  obtain ⟨hx, hb, hml, hown, hts, hlocks, hr, hK, hA, hN⟩ := id C
  have ha : R32 a := ok_hd hS
  exact lv_if_ge hx hb d ht (fun q => kt ((w_ge0 ha).mp q) hL (ok_tl hS) hσ p l e s m args below meth c A D cI cZ ad C H locs ls hP hD hV hl) (fun q => kf (fun z => q ((w_ge0 ha).mpr z)) hL (ok_tl hS) hσ p l e s m args below meth c A D cI cZ ad C H locs ls hP hD hV hl)
theorem WP.if_gt {G : MG} {M : MI} {pc : Nat} {L : List (Option MV)} {S : List MV} {σ : Mem} {Q : Int → Mem → Prop} {a off : Int} {tgt : Nat} (d : decode (m_c M) pc = .ok (.ifCond .gt off, 3)) (ht : (pc : Int) + off = (tgt : Int)) (kt : 0 < a → WP G M tgt L S σ Q) (kf : ¬ 0 < a → WP G M (pc + 3) L S σ Q) : WP G M pc L (mi a :: S) σ Q := by
  intro hL hS hσ p l e s m args below meth c A D cI cZ ad C H locs ls hP hD hV hl
  obtain ⟨hx, hb, hml, hown, hts, hlocks, hr, hK, hA, hN⟩ := id C
  have ha : R32 a := ok_hd hS
  exact lv_if_gt hx hb d ht (fun q => kt ((w_gt0 ha).mp q) hL (ok_tl hS) hσ p l e s m args below meth c A D cI cZ ad C H locs ls hP hD hV hl) (fun q => kf (fun z => q ((w_gt0 ha).mpr z)) hL (ok_tl hS) hσ p l e s m args below meth c A D cI cZ ad C H locs ls hP hD hV hl)
theorem WP.if_le {G : MG} {M : MI} {pc : Nat} {L : List (Option MV)} {S : List MV} {σ : Mem} {Q : Int → Mem → Prop} {a off : Int} {tgt : Nat} (d : decode (m_c M) pc = .ok (.ifCond .le off, 3)) (ht : (pc : Int) + off = (tgt : Int)) (kt : a ≤ 0 → WP G M tgt L S σ Q) (kf : ¬ a ≤ 0 → WP G M (pc + 3) L S σ Q) : WP G M pc L (mi a :: S) σ Q := by
  intro hL hS hσ p l e s m args below meth c A D cI cZ ad C H locs ls hP hD hV hl
  obtain ⟨hx, hb, hml, hown, hts, hlocks, hr, hK, hA, hN⟩ := id C
  have ha : R32 a := ok_hd hS
  exact lv_if_le hx hb d ht (fun q => kt ((w_le0 ha).mp q) hL (ok_tl hS) hσ p l e s m args below meth c A D cI cZ ad C H locs ls hP hD hV hl) (fun q => kf (fun z => q ((w_le0 ha).mpr z)) hL (ok_tl hS) hσ p l e s m args below meth c A D cI cZ ad C H locs ls hP hD hV hl)
theorem WP.icmp_eq {G : MG} {M : MI} {pc : Nat} {L : List (Option MV)} {S : List MV} {σ : Mem} {Q : Int → Mem → Prop} {a b off : Int} {tgt : Nat} (d : decode (m_c M) pc = .ok (.if_icmp .eq off, 3)) (ht : (pc : Int) + off = (tgt : Int)) (kt : a = b → WP G M tgt L S σ Q) (kf : ¬ a = b → WP G M (pc + 3) L S σ Q) : WP G M pc L (mi b :: mi a :: S) σ Q := by
  intro hL hS hσ p l e s m args below meth c A D cI cZ ad C H locs ls hP hD hV hl
  obtain ⟨hx, hb, hml, hown, hts, hlocks, hr, hK, hA, hN⟩ := id C
  have hb2 : R32 b := ok_hd hS
  have ha : R32 a := ok_hd (ok_tl hS)
  exact lv_icmp_eq hx hb d ht (fun q => kt ((w_eq ha hb2).mp q) hL (ok_tl (ok_tl hS)) hσ p l e s m args below meth c A D cI cZ ad C H locs ls hP hD hV hl) (fun q => kf (fun z => q ((w_eq ha hb2).mpr z)) hL (ok_tl (ok_tl hS)) hσ p l e s m args below meth c A D cI cZ ad C H locs ls hP hD hV hl)
theorem WP.icmp_ne {G : MG} {M : MI} {pc : Nat} {L : List (Option MV)} {S : List MV} {σ : Mem} {Q : Int → Mem → Prop} {a b off : Int} {tgt : Nat} (d : decode (m_c M) pc = .ok (.if_icmp .ne off, 3)) (ht : (pc : Int) + off = (tgt : Int)) (kt : ¬ a = b → WP G M tgt L S σ Q) (kf : a = b → WP G M (pc + 3) L S σ Q) : WP G M pc L (mi b :: mi a :: S) σ Q := by
  intro hL hS hσ p l e s m args below meth c A D cI cZ ad C H locs ls hP hD hV hl
  obtain ⟨hx, hb, hml, hown, hts, hlocks, hr, hK, hA, hN⟩ := id C
  have hb2 : R32 b := ok_hd hS
  have ha : R32 a := ok_hd (ok_tl hS)
  exact lv_icmp_ne hx hb d ht (fun q => kt (fun z => q ((w_eq ha hb2).mpr z)) hL (ok_tl (ok_tl hS)) hσ p l e s m args below meth c A D cI cZ ad C H locs ls hP hD hV hl) (fun q => kf ((w_eq ha hb2).mp q) hL (ok_tl (ok_tl hS)) hσ p l e s m args below meth c A D cI cZ ad C H locs ls hP hD hV hl)
theorem WP.icmp_lt {G : MG} {M : MI} {pc : Nat} {L : List (Option MV)} {S : List MV} {σ : Mem} {Q : Int → Mem → Prop} {a b off : Int} {tgt : Nat} (d : decode (m_c M) pc = .ok (.if_icmp .lt off, 3)) (ht : (pc : Int) + off = (tgt : Int)) (kt : a < b → WP G M tgt L S σ Q) (kf : ¬ a < b → WP G M (pc + 3) L S σ Q) : WP G M pc L (mi b :: mi a :: S) σ Q := by
  intro hL hS hσ p l e s m args below meth c A D cI cZ ad C H locs ls hP hD hV hl
  obtain ⟨hx, hb, hml, hown, hts, hlocks, hr, hK, hA, hN⟩ := id C
  have hb2 : R32 b := ok_hd hS
  have ha : R32 a := ok_hd (ok_tl hS)
  exact lv_icmp_lt hx hb d ht (fun q => kt ((w_lt ha hb2).mp q) hL (ok_tl (ok_tl hS)) hσ p l e s m args below meth c A D cI cZ ad C H locs ls hP hD hV hl) (fun q => kf (fun z => q ((w_lt ha hb2).mpr z)) hL (ok_tl (ok_tl hS)) hσ p l e s m args below meth c A D cI cZ ad C H locs ls hP hD hV hl)
theorem WP.icmp_ge {G : MG} {M : MI} {pc : Nat} {L : List (Option MV)} {S : List MV} {σ : Mem} {Q : Int → Mem → Prop} {a b off : Int} {tgt : Nat} (d : decode (m_c M) pc = .ok (.if_icmp .ge off, 3)) (ht : (pc : Int) + off = (tgt : Int)) (kt : b ≤ a → WP G M tgt L S σ Q) (kf : ¬ b ≤ a → WP G M (pc + 3) L S σ Q) : WP G M pc L (mi b :: mi a :: S) σ Q := by
  intro hL hS hσ p l e s m args below meth c A D cI cZ ad C H locs ls hP hD hV hl
  obtain ⟨hx, hb, hml, hown, hts, hlocks, hr, hK, hA, hN⟩ := id C
  have hb2 : R32 b := ok_hd hS
  have ha : R32 a := ok_hd (ok_tl hS)
  exact lv_icmp_ge hx hb d ht (fun q => kt ((w_le hb2 ha).mp q) hL (ok_tl (ok_tl hS)) hσ p l e s m args below meth c A D cI cZ ad C H locs ls hP hD hV hl) (fun q => kf (fun z => q ((w_le hb2 ha).mpr z)) hL (ok_tl (ok_tl hS)) hσ p l e s m args below meth c A D cI cZ ad C H locs ls hP hD hV hl)
theorem WP.icmp_gt {G : MG} {M : MI} {pc : Nat} {L : List (Option MV)} {S : List MV} {σ : Mem} {Q : Int → Mem → Prop} {a b off : Int} {tgt : Nat} (d : decode (m_c M) pc = .ok (.if_icmp .gt off, 3)) (ht : (pc : Int) + off = (tgt : Int)) (kt : b < a → WP G M tgt L S σ Q) (kf : ¬ b < a → WP G M (pc + 3) L S σ Q) : WP G M pc L (mi b :: mi a :: S) σ Q := by
  intro hL hS hσ p l e s m args below meth c A D cI cZ ad C H locs ls hP hD hV hl
  obtain ⟨hx, hb, hml, hown, hts, hlocks, hr, hK, hA, hN⟩ := id C
  have hb2 : R32 b := ok_hd hS
  have ha : R32 a := ok_hd (ok_tl hS)
  exact lv_icmp_gt hx hb d ht (fun q => kt ((w_lt hb2 ha).mp q) hL (ok_tl (ok_tl hS)) hσ p l e s m args below meth c A D cI cZ ad C H locs ls hP hD hV hl) (fun q => kf (fun z => q ((w_lt hb2 ha).mpr z)) hL (ok_tl (ok_tl hS)) hσ p l e s m args below meth c A D cI cZ ad C H locs ls hP hD hV hl)
theorem WP.icmp_le {G : MG} {M : MI} {pc : Nat} {L : List (Option MV)} {S : List MV} {σ : Mem} {Q : Int → Mem → Prop} {a b off : Int} {tgt : Nat} (d : decode (m_c M) pc = .ok (.if_icmp .le off, 3)) (ht : (pc : Int) + off = (tgt : Int)) (kt : a ≤ b → WP G M tgt L S σ Q) (kf : ¬ a ≤ b → WP G M (pc + 3) L S σ Q) : WP G M pc L (mi b :: mi a :: S) σ Q := by
  intro hL hS hσ p l e s m args below meth c A D cI cZ ad C H locs ls hP hD hV hl
  obtain ⟨hx, hb, hml, hown, hts, hlocks, hr, hK, hA, hN⟩ := id C
  have hb2 : R32 b := ok_hd hS
  have ha : R32 a := ok_hd (ok_tl hS)
  exact lv_icmp_le hx hb d ht (fun q => kt ((w_le ha hb2).mp q) hL (ok_tl (ok_tl hS)) hσ p l e s m args below meth c A D cI cZ ad C H locs ls hP hD hV hl) (fun q => kf (fun z => q ((w_le ha hb2).mpr z)) hL (ok_tl (ok_tl hS)) hσ p l e s m args below meth c A D cI cZ ad C H locs ls hP hD hV hl)
theorem WP.goto {G : MG} {M : MI} {pc : Nat} {L : List (Option MV)} {S : List MV} {σ : Mem} {Q : Int → Mem → Prop} {off : Int} {tgt : Nat} (d : decode (m_c M) pc = .ok (.goto off, 3)) (ht : (pc : Int) + off = (tgt : Int)) (k : WP G M tgt L S σ Q) : WP G M pc L S σ Q := by
  intro hL hS hσ p l e s m args below meth c A D cI cZ ad C H locs ls hP hD hV hl
  obtain ⟨hx, hb, hml, hown, hts, hlocks, hr, hK, hA, hN⟩ := id C
  exact lv_goto hx hb d ht (k hL hS hσ p l e s m args below meth c A D cI cZ ad C H locs ls hP hD hV hl)
theorem WP.iinc {G : MG} {M : MI} {pc : Nat} {L : List (Option MV)} {S : List MV} {σ : Mem} {Q : Int → Mem → Prop} {i : Nat} {n x : Int} {L2 : List (Option MV)} (d : decode (m_c M) pc = .ok (.iinc i n, 3)) (hi : i < m_n M) (h0 : L[i]? = some (some (mi x))) (hn : R32 n) (h : mst L i (mi (jadd x n)) = L2) (k : WP G M (pc + 3) L2 S σ Q) : WP G M pc L S σ Q := by
  intro hL hS hσ p l e s m args below meth c A D cI cZ ad C H locs ls hP hD hV hl
  obtain ⟨hx, hb, hml, hown, hts, hlocks, hr, hK, hA, hN⟩ := id C
  subst h
  obtain ⟨kx, hkx⟩ := List.getElem?_of_mem (mlist_in (ad := ad) h0)
  exact lv_iinc (v := Int32.ofInt (jadd x n)) hx hb d (mlh_has hl) hkx (o_iadd x n).symm hi rfl (fun ls2 hl2 => k (ok_mst hL i (r32_of _)) hS hσ p l e s m args below meth c A D cI cZ ad C H locs ls2 hP hD hV (mst_has (v := mi (jadd x n)) hl2))
theorem WP.tsw_at {G : MG} {M : MI} {pc : Nat} {L : List (Option MV)} {S : List MV} {σ : Mem} {Q : Int → Mem → Prop} {dflt lo hi : Int} {offs : Array Int} {len : Nat} {a off v : Int} {tgt : Nat} (d : decode (m_c M) pc = .ok (.tableswitch dflt lo hi offs, len)) (hv : a = v) (h1 : ¬ v < lo) (h2 : ¬ hi < v) (ho : offs[(v - lo).toNat]? = some off) (ht : (pc : Int) + off = (tgt : Int)) (k : WP G M tgt L S σ Q) : WP G M pc L (mi a :: S) σ Q := by
  intro hL hS hσ p l e s m args below meth c A D cI cZ ad C H locs ls hP hD hV hl
  obtain ⟨hx, hb, hml, hown, hts, hlocks, hr, hK, hA, hN⟩ := id C
  have ha : R32 a := ok_hd hS
  subst hv
  exact lv_tableIn hx hb d (by rw [r32_lo ha]; exact h1) (by rw [r32_lo ha]; exact h2) (by rw [r32_lo ha]; exact ho) ht (k hL (ok_tl hS) hσ p l e s m args below meth c A D cI cZ ad C H locs ls hP hD hV hl)
theorem WP.tsw_out {G : MG} {M : MI} {pc : Nat} {L : List (Option MV)} {S : List MV} {σ : Mem} {Q : Int → Mem → Prop} {dflt lo hi : Int} {offs : Array Int} {len : Nat} {a : Int} {tgt : Nat} (d : decode (m_c M) pc = .ok (.tableswitch dflt lo hi offs, len)) (h : a < lo ∨ hi < a) (ht : (pc : Int) + dflt = (tgt : Int)) (k : WP G M tgt L S σ Q) : WP G M pc L (mi a :: S) σ Q := by
  intro hL hS hσ p l e s m args below meth c A D cI cZ ad C H locs ls hP hD hV hl
  obtain ⟨hx, hb, hml, hown, hts, hlocks, hr, hK, hA, hN⟩ := id C
  have ha : R32 a := ok_hd hS
  exact lv_tableOut hx hb d (by rw [r32_lo ha]; exact h) ht (k hL (ok_tl hS) hσ p l e s m args below meth c A D cI cZ ad C H locs ls hP hD hV hl)
theorem WP.lsw {G : MG} {M : MI} {pc : Nat} {L : List (Option MV)} {S : List MV} {σ : Mem} {Q : Int → Mem → Prop} {dflt : Int} {ps : Array (Int × Int)} {len : Nat} {a off : Int} {tgt : Nat} (d : decode (m_c M) pc = .ok (.lookupswitch dflt ps, len)) (hp : (ps.toList.zip (ps.toList.drop 1)).all (fun (a, next) => a.1 < next.1) = true) (ho : Op.lookupswitch.offset ps.toList dflt a = off) (ht : (pc : Int) + off = (tgt : Int)) (k : WP G M tgt L S σ Q) : WP G M pc L (mi a :: S) σ Q := by
  intro hL hS hσ p l e s m args below meth c A D cI cZ ad C H locs ls hP hD hV hl
  obtain ⟨hx, hb, hml, hown, hts, hlocks, hr, hK, hA, hN⟩ := id C
  have ha : R32 a := ok_hd hS
  exact lv_lookup hx hb d hp (by rw [r32_lo ha]; exact ho) ht (k hL (ok_tl hS) hσ p l e s m args below meth c A D cI cZ ad C H locs ls hP hD hV hl)
theorem WP.drop {G : MG} {M : MI} {pc : Nat} {L : List (Option MV)} {S : List MV} {σ : Mem} {Q : Int → Mem → Prop} (i : Nat) {L2 : List (Option MV)} (h : L.set i none = L2) (k : WP G M pc L2 S σ Q) : WP G M pc L S σ Q := by
  intro hL hS hσ p l e s m args below meth c A D cI cZ ad C H locs ls hP hD hV hl
  obtain ⟨hx, hb, hml, hown, hts, hlocks, hr, hK, hA, hN⟩ := id C
  subst h
  refine k (fun v hv => ?_) hS hσ p l e s m args below meth c A D cI cZ ad C H locs ls hP hD hV ⟨hl.1, hl.2.1, fun j w hw => ?_⟩
  · rcases List.mem_or_eq_of_mem_set hv with h1 | h1
    · exact hL v h1
    · cases h1
  · by_cases hj : j = i
    · subst hj
      by_cases hq : j < L.length
      · rw [List.getElem?_set_self hq] at hw; cases hw
      · rw [List.getElem?_eq_none (by rw [List.length_set]; omega)] at hw; cases hw
    · rw [List.getElem?_set_ne (Ne.symm hj)] at hw
      exact hl.2.2 j w hw
theorem WP.rng {G : MG} {M : MI} {pc : Nat} {L : List (Option MV)} {S : List MV} {σ : Mem} {Q : Int → Mem → Prop} (k : (∀ v, some v ∈ L → mok v) → (∀ v ∈ S, mok v) → mokm σ → WP G M pc L S σ Q) : WP G M pc L S σ Q := fun hL hS hσ => k hL hS hσ hL hS hσ
