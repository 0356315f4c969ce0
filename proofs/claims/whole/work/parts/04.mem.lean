/-! fields, arrays, calls, returns over WP -/
def mfd (own : String) (idx ci j : Nat) : Prop := ∃ (C : String) (T : u_T) (N : Nat), vwCl[ci]? = some (C, T, N) ∧ j < N ∧ (∀ w ∈ u_ws C T N, w ∈ TBL) ∧ Cond.fieldLink own idx C (T j).2.1 (T j).2.2.1 ∈ TBL ∧ (T j).1 = C
def mfp (own : String) (idx ci j : Nat) (ty : FieldType) : Prop := ∃ (C : String) (T : u_T) (N : Nat) (tt : Nat → FieldType), vwCl[ci]? = some (C, T, N) ∧ j < N ∧ (∀ w ∈ u_ws C T N, w ∈ TBL) ∧ Cond.fieldLink own idx C (T j).2.1 (T j).2.2.1 ∈ TBL ∧ (T j).1 = C ∧ (∀ k, k < N → parseFieldDescriptor (T k).2.2.1 = some (tt k)) ∧ (∀ a, a < N → ∀ b, b < N → a ≠ b → (T a).2.1 ≠ (T b).2.1) ∧ (T j).2.2.2 = false ∧ parseFieldDescriptor (T j).2.2.1 = some ty
theorem mupd_at {σ : Mem} {k : Nat} {i v : Int} : mupd σ k i v k i = v := by simp [mupd]
theorem mupd_rp {σ : Mem} {k q : Nat} {i v j : Int} (h : q ≠ k) : mupd σ k i v q j = σ q j := by simp [mupd, h]
theorem mupd_ri {σ : Mem} {k : Nat} {i v j : Int} (h : j ≠ i) : mupd σ k i v k j = σ k j := by simp [mupd, h]
theorem mcpy_rp {σ : Mem} {k0 k1 q : Nat} {sp dp n j : Int} (h : q ≠ k1) : mcpy σ k0 sp k1 dp n q j = σ q j := by simp [mcpy, h]
theorem mfld_at {ad : Nat → Nat} {σ : Mem} {k j : Nat} {fs : List (Option Nat)} {o : Option Nat} (h : fs[j]? = some o) : (fs.zipIdx.map (mfld ad σ k))[j]? = some (mfld ad σ k (o, j)) := by
  simp [List.getElem?_zipIdx, h]
theorem mfld_set {ad : Nat → Nat} {σ : Mem} {k j : Nat} {x : Int} {fs : List (Option Nat)} (h : fs[j]? = some none) : (fs.zipIdx.map (mfld ad σ k)).set j (.int (Int32.ofInt x)) = fs.zipIdx.map (mfld ad (mupd σ k j x) k) := by
  apply List.ext_getElem?
  intro i
  by_cases hi : i = j
  · subst hi
    rw [List.getElem?_set_self (by simp; exact (List.getElem?_eq_some_iff.mp h).1), mfld_at h]
    simp [mfld, mupd]
  · have hi2 : ¬ (i : Int) = (j : Int) := by omega
    rw [List.getElem?_set_ne (Ne.symm hi)]
    cases hx : fs[i]? with
    | none => simp [List.getElem?_zipIdx, hx]
    | some o =>
      rw [mfld_at hx, mfld_at hx]
      cases o with
      | none => simp [mfld, mupd, hi2]
      | some q => rfl
theorem WP.getI {G : MG} {M : MI} {pc : Nat} {L : List (Option MV)} {S : List MV} {σ : Mem} {Q : Int → Mem → Prop} {idx ci j k : Nat} {fs : List (Option Nat)} (f : mfd (m_y M).cls idx ci j) (d : decode (m_c M) pc = .ok (.getfield idx, 3)) (hG : G[k]? = some (.inr (ci, fs))) (hj : fs[j]? = some none) {v : Int} (hv : σ k j = v)
    (kk : WP G M (pc + 3) L (mi v :: S) σ Q) : WP G M pc L (mr k :: S) σ Q := by
  subst hv
  intro hL hS hσ p l e s m args below meth c A D cI cZ ad C H locs ls hP hD hV hl
  obtain ⟨hx, hb, hml, hown, hts, hlocks, hr, hK, hA, hN⟩ := id C
  obtain ⟨Cn, T, N, f1, f2, f3, f4, f5⟩ := f
  exact va_get hx hb hts f3 hown hK hP k (mws_at hG) f1 j f2 (hts _ f4) (fun x h => by rw [f5] at h; exact h) (mfld_at hj) d (kk hL (ok_cons (hσ _ _) (ok_tl hS)) hσ p l e s m args below meth c A D cI cZ ad C H locs ls hP hD hV hl)
theorem WP.getR {G : MG} {M : MI} {pc : Nat} {L : List (Option MV)} {S : List MV} {σ : Mem} {Q : Int → Mem → Prop} {idx ci j k q : Nat} {fs : List (Option Nat)} (f : mfd (m_y M).cls idx ci j) (d : decode (m_c M) pc = .ok (.getfield idx, 3)) (hG : G[k]? = some (.inr (ci, fs))) (hj : fs[j]? = some (some q))
    (kk : WP G M (pc + 3) L (mr q :: S) σ Q) : WP G M pc L (mr k :: S) σ Q := by
  intro hL hS hσ p l e s m args below meth c A D cI cZ ad C H locs ls hP hD hV hl
  obtain ⟨hx, hb, hml, hown, hts, hlocks, hr, hK, hA, hN⟩ := id C
  obtain ⟨Cn, T, N, f1, f2, f3, f4, f5⟩ := f
  exact va_get hx hb hts f3 hown hK hP k (mws_at hG) f1 j f2 (hts _ f4) (fun x h => by rw [f5] at h; exact h) (mfld_at hj) d (kk hL (ok_cons trivial (ok_tl hS)) hσ p l e s m args below meth c A D cI cZ ad C H locs ls hP hD hV hl)
theorem WP.put {G : MG} {M : MI} {pc : Nat} {L : List (Option MV)} {S : List MV} {σ : Mem} {Q : Int → Mem → Prop} {idx ci j k : Nat} {fs : List (Option Nat)} {ty : FieldType} {x : Int} (f : mfp (m_y M).cls idx ci j ty) (d : decode (m_c M) pc = .ok (.putfield idx, 3)) (hG : G[k]? = some (.inr (ci, fs))) (hj : fs[j]? = some none)
    (hn : narrow ty (.int (Int32.ofInt x)) = .int (Int32.ofInt x)) (hf : fits ty (.int (Int32.ofInt x)) = true)
    (kk : WP G M (pc + 3) L S (mupd σ k j x) Q) : WP G M pc L (mi x :: mr k :: S) σ Q := by
  intro hL hS hσ p l e s m args below meth c A D cI cZ ad C H locs ls hP hD hV hl
  obtain ⟨hx, hb, hml, hown, hts, hlocks, hr, hK, hA, hN⟩ := id C
  obtain ⟨Cn, T, N, tt, f1, f2, f3, f4, f5, f6, f7, f8, f9⟩ := f
  have he : (mws cI cZ ad G σ).set k (ad k, .inr (ci, (fs.zipIdx.map (mfld ad σ k)).set j (.int (Int32.ofInt x)))) = mws cI cZ ad G (mupd σ k j x) :=
    mws_set hG (fun a h => mupd_ne a h) (by rw [mfld_set hj]; rfl)
  refine va_put hx hb hts f3 tt f6 f7 hown hK hP hD hV k (mws_at hG) f1 j f2 (hts _ f4) (fun x h => by rw [f5] at h; exact h) f8 f9 hn hf (by simp; exact (List.getElem?_eq_some_iff.mp hj).1) d (fun H1 locs1 hP1 hD1 hV1 => ?_)
  have hP2 : va_P D vwCl ((mws cI cZ ad G σ).set k (ad k, .inr (ci, (fs.zipIdx.map (mfld ad σ k)).set j (.int (Int32.ofInt x))))) H1 := hP1
  have hD2 : va_D A ((mws cI cZ ad G σ).set k (ad k, .inr (ci, (fs.zipIdx.map (mfld ad σ k)).set j (.int (Int32.ofInt x))))) := hD1
  rw [he] at hP2 hD2
  exact kk hL (ok_tl (ok_tl hS)) (mokm_upd hσ (ok_hd hS)) p l e s m args below meth c A D cI cZ ad C H1 locs1 ls hP2 hD2 hV1 hl
theorem w_in {i : Int} {n : Nat} (h : R32 i) (h0 : 0 ≤ i) (h1 : i < n) : vp_in (Int32.ofInt i) n := by
  rw [vp_in_iff, r32_lo h]; exact ⟨h0, h1⟩
theorem w_ix {i : Int} (h : R32 i) (h0 : 0 ≤ i) : (((Int32.ofInt i).toNatClampNeg : Nat) : Int) = i := by
  rw [Int32.toNatClampNeg_ofInt_of_le (by omega) (by omega)]; omega
theorem WP.iald {G : MG} {M : MI} {pc : Nat} {L : List (Option MV)} {S : List MV} {σ : Mem} {Q : Int → Mem → Prop} {k n : Nat} {i : Int} (d : decode (m_c M) pc = .ok (.iaload, 1)) (hG : G[k]? = some (.inl (false, n))) (hi : 0 ≤ i ∧ i < n)
    (kk : WP G M (pc + 1) L (mi (σ k i) :: S) σ Q) : WP G M pc L (mi i :: mr k :: S) σ Q := by
  intro hL hS hσ p l e s m args below meth c A D cI cZ ad C H locs ls hP hD hV hl
  obtain ⟨hx, hb, hml, hown, hts, hlocks, hr, hK, hA, hN⟩ := id C
  have hi32 : R32 i := ok_hd hS
  have k2 := kk hL (ok_cons (hσ _ _) (ok_tl (ok_tl hS))) hσ p l e s m args below meth c A D cI cZ ad C H locs ls hP hD hV hl
  refine va_iald hx hb hK hP k 0 (mws_at hG) rfl (w_in hi32 hi.1 hi.2) d ?_
  rw [w_ix hi32 hi.1]
  exact k2
theorem WP.zald {G : MG} {M : MI} {pc : Nat} {L : List (Option MV)} {S : List MV} {σ : Mem} {Q : Int → Mem → Prop} {k n : Nat} {i : Int} (d : decode (m_c M) pc = .ok (.baload, 1)) (hG : G[k]? = some (.inl (true, n))) (hi : 0 ≤ i ∧ i < n)
    (kk : WP G M (pc + 1) L (mi (σ k i) :: S) σ Q) : WP G M pc L (mi i :: mr k :: S) σ Q := by
  intro hL hS hσ p l e s m args below meth c A D cI cZ ad C H locs ls hP hD hV hl
  obtain ⟨hx, hb, hml, hown, hts, hlocks, hr, hK, hA, hN⟩ := id C
  have hi32 : R32 i := ok_hd hS
  have k2 := kk hL (ok_cons (hσ _ _) (ok_tl (ok_tl hS))) hσ p l e s m args below meth c A D cI cZ ad C H locs ls hP hD hV hl
  refine va_zald hx hb hK hP k 1 (mws_at hG) rfl (w_in hi32 hi.1 hi.2) d ?_
  rw [w_ix hi32 hi.1]
  exact k2
theorem w_upd {σ : Mem} {k : Nat} {i x : Int} (h : R32 i) (h0 : 0 ≤ i) : upd (fun j : Nat => Int32.ofInt (σ k j)) (Int32.ofInt i).toNatClampNeg (Int32.ofInt x) = fun j : Nat => Int32.ofInt (mupd σ k i x k j) := by
  funext j
  have e := w_ix h h0
  by_cases hj : j = (Int32.ofInt i).toNatClampNeg
  · subst hj
    simp [upd, mupd, e]
  · have hne : ¬ (j : Int) = i := by omega
    simp [upd, mupd, hj, hne]
theorem WP.iast {G : MG} {M : MI} {pc : Nat} {L : List (Option MV)} {S : List MV} {σ : Mem} {Q : Int → Mem → Prop} {k n : Nat} {i x : Int} (d : decode (m_c M) pc = .ok (.iastore, 1)) (hG : G[k]? = some (.inl (false, n))) (hi : 0 ≤ i ∧ i < n)
    (kk : WP G M (pc + 1) L S (mupd σ k i x) Q) : WP G M pc L (mi x :: mi i :: mr k :: S) σ Q := by
  intro hL hS hσ p l e s m args below meth c A D cI cZ ad C H locs ls hP hD hV hl
  obtain ⟨hx, hb, hml, hown, hts, hlocks, hr, hK, hA, hN⟩ := id C
  have hi32 : R32 i := ok_hd (ok_tl hS)
  refine va_iast hx hb hK hP hD hV k 0 (mws_at hG) rfl (w_in hi32 hi.1 hi.2) d (fun H1 locs1 hP1 hD1 hV1 => ?_)
  rw [w_upd hi32 hi.1] at hP1 hD1
  have he : (mws cI cZ ad G σ).set k (ad k, .inl (cI, n, .inl (fun j : Nat => Int32.ofInt (mupd σ k i x k j)))) = mws cI cZ ad G (mupd σ k i x) :=
    mws_set hG (fun a h => mupd_ne a h) rfl
  have hP2 : va_P D vwCl ((mws cI cZ ad G σ).set k (ad k, .inl (cI, n, .inl (fun j : Nat => Int32.ofInt (mupd σ k i x k j))))) H1 := hP1
  have hD2 : va_D A ((mws cI cZ ad G σ).set k (ad k, .inl (cI, n, .inl (fun j : Nat => Int32.ofInt (mupd σ k i x k j))))) := hD1
  rw [he] at hP2 hD2
  exact kk hL (ok_tl (ok_tl (ok_tl hS))) (mokm_upd hσ (ok_hd hS)) p l e s m args below meth c A D cI cZ ad C H1 locs1 ls hP2 hD2 hV1 hl
theorem WP.zast {G : MG} {M : MI} {pc : Nat} {L : List (Option MV)} {S : List MV} {σ : Mem} {Q : Int → Mem → Prop} {k n : Nat} {i x : Int} (d : decode (m_c M) pc = .ok (.bastore, 1)) (hG : G[k]? = some (.inl (true, n))) (hi : 0 ≤ i ∧ i < n) (hx01 : x = 0 ∨ x = 1)
    (kk : WP G M (pc + 1) L S (mupd σ k i x) Q) : WP G M pc L (mi x :: mi i :: mr k :: S) σ Q := by
  intro hL hS hσ p l e s m args below meth c A D cI cZ ad C H locs ls hP hD hV hl
  obtain ⟨hx, hb, hml, hown, hts, hlocks, hr, hK, hA, hN⟩ := id C
  have hi32 : R32 i := ok_hd (ok_tl hS)
  refine va_zast hx hb hK hP hD hV k 1 (mws_at hG) rfl (w_in hi32 hi.1 hi.2) d (fun H1 locs1 hP1 hD1 hV1 => ?_)
  have hnar : vp_nar .boolean (Int32.ofInt x) = Int32.ofInt x := by rcases hx01 with rfl | rfl <;> decide
  rw [hnar, w_upd hi32 hi.1] at hP1 hD1
  have he : (mws cI cZ ad G σ).set k (ad k, .inl (cZ, n, .inl (fun j : Nat => Int32.ofInt (mupd σ k i x k j)))) = mws cI cZ ad G (mupd σ k i x) :=
    mws_set hG (fun a h => mupd_ne a h) rfl
  have hP2 : va_P D vwCl ((mws cI cZ ad G σ).set k (ad k, .inl (cZ, n, .inl (fun j : Nat => Int32.ofInt (mupd σ k i x k j))))) H1 := hP1
  have hD2 : va_D A ((mws cI cZ ad G σ).set k (ad k, .inl (cZ, n, .inl (fun j : Nat => Int32.ofInt (mupd σ k i x k j))))) := hD1
  rw [he] at hP2 hD2
  exact kk hL (ok_tl (ok_tl (ok_tl hS))) (mokm_upd hσ (ok_hd hS)) p l e s m args below meth c A D cI cZ ad C H1 locs1 ls hP2 hD2 hV1 hl
theorem w_cats (ad : Nat → Nat) (S : List MV) : (S.map (mval ad)).map (fun v => v.category) = S.map mcat := by
  rw [List.map_map]
  exact List.map_congr_left fun v _ => mcat_val ad v
def mcpC (own : String) (idx : Nat) : Prop := Cond.methodLink own idx arraycopyName ∈ TBL ∧ Cond.native arraycopyName ∈ TBL ∧ Cond.static arraycopyName ∈ TBL ∧ Cond.initialized "java/lang/System" ∈ TBL
theorem WP.acopy {G : MG} {M : MI} {pc : Nat} {L : List (Option MV)} {S : List MV} {σ : Mem} {Q : Int → Mem → Prop} {idx k0 k1 n0 n1 : Nat} {sp dp n : Int} (f : mcpC (m_y M).cls idx) (d : decode (m_c M) pc = .ok (.invokestatic idx, 3)) (hG0 : G[k0]? = some (.inl (false, n0))) (hG1 : G[k1]? = some (.inl (false, n1)))
    (hi : 0 ≤ sp ∧ 0 ≤ dp ∧ 0 ≤ n ∧ sp + n ≤ n0 ∧ dp + n ≤ n1) (hf : 1 ≤ m_f M) (hlo : (S.map mcat).sum + 18 ≤ m_l M)
    (kk : WP G M (pc + 3) L S (mcpy σ k0 sp k1 dp n) Q) : WP G M pc L (mi n :: mi dp :: mr k1 :: mi sp :: mr k0 :: S) σ Q := by
  intro hL hS hσ p l e s m args below meth c A D cI cZ ad C H locs ls hP hD hV hl
  obtain ⟨hx, hb, hml, hown, hts, hlocks, hr, hK, hA, hN⟩ := id C
  have hn32 : R32 n := ok_hd hS
  have hd32 : R32 dp := ok_hd (ok_tl hS)
  have hs32 : R32 sp := ok_hd (ok_tl (ok_tl (ok_tl hS)))
  obtain ⟨i1, i2, i3, i4, i5⟩ := hi
  have e1 := w_ix hs32 i1
  have e2 := w_ix hd32 i2
  have e3 := w_ix hn32 i3
  refine va_copyi hx hb (hml.trans hl.1.symm) hown (hts _ f.1) (hts _ f.2.1) (hts _ f.2.2.1) (hts _ f.2.2.2) hK hP hD hV k0 k1 0 0 (mws_at hG0) (mws_at hG1) rfl rfl rfl (fun q => absurd ((w_lt0 hs32).mp q) (by omega)) (fun q => absurd ((w_lt0 hd32).mp q) (by omega)) (fun q => absurd ((w_lt0 hn32).mp q) (by omega)) (by omega) (by omega) (fun _ _ => rfl) hf (by rw [w_cats]; exact hlo) d (fun H1 locs1 hP1 hD1 hV1 => ?_)
  have ef : va_cpy (fun j : Nat => Int32.ofInt (σ k0 j)) (fun j : Nat => Int32.ofInt (σ k1 j)) (Int32.ofInt sp).toNatClampNeg (Int32.ofInt dp).toNatClampNeg (Int32.ofInt n).toNatClampNeg = fun j : Nat => Int32.ofInt (mcpy σ k0 sp k1 dp n k1 j) := by
    funext j
    unfold va_cpy mcpy
    by_cases hj : (Int32.ofInt dp).toNatClampNeg ≤ j ∧ j < (Int32.ofInt dp).toNatClampNeg + (Int32.ofInt n).toNatClampNeg
    · have e4 : (((Int32.ofInt sp).toNatClampNeg + (j - (Int32.ofInt dp).toNatClampNeg) : Nat) : Int) = sp + ((j : Int) - dp) := by omega
      rw [if_pos hj, if_pos ⟨rfl, by omega, by omega⟩, ← e4]
    · rw [if_neg hj, if_neg (fun z => hj (by omega))]
  rw [ef] at hP1 hD1
  have he : (mws cI cZ ad G σ).set k1 (ad k1, .inl (cI, n1, .inl (fun j : Nat => Int32.ofInt (mcpy σ k0 sp k1 dp n k1 j)))) = mws cI cZ ad G (mcpy σ k0 sp k1 dp n) :=
    mws_set hG1 (fun a h => mcpy_ne a h) rfl
  have hP2 : va_P D vwCl ((mws cI cZ ad G σ).set k1 (ad k1, .inl (cI, n1, .inl (fun j : Nat => Int32.ofInt (mcpy σ k0 sp k1 dp n k1 j))))) H1 := hP1
  have hD2 : va_D A ((mws cI cZ ad G σ).set k1 (ad k1, .inl (cI, n1, .inl (fun j : Nat => Int32.ofInt (mcpy σ k0 sp k1 dp n k1 j))))) := hD1
  rw [he] at hP2 hD2
  exact kk hL (ok_tl (ok_tl (ok_tl (ok_tl (ok_tl hS))))) (mokm_cpy hσ) p l e s m args below meth c A D cI cZ ad C H1 locs1 ls hP2 hD2 hV1 hl
def jmax (a b : Int) : Int := if a < b then b else a
def mmxC (own : String) (idx : Nat) : Prop := Cond.methodLink own idx Lib.Math.max.name ∈ TBL ∧ Cond.static Lib.Math.max.name ∈ TBL ∧ Cond.initialized "java/lang/Math" ∈ TBL ∧ Cond.code Lib.Math.max.name Lib.Math.max.code 2 (some .int) ∈ TBL
theorem WP.mmax {G : MG} {M : MI} {pc : Nat} {L : List (Option MV)} {S : List MV} {σ : Mem} {Q : Int → Mem → Prop} {idx : Nat} {a b : Int} (f : mmxC (m_y M).cls idx) (d : decode (m_c M) pc = .ok (.invokestatic idx, 3)) (hf : 1 ≤ m_f M) (hlo : (S.map mcat).sum + 13 ≤ m_l M)
    (kk : WP G M (pc + 3) L (mi (jmax a b) :: S) σ Q) : WP G M pc L (mi b :: mi a :: S) σ Q := by
  intro hL hS hσ p l e s m args below meth c A D cI cZ ad C H locs ls hP hD hV hl
  obtain ⟨hx, hb, hml, hown, hts, hlocks, hr, hK, hA, hN⟩ := id C
  have hb32 : R32 b := ok_hd hS
  have ha32 : R32 a := ok_hd (ok_tl hS)
  have hm32 : R32 (jmax a b) := by unfold jmax; split <;> assumption
  have k2 := kk hL (ok_cons hm32 (ok_tl (ok_tl hS))) hσ p l e s m args below meth c A D cI cZ ad C H locs ls hP hD hV hl
  refine va_mmax hx hb (hml.trans hl.1.symm) hown (hts _ f.1) (hts _ f.2.1) (hts _ f.2.2.1) (hts _ f.2.2.2) hf (by rw [w_cats]; exact hlo) (Nat.zero_le _) (Nat.zero_le _) d ?_
  have e : (if Int32.ofInt a < Int32.ofInt b then Int32.ofInt b else Int32.ofInt a) = Int32.ofInt (jmax a b) := by
    unfold jmax
    by_cases h : a < b
    · rw [if_pos h, if_pos ((w_lt ha32 hb32).mpr h)]
    · rw [if_neg h, if_neg (fun z => h ((w_lt ha32 hb32).mp z))]
  rw [e]
  exact k2
/-! calls -/
def mdesc (M : MI) (n : Nat) : Prop := (m_y M).cls ≠ "java/lang/invoke/MethodHandle" ∧ (m_y M).cls ≠ "java/lang/invoke/VarHandle" ∧ (parseMethodDescriptor (m_y M).desc).map (fun d => d.parameters.length) = some n
def mcv (M : MI) (n : Nat) : Prop := Cond.code (m_y M) (m_c M) (m_n M) (m_r M) ∈ TBL ∧ Cond.initialized (m_y M).cls ∈ TBL ∧ Cond.instanceMethod (m_y M) ∈ TBL ∧ Cond.selects (m_y M).cls (m_y M) (m_y M) ∈ TBL ∧ mdesc M n
def mcs (M : MI) (n : Nat) : Prop := Cond.code (m_y M) (m_c M) (m_n M) (m_r M) ∈ TBL ∧ Cond.initialized (m_y M).cls ∈ TBL ∧ Cond.static (m_y M) ∈ TBL ∧ mdesc M n
def mfit (M M' : MI) : Prop := m_f M' + 1 ≤ m_f M ∧ 8 + (m_n M' + 11) + m_l M' ≤ m_l M
theorem goodIn_M {M : MI} (h : Cond.code (m_y M) (m_c M) (m_n M) (m_r M) ∈ TBL) : GoodIn TBL (wsM M) := fun w hw => (List.mem_cons.mp hw).elim (fun z => by rw [z]; exact tb_good _ h) (fun z => tb_good w z)
theorem blind_M (as : List MV) (D : va_G) (cI cZ : ClassId) (ad : Nat → Nat) (G : MG) (sz : Nat) (σ : Mem) : FrameBlind (va_Pc (as.map (mval ad)) (mpre D cI cZ ad G sz σ)) := by
  intro a U g mk q
  obtain ⟨q1, q2, ⟨q3, q4, q5⟩, q6⟩ := q
  exact ⟨q1, q2, ⟨q3, va_K.moved (u := U) (U := U.calling g mk a) (Vm.Alike.refl U.vm) q4, q5⟩, mnest_same (u := U) (U := U.calling g mk a) rfl q6⟩
theorem w_push (ret : Option FieldType) (r : Int) (S : List MV) (ad : Nat → Nat) : (mpush ret r S).map (mval ad) = (mret ret r).toList ++ S.map (mval ad) := by
  cases ret <;> rfl
/-- behind a call -/
theorem WP.back {G : MG} {M M' : MI} {pc : Nat} {L : List (Option MV)} {S : List MV} {σ : Mem} {Q : Int → Mem → Prop} {p : Program} {l : Launch} {e : Env} {s : State} {m : MethodId} {args : Array Value} {below : List Frame} {meth : Method} {c : Code} {A : Nat → Prop} {D : va_G} {cI cZ : ClassId} {ad : Nat → Nat} {H : Heap} {locs : List Loc} {ls : Array Slot} {st0 : List Value} {a : Array Value}
    (hL : ∀ v, some v ∈ L → mok v) (hS : ∀ v ∈ S, mok v) (C : mcx M p s m args meth c A D cI cZ) (hP : va_P D vwCl (mws cI cZ ad G σ) H) (hD : va_D A (mws cI cZ ad G σ)) (hV : va_S A s.heap H locs) (hl : mlh ad ls (m_n M) L)
    (hr : va_Run p l e (mroom M) s m args below meth c H locs 0 0 0 0 (F0 m pc ls st0) (S.map (mval ad)) (mQ (m_r M') D cI cZ ad G (va_A (mws cI cZ ad G σ) H.size) (fun r σ1 => WP G M (pc + 3) L (mpush (m_r M') r S) σ1 Q) a) (va_A (mws cI cZ ad G σ) H.size)) :
    W p l e (mroom M) s m args below meth c H locs 0 0 (MQ below (mQ (m_r M) D cI cZ ad G A Q) args s 0 0 A) (F0 m pc ls st0) := by
  obtain ⟨hx, hb, hml, hown, hts, hlocks, hrt, hK, hA, hN⟩ := id C
  intro T hT X
  obtain ⟨v, st₀, t, T', Lo, h0, X', hLo, e1, e2, ⟨⟨r, σ1, hv, hr32, hσ1, hq, hw1, hw2, hw3⟩, hz, hk⟩, st⟩ := hr T hT X
  have hv2 : v = mret (m_r M') r := by injection hv
  subst hv2
  rw [h0] at hz hk
  have hAA : ∀ q, va_A (mws cI cZ ad G σ) H.size q → A q := by
    intro q hq
    rcases hq with ⟨k, z, hk⟩ | hq
    · exact hD.2 k _ hk
    · exact hA q (Nat.le_trans hV.1 hq)
  have hS1 : ∀ v ∈ mpush (m_r M') r S, mok v := by
    cases h : m_r M' with
    | none => exact hS
    | some ty => exact ok_cons hr32 hS
  have hV1 : va_S A s.heap T'.heap (locs ++ Lo) :=
    ⟨Nat.le_trans hV.1 (by rw [e1]; exact hz), fun q h1 h2 => by rw [e1, hk q (Nat.lt_of_lt_of_le h1 hV.1) (fun z => h2 (hAA q z))]; exact hV.2.1 q h1 h2, fun q hq => by
      rcases List.mem_append.mp hq with h | h
      · exact hV.2.2 q h
      · exact hAA _ (hLo q h)⟩
  have k2 := hq hL hS1 hσ1 p l e s m args below meth c A D cI cZ ad C T'.heap (locs ++ Lo) ls (by rw [e1]; exact hw1) (hw3.weaken (fun _ _ _ h => hAA _ h)) hV1 hl
  rw [w_push] at k2
  obtain ⟨t2, a1, b1⟩ := k2 T' rfl X'
  exact ⟨t2, st t2 a1, b1⟩
theorem WP.callV {G : MG} {M : MI} (M' : MI) {pc : Nat} {L : List (Option MV)} {S S0 : List MV} {σ : Mem} {Q : Int → Mem → Prop} {idx k ci : Nat} {fs : List (Option Nat)} (As : List MV) (hc : mcv M' As.length) (d : decode (m_c M) pc = .ok (.invokevirtual idx, 3)) (hl0 : Cond.methodLink (m_y M).cls idx (m_y M') ∈ TBL)
    (hG : G[k]? = some (.inr (ci, fs))) (hcl : (vwCl[ci]?).map (fun q => q.1) = some (m_y M').cls) (hR : mfit M M') (hS0 : As.reverse ++ mr k :: S = S0) (hW : (S.map mcat).sum ≤ 8)
    (h : HT G M' (mr k :: As) σ (fun r σ1 => WP G M (pc + 3) L (mpush (m_r M') r S) σ1 Q)) : WP G M pc L S0 σ Q := by
  intro hL hS hσ p l e s m args below meth c A D cI cZ ad C H locs ls hP hD hV hl
  obtain ⟨hx, hb, hml, hown, hts, hlocks, hr, hK, hA, hN⟩ := id C
  obtain ⟨c1, c2, c3, c4, c5⟩ := hc
  subst hS0
  have hargs : ∀ v ∈ mr k :: As, mok v := ok_cons trivial (fun v hv => hS v (List.mem_append_left _ (List.mem_reverse.mpr hv)))
  have hM := h hargs hσ l D cI cZ ad H.size
  obtain ⟨q, hq, hq2⟩ : ∃ q, vwCl[ci]? = some q ∧ q.1 = (m_y M').cls := by
    cases hz : vwCl[ci]? with
    | none => rw [hz] at hcl; cases hcl
    | some q => rw [hz] at hcl; exact ⟨q, rfl, Option.some.inj hcl⟩
  have hrecv := va_recv hK hP hq (mws_at hG)
  rw [hq2] at hrecv
  refine WP.back (M' := M') hL (fun v hv => hS v (List.mem_append_right _ (List.mem_cons_of_mem _ hv))) C hP hD hV hl
    (va_runV (As := As.map (mval ad)) ⟨hx, hb, hml, hown, hts⟩ hM ⟨callB_of As.length hts (goodIn_M c1) rfl rfl rfl (hts _ c2) (hts _ hl0) c5 hR, hts _ c3, hts _ c4⟩
      ⟨blind_M (mr k :: As) D cI cZ ad G H.size σ, hrecv, fun U hU hW => ⟨rfl, by rw [hU], ⟨by rw [hU]; exact hP, va_K.moved hW.alike hK, hD.weaken (fun _ _ _ _ => trivial)⟩, mnest_warm hW hN⟩⟩
      rfl (by simp) hl.1 (by simp [mval]) (lv_room (by rw [w_cats]; exact hW)) d ⟨Nat.zero_le _, Nat.zero_le _⟩)
theorem WP.callS {G : MG} {M : MI} (M' : MI) {pc : Nat} {L : List (Option MV)} {S S0 : List MV} {σ : Mem} {Q : Int → Mem → Prop} {idx : Nat} (As : List MV) (hc : mcs M' As.length) (d : decode (m_c M) pc = .ok (.invokestatic idx, 3)) (hl0 : Cond.methodLink (m_y M).cls idx (m_y M') ∈ TBL)
    (hR : mfit M M') (hS0 : As.reverse ++ S = S0) (hW : (S.map mcat).sum ≤ 8)
    (h : HT G M' As σ (fun r σ1 => WP G M (pc + 3) L (mpush (m_r M') r S) σ1 Q)) : WP G M pc L S0 σ Q := by
  intro hL hS hσ p l e s m args below meth c A D cI cZ ad C H locs ls hP hD hV hl
  obtain ⟨hx, hb, hml, hown, hts, hlocks, hr, hK, hA, hN⟩ := id C
  obtain ⟨c1, c2, c3, c5⟩ := hc
  subst hS0
  have hM := h (fun v hv => hS v (List.mem_append_left _ (List.mem_reverse.mpr hv))) hσ l D cI cZ ad H.size
  refine WP.back (M' := M') hL (fun v hv => hS v (List.mem_append_right _ hv)) C hP hD hV hl
    (va_runS (As := As.map (mval ad)) ⟨hx, hb, hml, hown, hts⟩ hM ⟨callB_of As.length hts (goodIn_M c1) rfl rfl rfl (hts _ c2) (hts _ hl0) c5 hR, hts _ c3⟩
      ⟨blind_M As D cI cZ ad G H.size σ, fun U hU hW => ⟨rfl, by rw [hU], ⟨by rw [hU]; exact hP, va_K.moved hW.alike hK, hD.weaken (fun _ _ _ _ => trivial)⟩, mnest_warm hW hN⟩⟩
      rfl (by simp) hl.1 (by simp) (lv_room (by rw [w_cats]; exact hW)) d ⟨Nat.zero_le _, Nat.zero_le _⟩)
theorem WP.callSN {G : MG} {M : MI} (M' : MI) {pc : Nat} {L : List (Option MV)} {S S0 : List MV} {σ : Mem} {Q : Int → Mem → Prop} {idx : Nat} {host : String} (As : List MV) (hc : mcs M' As.length) (d : decode (m_c M) pc = .ok (.invokestatic idx, 3)) (hl0 : Cond.methodLinkNest (m_y M).cls idx (m_y M') host ∈ mNW)
    (hR : mfit M M') (hS0 : As.reverse ++ S = S0) (hW : (S.map mcat).sum ≤ 8)
    (h : HT G M' As σ (fun r σ1 => WP G M (pc + 3) L (mpush (m_r M') r S) σ1 Q)) : WP G M pc L S0 σ Q := by
  intro hL hS hσ p l e s m args below meth c A D cI cZ ad C H locs ls hP hD hV hl
  obtain ⟨hx, hb, hml, hown, hts, hlocks, hr, hK, hA, hN⟩ := id C
  obtain ⟨c1, c2, c3, c5⟩ := hc
  subst hS0
  have hM := h (fun v hv => hS v (List.mem_append_left _ (List.mem_reverse.mpr hv))) hσ l D cI cZ ad H.size
  refine WP.back (M' := M') hL (fun v hv => hS v (List.mem_append_right _ hv)) C hP hD hV hl
    (va_runSN (As := As.map (mval ad)) ⟨hx, hb, hml, hown, hts⟩ hM ⟨va_cnB As.length hts (goodIn_M c1) rfl rfl rfl (hN _ hl0) (hts _ c2) c5 hR, hts _ c3, trivial⟩
      ⟨blind_M As D cI cZ ad G H.size σ, fun U hU hW => ⟨rfl, by rw [hU], ⟨by rw [hU]; exact hP, va_K.moved hW.alike hK, hD.weaken (fun _ _ _ _ => trivial)⟩, mnest_warm hW hN⟩⟩
      rfl (by simp) hl.1 (by simp) (lv_room (by rw [w_cats]; exact hW)) d ⟨Nat.zero_le _, Nat.zero_le _⟩)
/-! returns -/
theorem WP.iret {G : MG} {M : MI} {pc : Nat} {L : List (Option MV)} {σ : Mem} {Q : Int → Mem → Prop} {x : Int} (hr0 : m_r M = some .int) (d : decode (m_c M) pc = .ok (.ireturn, 1)) (h : Q x σ) : WP G M pc L [mi x] σ Q := by
  intro hL hS hσ p l e s m args below meth c A D cI cZ ad C H locs ls hP hD hV hl
  obtain ⟨hx, hb, hml, hown, hts, hlocks, hr, hK, hA, hN⟩ := id C
  exact W.iret (v := Int32.ofInt x) hx hb (hr.trans hr0) (fun t ht hW => ⟨⟨x, σ, by rw [hr0]; rfl, ok_hd hS, hσ, h, by rw [ht]; exact hP, va_K.moved hW.alike hK, hD⟩, hV.F ht⟩) hV.2.2 d hlocks
theorem WP.zret {G : MG} {M : MI} {pc : Nat} {L : List (Option MV)} {σ : Mem} {Q : Int → Mem → Prop} {x : Int} (hr0 : m_r M = some .boolean) (d : decode (m_c M) pc = .ok (.ireturn, 1)) (h01 : x = 0 ∨ x = 1) (h : Q x σ) : WP G M pc L [mi x] σ Q := by
  intro hL hS hσ p l e s m args below meth c A D cI cZ ad C H locs ls hP hD hV hl
  obtain ⟨hx, hb, hml, hown, hts, hlocks, hr, hK, hA, hN⟩ := id C
  exact W.zret (v := Int32.ofInt x) hx hb (hr.trans hr0) (by rcases h01 with rfl | rfl <;> decide) (fun t ht hW => ⟨⟨x, σ, by rw [hr0]; rfl, ok_hd hS, hσ, h, by rw [ht]; exact hP, va_K.moved hW.alike hK, hD⟩, hV.F ht⟩) hV.2.2 d hlocks
theorem WP.vret {G : MG} {M : MI} {pc : Nat} {L : List (Option MV)} {σ : Mem} {Q : Int → Mem → Prop} (hr0 : m_r M = none) (d : decode (m_c M) pc = .ok (.return_, 1)) (h : Q 0 σ) : WP G M pc L [] σ Q := by
  intro hL hS hσ p l e s m args below meth c A D cI cZ ad C H locs ls hP hD hV hl
  obtain ⟨hx, hb, hml, hown, hts, hlocks, hr, hK, hA, hN⟩ := id C
  exact W.vret hx hb (hr.trans hr0) (fun t ht hW => ⟨⟨0, σ, by rw [hr0]; rfl, ⟨by decide, by decide⟩, hσ, h, by rw [ht]; exact hP, va_K.moved hW.alike hK, hD⟩, hV.F ht⟩) hV.2.2 d hlocks
