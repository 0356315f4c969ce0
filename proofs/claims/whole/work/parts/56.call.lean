/-! the law makes both, and calls them -/
theorem fm_of_map {ws : va_W} : ∀ (is : List Nat) (w' : va_W), is.map (fun i => ws[i]?) = w'.map some → is.filterMap (fun i => ws[i]?) = w'
  | [], w', h => by
    cases w' with
    | nil => rfl
    | cons x r => simp at h
  | i :: is, w', h => by
    cases w' with
    | nil => simp at h
    | cons x r =>
      simp only [List.map_cons, List.cons.injEq] at h
      rw [List.filterMap_cons, h.1]
      simp only [fm_of_map is r h.2]
theorem map_behind (w r : va_W) : (List.range' w.length r.length).map (fun i => (w ++ r)[i]?) = r.map some := by
  apply List.ext_getElem?
  intro i
  by_cases h : i < r.length
  · have e : (w ++ r)[w.length + i]? = r[i]? := by
      rw [List.getElem?_append_right (by omega), Nat.add_sub_cancel_left]
    simp [h, e, List.getElem?_range']
  · rw [List.getElem?_eq_none (by simp; omega), List.getElem?_eq_none (by simp; omega)]
theorem nd_range' : ∀ (m k : Nat), va_nd (List.range' k m) = true
  | 0, _ => rfl
  | m + 1, k => by
    simp only [List.range'_succ, va_nd, Bool.and_eq_true, decide_eq_true_eq]
    exact ⟨fun h => by have := List.mem_range'_1.mp h; omega, nd_range' m (k + 1)⟩
section LAW2
variable {b L : Nat} {xs : Nat → Int32} {D : va_G} {cI cZ : ClassId} {pc : Nat} {lv lv' : List (Nat × Value)} {S : List Value} {k n : Nat} {ws : va_W}
theorem LWP.new {idx : Nat} (ci : Nat) (f0 : List Value) (f : kcl R_law idx ci f0) (d : decode code pc = .ok (.new idx, 3)) (hc : k + 1 ≤ 73) (hs : n + f0.length ≤ 2430) (kk : ∀ q, LWP b L xs D cI cZ (pc + 3) lv (.ref q :: S) (k + 1) (n + f0.length) (ws ++ [(q, .inr (ci, f0))])) : LWP b L xs D cI cZ pc lv S k n ws := by
  intro p l e s m below meth c C hK H locs ls hP hD hS hl
  obtain ⟨hx, hb, hr, hml, hown, hts, hX, hbl, hlocks, hgv⟩ := id C
  obtain ⟨Cn, T, ty, f1, f2, f3, f4, f5, f6, f7⟩ := f
  have htb : ∀ w ∈ TBL, w.before #[Value.ref b] s = true := fun w hw => hts w (tb_sub w hw)
  exact va_new hx hb htb f2 ty f3 hown (htb _ f4) (htb _ f5) (htb _ f6) hK hP hD hS (fun _ h => h) f1 f7 hc hs d (fun q H1 hP1 hD1 hS1 => kk q p l e s m below meth c C hK H1 locs ls hP1 hD1 hS1 hl)
theorem LWP.init {w0 : va_W} {a idx ci : Nat} {f0 : List Value} (M' : MI) (mc' ms' : Nat) {Q' : ClassId → ClassId → Nat → va_W → Prop} (hT : KT M' mc' ms' ci f0 Q') (f : kini M') (d : decode code pc = .ok (.invokespecial idx, 3)) (hl0 : Cond.methodLink R_law idx (m_y M') ∈ TBL) (hR : m_f M' + 1 ≤ 9 ∧ 8 + (m_n M' + 11) + m_l M' ≤ 312) (hW : (S.map fun v => v.category).sum ≤ 8) (hc : k + mc' ≤ 73) (hs : n + ms' ≤ 2430) (kk : ∀ w1, Q' cI cZ a w1 → LWP b L xs D cI cZ (pc + 3) lv S (k + mc') (n + ms') (w0 ++ w1)) : LWP b L xs D cI cZ pc lv (.ref a :: S) k n (w0 ++ [(a, .inr (ci, f0))]) := by
  intro p l e s m below meth c C hK H locs ls hP hD hS hl
  obtain ⟨hx, hb, hr, hml, hown, hts, hX, hbl, hlocks, hgv⟩ := id C
  obtain ⟨c1, c2, c3, c4, c5, c6⟩ := f
  have htb : ∀ w ∈ TBL, w.before #[Value.ref b] s = true := fun w hw => hts w (tb_sub w hw)
  have hN := lw_knest C
  have hPc := hP.sub (ws' := [(a, .inr (ci, f0))]) [w0.length] (by simp)
  have hDc := hD.sub (ws' := [(a, .inr (ci, f0))]) [w0.length] rfl (map_last _ _)
  have hFc := va_free (wc := [(a, .inr (ci, f0))]) hD hS (fun _ h => h) [w0.length] (map_last _ _)
  have hG : GoodIn TBL (wsM M') := fun w hw => (List.mem_cons.mp hw).elim (fun z => by rw [z, c6]; exact tb_good _ c1) (fun z => tb_good w z)
  refine va_callv (va_runI (As := []) (rest := S) ⟨hx, hb, hml, hown, htb⟩ (hT l D cI cZ a H.size) ⟨callB_of 0 htb hG (by rw [show wsM M' = Cond.code (m_y M') (m_c M') (m_n M') (m_r M') :: TBL from rfl, c6]) rfl rfl (htb _ c2) (htb _ hl0) c4 hR, c5, htb _ c3⟩ ⟨kblind D cI cZ [.ref a] H.size _, fun U hU hW2 => ⟨rfl, by rw [hU], ⟨by rw [hU]; exact hPc, va_K.moved hW2.alike hK, hDc.weaken (fun _ _ _ _ => trivial)⟩, knest_warm hW2 hN⟩⟩ rfl rfl hl.1 rfl (lv_room hW) d ⟨hc, hs⟩) hS (fun q _ h => hFc q h) hFc (fun w1 t H1 locs1 ht hvm hw hB hz1 hk1 hS1 => ?_)
  obtain ⟨hP1, hK1, hD1⟩ := hB
  rw [ht] at hP1
  obtain ⟨hP2, hD2⟩ := va_join (wr := w0) (w1 := w1) hP hD [w0.length] (List.range w0.length) (map_last _ _) (map_range _ _) (nd_range _) (fun i hi hj => by
    have h1 := List.mem_range.mp hi
    have h2 := List.mem_singleton.mp hj
    omega) hk1 hFc hP1 hD1
  exact kk w1 hw p l e s m below meth c C hK H1 locs1 ls hP2 hD2 hS1 hl
theorem LWP.call {G : MG} {ad : Nat → Nat} {σ : Mem} {wr : va_W} {idx ci : Nat} {fs : List (Option Nat)} {S0 : List Value} {Q : Int → Mem → Prop} (M : MI) (As : List MV) (hc : mcv M As.length) (d : decode code pc = .ok (.invokevirtual idx, 3)) (hl0 : Cond.methodLink R_law idx (m_y M) ∈ TBL) (hG : G[0]? = some (.inr (ci, fs))) (hcl : (vwCl[ci]?).map (fun q => q.1) = some (m_y M).cls) (hR : m_f M + 1 ≤ 9 ∧ 8 + (m_n M + 11) + m_l M ≤ 312) (hret : m_r M = some .int) (hok : ∀ v ∈ As, mok v) (hσ : mokm σ) (h : HT G M (mr 0 :: As) σ Q) (hW : (S.map fun v => v.category).sum ≤ 8) (hS0 : (As.map (mval ad)).reverse ++ .ref (ad 0) :: S = S0) (kk : ∀ r σ', mokm σ' → Q r σ' → LWP b L xs D cI cZ (pc + 3) lv (.int (Int32.ofInt r) :: S) 73 2430 (wr ++ mws cI cZ ad G σ')) : LWP b L xs D cI cZ pc lv S0 73 2430 (mws cI cZ ad G σ ++ wr) := by
  intro p l e s m below meth c C hK H locs ls hP hD hS hl
  obtain ⟨hx, hb, hr, hml, hown, hts, hX, hbl, hlocks, hgv⟩ := id C
  obtain ⟨c1, c2, c3, c4, c5⟩ := hc
  subst hS0
  have htb : ∀ w ∈ TBL, w.before #[Value.ref b] s = true := fun w hw => hts w (tb_sub w hw)
  have hN := lw_mnest C
  have hargs : ∀ v ∈ mr 0 :: As, mok v := ok_cons trivial hok
  have hm1 := map_range (mws cI cZ ad G σ) wr
  have hPc := hP.sub (List.range (mws cI cZ ad G σ).length) (fm_of_map _ _ hm1)
  have hDc := hD.sub (List.range (mws cI cZ ad G σ).length) (nd_range _) hm1
  have hFc := va_free (wc := mws cI cZ ad G σ) hD hS (fun _ h => h) (List.range (mws cI cZ ad G σ).length) hm1
  have hM := h hargs hσ l D cI cZ ad H.size
  have hM2 : Met l (m_y M) (wsM M) (mroom M) (va_Pc ((mr 0 :: As).map (mval ad)) (mpre D cI cZ ad G H.size σ)) (va_Qi (fun (r : Int32) (u : Mem) => ∃ ri : Int, r = Int32.ofInt ri ∧ mokm u ∧ Q ri u) (fun u t => mwld D cI cZ ad G (va_A (mws cI cZ ad G σ) H.size) u t) (va_A (mws cI cZ ad G σ) H.size)) 0 0 (va_A (mws cI cZ ad G σ) H.size) := Met.imp' hM (by
    rintro a s o t ⟨⟨r, σ', h1, h2, h3, h4, h5⟩, h6⟩
    exact ⟨⟨Int32.ofInt r, σ', by rw [h1, hret]; rfl, ⟨r, rfl, h3, h4⟩, h5⟩, h6⟩)
  obtain ⟨q, hq, hq2⟩ : ∃ q, vwCl[ci]? = some q ∧ q.1 = (m_y M).cls := by
    cases hz : vwCl[ci]? with
    | none => rw [hz] at hcl; cases hcl
    | some q => rw [hz] at hcl; exact ⟨q, rfl, Option.some.inj hcl⟩
  have hrecv := va_recv hK hPc hq (mws_at hG)
  rw [hq2] at hrecv
  refine va_calli (va_runV (As := As.map (mval ad)) (rest := S) ⟨hx, hb, hml, hown, htb⟩ hM2 ⟨callB_of As.length htb (goodIn_M c1) rfl rfl rfl (htb _ c2) (htb _ hl0) c5 hR, htb _ c3, htb _ c4⟩
      ⟨blind_M (mr 0 :: As) D cI cZ ad G H.size σ, hrecv, fun U hU hW => ⟨rfl, by rw [hU], ⟨by rw [hU]; exact hPc, va_K.moved hW.alike hK, hDc.weaken (fun _ _ _ _ => trivial)⟩, mnest_warm hW hN⟩⟩
      rfl (by simp) hl.1 rfl (lv_room hW) d ⟨Nat.le_refl _, Nat.le_refl _⟩) hS (fun q _ h => hFc q h) hFc (fun r u t H1 locs1 ht hvm hw hB hz1 hk1 hS1 => ?_)
  obtain ⟨ri, rfl, hu, hq3⟩ := hw
  obtain ⟨hP1, hK1, hD1⟩ := hB
  rw [ht] at hP1
  obtain ⟨hP2, hD2⟩ := va_join (wr := wr) (w1 := mws cI cZ ad G u) hP hD (List.range (mws cI cZ ad G σ).length) (List.range' (mws cI cZ ad G σ).length wr.length) hm1 (map_behind _ _) (nd_range' _ _) (fun i hi hj => by
    have h1 := List.mem_range'_1.mp hi
    have h2 := List.mem_range.mp hj
    omega) hk1 hFc hP1 hD1
  exact kk ri u hu hq3 p l e s m below meth c C hK H1 locs1 ls hP2 hD2 hS1 hl
end LAW2
