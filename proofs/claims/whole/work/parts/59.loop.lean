/-! the law's loop; the law from its entry -/
theorem jand31 (t : Int) : 0 ≤ jand t 31 ∧ jand t 31 < 32 := by
  unfold jand
  rw [pk_and (Int32.ofInt t) 5 (m := Int32.ofInt 31) (by decide), nI_toInt (by omega)]
  omega
theorem law_loop {b L : Nat} {xs : Nat → Int32} {D : va_G} {cI cZ : ClassId} {ad1 ad2 : Nat → Nat} (hL : L ≤ 3072) : ∀ (m : Nat) (i : Int) (σ τ : Mem), 0 ≤ i → i ≤ 3078 → (L : Int) < i + m → RR σ τ → mokm σ → mokm τ → LWP b L xs D cI cZ 18 (lvI b ad1 ad2 i) [] 73 2430 (mws cI cZ ad1 GC σ ++ mws cI cZ ad2 GM τ) := by
  intro m
  induction m with
  | zero =>
    intro i σ τ i0 i1 hm hR hσ hτ
    refine LWP.iload_n dL_law_18 rfl lvI_a.1 (LWP.aload_n dL_law_19 rfl lvI_a.2 (LWP.slen dL_law_20 (LWP.bipush dL_law_21 (by decide) (LWP.isub dL_law_23 (LWP.icmp_gt (tgt := 1211) dL_law_24 (by decide) ⟨by omega, by omega⟩ ⟨by omega, by omega⟩ (fun _ => ?_) (fun z => absurd (by omega) z))))))
    exact LWP.ret (Nat.le_refl _) (Nat.le_refl _) dL_law_1211 dL_law_1212
  | succ m ih =>
    intro i σ τ i0 i1 hm hR hσ hτ
    refine LWP.iload_n dL_law_18 rfl lvI_a.1 (LWP.aload_n dL_law_19 rfl lvI_a.2 (LWP.slen dL_law_20 (LWP.bipush dL_law_21 (by decide) (LWP.isub dL_law_23 (LWP.icmp_gt (tgt := 1211) dL_law_24 (by decide) ⟨by omega, by omega⟩ ⟨by omega, by omega⟩ (fun _ => ?_) (fun z => ?_))))))
    · exact LWP.ret (Nat.le_refl _) (Nat.le_refl _) dL_law_1211 dL_law_1212
    have hi : 0 ≤ i ∧ i + 6 ≤ L := by omega
    have next : ∀ σ' τ', RR σ' τ' → mokm σ' → mokm τ' → LWP b L xs D cI cZ 1205 (lvI b ad1 ad2 i) [] 73 2430 (mws cI cZ ad1 GC σ' ++ mws cI cZ ad2 GM τ') := by
      intro σ' τ' h1 h2 h3
      refine LWP.iinc (k2 := 0) (v := Int32.ofInt (i + 6)) (lv' := lvI b ad1 ad2 (i + 6)) dL_law_1205 rfl (by rw [Int32.ofInt_add]) (by decide) rfl ?_
      exact LWP.goto (tgt := 18) dL_law_1208 (by decide) (ih (i + 6) σ' τ' (by omega) (by omega) (by omega) h1 h2 h3)
    refine LWP.aload_n dL_law_27 rfl lvI_a.2 (LWP.iload_n dL_law_28 rfl lvI_a.1 (LWP.sld dL_law_29 (by omega) hL (LWP.bipush dL_law_30 (by decide) (LWP.iand dL_law_32 ?_))))
    have hv := jand31 (sx xs i)
    generalize jand (sx xs i) 31 = v at hv ⊢
    rcases (by omega : v = 0 ∨ v = 1 ∨ v = 2 ∨ v = 3 ∨ v = 4 ∨ v = 5 ∨ v = 6 ∨ v = 7 ∨ v = 8 ∨ v = 9 ∨ v = 10 ∨ v = 11 ∨ v = 12 ∨ v = 13 ∨ v = 14 ∨ v = 15 ∨ v = 16 ∨ v = 17 ∨ v = 18 ∨ v = 19 ∨ v = 20 ∨ v = 21 ∨ v = 22 ∨ v = 23 ∨ v = 24 ∨ v = 25 ∨ v = 26 ∨ v = 27 ∨ v = 28 ∨ v = 29 ∨ v = 30 ∨ v = 31) with rfl | rfl | rfl | rfl | rfl | rfl | rfl | rfl | rfl | rfl | rfl | rfl | rfl | rfl | rfl | rfl | rfl | rfl | rfl | rfl | rfl | rfl | rfl | rfl | rfl | rfl | rfl | rfl | rfl | rfl | rfl | rfl
    · exact LWP.tabIn (tgt := 172) dL_law_33 ⟨by decide, by decide⟩ (by decide) (by decide) rfl (by decide) (lc_coat hi hL hR hσ hτ next)
    · exact LWP.tabIn (tgt := 215) dL_law_33 ⟨by decide, by decide⟩ (by decide) (by decide) rfl (by decide) (lc_thing hi hL hR hσ hτ next)
    · exact LWP.tabIn (tgt := 248) dL_law_33 ⟨by decide, by decide⟩ (by decide) (by decide) rfl (by decide) (lc_where hi hL hR hσ hτ next)
    · exact LWP.tabIn (tgt := 271) dL_law_33 ⟨by decide, by decide⟩ (by decide) (by decide) rfl (by decide) (lc_told hi hL hR hσ hτ next)
    · exact LWP.tabIn (tgt := 304) dL_law_33 ⟨by decide, by decide⟩ (by decide) (by decide) rfl (by decide) (lc_of hi hL hR hσ hτ next)
    · exact LWP.tabIn (tgt := 337) dL_law_33 ⟨by decide, by decide⟩ (by decide) (by decide) rfl (by decide) (lc_hole hi hL hR hσ hτ next)
    · exact LWP.tabIn (tgt := 370) dL_law_33 ⟨by decide, by decide⟩ (by decide) (by decide) rfl (by decide) (lc_type hi hL hR hσ hτ next)
    · exact LWP.tabIn (tgt := 433) dL_law_33 ⟨by decide, by decide⟩ (by decide) (by decide) rfl (by decide) (lc_school hi hL hR hσ hτ next)
    · exact LWP.tabIn (tgt := 446) dL_law_33 ⟨by decide, by decide⟩ (by decide) (by decide) rfl (by decide) (lc_day hi hL hR hσ hτ next)
    · exact LWP.tabIn (tgt := 459) dL_law_33 ⟨by decide, by decide⟩ (by decide) (by decide) rfl (by decide) (lc_count hi hL hR hσ hτ next)
    · exact LWP.tabIn (tgt := 482) dL_law_33 ⟨by decide, by decide⟩ (by decide) (by decide) rfl (by decide) (lc_put hi hL hR hσ hτ next)
    · exact LWP.tabIn (tgt := 515) dL_law_33 ⟨by decide, by decide⟩ (by decide) (by decide) rfl (by decide) (lc_take hi hL hR hσ hτ next)
    · exact LWP.tabIn (tgt := 548) dL_law_33 ⟨by decide, by decide⟩ (by decide) (by decide) rfl (by decide) (lc_search hi hL hR hσ hτ next)
    · exact LWP.tabIn (tgt := 571) dL_law_33 ⟨by decide, by decide⟩ (by decide) (by decide) rfl (by decide) (lc_give hi hL hR hσ hτ next)
    · exact LWP.tabIn (tgt := 604) dL_law_33 ⟨by decide, by decide⟩ (by decide) (by decide) rfl (by decide) (lc_bell hi hL hR hσ hτ next)
    · exact LWP.tabIn (tgt := 617) dL_law_33 ⟨by decide, by decide⟩ (by decide) (by decide) rfl (by decide) (lc_reach hi hL hR hσ hτ next)
    · exact LWP.tabIn (tgt := 660) dL_law_33 ⟨by decide, by decide⟩ (by decide) (by decide) rfl (by decide) (lc_soonest hi hL hR hσ hτ next)
    · exact LWP.tabIn (tgt := 713) dL_law_33 ⟨by decide, by decide⟩ (by decide) (by decide) rfl (by decide) (lc_dealt hi hL hR hσ hτ next)
    · exact LWP.tabIn (tgt := 766) dL_law_33 ⟨by decide, by decide⟩ (by decide) (by decide) rfl (by decide) (lc_wore hi hL hR hσ hτ next)
    · exact LWP.tabIn (tgt := 799) dL_law_33 ⟨by decide, by decide⟩ (by decide) (by decide) rfl (by decide) (lc_owe hi hL hR hσ hτ next)
    · exact LWP.tabIn (tgt := 842) dL_law_33 ⟨by decide, by decide⟩ (by decide) (by decide) rfl (by decide) (lc_balance hi hL hR hσ hτ next)
    · exact LWP.tabIn (tgt := 865) dL_law_33 ⟨by decide, by decide⟩ (by decide) (by decide) rfl (by decide) (lc_payments hi hL hR hσ hτ next)
    · exact LWP.tabIn (tgt := 878) dL_law_33 ⟨by decide, by decide⟩ (by decide) (by decide) rfl (by decide) (lc_seed hi hL hR hσ hτ next)
    · exact LWP.tabIn (tgt := 901) dL_law_33 ⟨by decide, by decide⟩ (by decide) (by decide) rfl (by decide) (lc_image hi hL hR hσ hτ next)
    · exact LWP.tabIn (tgt := 914) dL_law_33 ⟨by decide, by decide⟩ (by decide) (by decide) rfl (by decide) (lc_restore hi hL hR hσ hτ next)
    · exact LWP.tabIn (tgt := 927) dL_law_33 ⟨by decide, by decide⟩ (by decide) (by decide) rfl (by decide) (lc_owes hi hL hR hσ hτ next)
    · exact LWP.tabIn (tgt := 980) dL_law_33 ⟨by decide, by decide⟩ (by decide) (by decide) rfl (by decide) (lc_film hi hL hR hσ hτ next)
    · exact LWP.tabIn (tgt := 1023) dL_law_33 ⟨by decide, by decide⟩ (by decide) (by decide) rfl (by decide) (lc_sheet hi hL hR hσ hτ next)
    · exact LWP.tabIn (tgt := 1066) dL_law_33 ⟨by decide, by decide⟩ (by decide) (by decide) rfl (by decide) (lc_drop hi hL hR hσ hτ next)
    · exact LWP.tabIn (tgt := 1089) dL_law_33 ⟨by decide, by decide⟩ (by decide) (by decide) rfl (by decide) (lc_item hi hL hR hσ hτ next)
    · exact LWP.tabIn (tgt := 1142) dL_law_33 ⟨by decide, by decide⟩ (by decide) (by decide) rfl (by decide) (lc_copy hi hL hR hσ hτ next)
    · exact LWP.tabOut (tgt := 1205) dL_law_33 ⟨by decide, by decide⟩ (Or.inr (by decide)) (by decide) (next σ τ hR hσ hτ)
theorem ki_X8 : kini M_X8_init := ⟨tb_in 54 (by decide +kernel) rfl, tb_in 37 (by decide +kernel) rfl, tb_in 53 (by decide +kernel) rfl, ⟨by decide, by decide, by decide +kernel⟩, rfl, rfl⟩
theorem kcL_X8 : kcl R_law 7 8 [.null, .null, .int (Int32.ofInt 0), .null, .null, .null, .null, .null] := ⟨RX8, TX8, tyX8, rfl, tbX8, tyX8_ok, tb_in 50 (by decide +kernel) rfl, tb_in 51 (by decide +kernel) rfl, tb_in 37 (by decide +kernel) rfl, by decide⟩
theorem klL_X8 : Cond.methodLink R_law 9 yX8_init ∈ TBL := tb_in 52 (by decide +kernel) rfl
theorem ki_X9 : kini M_X9_init := ⟨tb_in 713 (by decide +kernel) rfl, tb_in 46 (by decide +kernel) rfl, tb_in 712 (by decide +kernel) rfl, ⟨by decide, by decide, by decide +kernel⟩, rfl, rfl⟩
theorem kcL_X9 : kcl R_law 10 9 [.null, .null, .null, .null, .int (Int32.ofInt 0), .null, .null, .null, .null, .int (Int32.ofInt 0), .null, .int (Int32.ofInt 0), .int (Int32.ofInt 0), .null, .int (Int32.ofInt 0), .int (Int32.ofInt 0), .int (Int32.ofInt 0), .null, .int (Int32.ofInt 0), .int (Int32.ofInt 0), .int (Int32.ofInt 0), .null, .null, .null, .null, .null, .int (Int32.ofInt 0), .null, .null, .null, .null, .null, .null] := ⟨RX9, TX9, tyX9, rfl, tbX9, tyX9_ok, tb_in 709 (by decide +kernel) rfl, tb_in 710 (by decide +kernel) rfl, tb_in 46 (by decide +kernel) rfl, by decide⟩
theorem klL_X9 : Cond.methodLink R_law 12 yX9_init ∈ TBL := tb_in 711 (by decide +kernel) rfl
theorem law_all {b L : Nat} {xs : Nat → Int32} {D : va_G} {cI cZ : ClassId} (hL : L ≤ 3072) : LWP b L xs D cI cZ 0 [(0, .ref b)] [] 0 0 [] := by
  refine LWP.new 8 [.null, .null, .int (Int32.ofInt 0), .null, .null, .null, .null, .null] kcL_X8 dL_law_0 (by decide) (by decide) (fun q1 => ?_)
  refine LWP.dup dL_law_3 ?_
  refine LWP.init (k := 1) (n := 8) (S := [.ref q1]) (w0 := []) M_X8_init 49 1161 k_X8 ki_X8 dL_law_4 klL_X8 ⟨by decide, by decide⟩ (Nat.le_of_ble_eq_true rfl) (by decide) (by decide) (fun w1 hw1 => ?_)
  obtain ⟨ad1, h1, rfl⟩ := hw1
  refine LWP.astore_n (i := 1) (lv' := [(1, .ref q1), (0, .ref b)]) dL_law_7 rfl (by decide) rfl ?_
  refine LWP.new 9 [.null, .null, .null, .null, .int (Int32.ofInt 0), .null, .null, .null, .null, .int (Int32.ofInt 0), .null, .int (Int32.ofInt 0), .int (Int32.ofInt 0), .null, .int (Int32.ofInt 0), .int (Int32.ofInt 0), .int (Int32.ofInt 0), .null, .int (Int32.ofInt 0), .int (Int32.ofInt 0), .int (Int32.ofInt 0), .null, .null, .null, .null, .null, .int (Int32.ofInt 0), .null, .null, .null, .null, .null, .null] kcL_X9 dL_law_8 (by decide) (by decide) (fun q2 => ?_)
  refine LWP.dup dL_law_11 ?_
  refine LWP.init (k := 51) (n := 1202) (S := [.ref q2]) (w0 := [] ++ mws cI cZ ad1 GC sz) M_X9_init 22 1228 k_X9 ki_X9 dL_law_12 klL_X9 ⟨by decide, by decide⟩ (Nat.le_of_ble_eq_true rfl) (by decide) (by decide) (fun w2 hw2 => ?_)
  obtain ⟨ad2, h2, rfl⟩ := hw2
  refine LWP.astore_n (i := 2) (lv' := [(2, .ref q2), (1, .ref q1), (0, .ref b)]) dL_law_15 rfl (by decide) rfl ?_
  refine LWP.iconst dL_law_16 ?_
  refine LWP.istore_n (i := 3) (lv' := [(3, .int (Int32.ofInt 0)), (2, .ref q2), (1, .ref q1), (0, .ref b)]) dL_law_17 rfl (by decide) rfl ?_
  refine LWP.lvs (lvI b ad1 ad2 0) (fun q hq => ?_) (LWP.wide (by decide) (by decide) ?_)
  · simp only [lvI, List.mem_cons, List.not_mem_nil, or_false] at hq ⊢
    rw [h1, h2] at hq
    rcases hq with h | h | h | h
    · exact Or.inl h
    · exact Or.inr (Or.inr (Or.inr h))
    · exact Or.inr (Or.inr (Or.inl h))
    · exact Or.inr (Or.inl h)
  · exact law_loop hL (L + 1) 0 sz tz (by decide) (by decide) (by omega) RR_0 mok_0.1 mok_0.2
