/-! what each stretch of code does, by program -/
theorem dJ6_bitCount_0f7a4_0 : decode cJ6_bitCount_0f7a4 0 = .ok (.iload_n 0, 1) := by decide +kernel
theorem dJ6_bitCount_0f7a4_1 : decode cJ6_bitCount_0f7a4 1 = .ok (.iload_n 0, 1) := by decide +kernel
theorem dJ6_bitCount_0f7a4_2 : decode cJ6_bitCount_0f7a4 2 = .ok (.iconst 1, 1) := by decide +kernel
theorem dJ6_bitCount_0f7a4_3 : decode cJ6_bitCount_0f7a4 3 = .ok (.iushr, 1) := by decide +kernel
theorem dJ6_bitCount_0f7a4_4 : decode cJ6_bitCount_0f7a4 4 = .ok (.ldc_w 265, 3) := by decide +kernel
theorem dJ6_bitCount_0f7a4_7 : decode cJ6_bitCount_0f7a4 7 = .ok (.iand, 1) := by decide +kernel
theorem dJ6_bitCount_0f7a4_8 : decode cJ6_bitCount_0f7a4 8 = .ok (.isub, 1) := by decide +kernel
theorem dJ6_bitCount_0f7a4_9 : decode cJ6_bitCount_0f7a4 9 = .ok (.istore_n 0, 1) := by decide +kernel
theorem dJ6_bitCount_0f7a4_10 : decode cJ6_bitCount_0f7a4 10 = .ok (.iload_n 0, 1) := by decide +kernel
theorem dJ6_bitCount_0f7a4_11 : decode cJ6_bitCount_0f7a4 11 = .ok (.ldc_w 266, 3) := by decide +kernel
theorem dJ6_bitCount_0f7a4_14 : decode cJ6_bitCount_0f7a4 14 = .ok (.iand, 1) := by decide +kernel
theorem dJ6_bitCount_0f7a4_15 : decode cJ6_bitCount_0f7a4 15 = .ok (.iload_n 0, 1) := by decide +kernel
theorem dJ6_bitCount_0f7a4_16 : decode cJ6_bitCount_0f7a4 16 = .ok (.iconst 2, 1) := by decide +kernel
theorem dJ6_bitCount_0f7a4_17 : decode cJ6_bitCount_0f7a4 17 = .ok (.iushr, 1) := by decide +kernel
theorem dJ6_bitCount_0f7a4_18 : decode cJ6_bitCount_0f7a4 18 = .ok (.ldc_w 266, 3) := by decide +kernel
theorem dJ6_bitCount_0f7a4_21 : decode cJ6_bitCount_0f7a4 21 = .ok (.iand, 1) := by decide +kernel
theorem dJ6_bitCount_0f7a4_22 : decode cJ6_bitCount_0f7a4 22 = .ok (.iadd, 1) := by decide +kernel
theorem dJ6_bitCount_0f7a4_23 : decode cJ6_bitCount_0f7a4 23 = .ok (.istore_n 0, 1) := by decide +kernel
theorem dJ6_bitCount_0f7a4_24 : decode cJ6_bitCount_0f7a4 24 = .ok (.iload_n 0, 1) := by decide +kernel
theorem dJ6_bitCount_0f7a4_25 : decode cJ6_bitCount_0f7a4 25 = .ok (.iload_n 0, 1) := by decide +kernel
theorem dJ6_bitCount_0f7a4_26 : decode cJ6_bitCount_0f7a4 26 = .ok (.iconst 4, 1) := by decide +kernel
theorem dJ6_bitCount_0f7a4_27 : decode cJ6_bitCount_0f7a4 27 = .ok (.iushr, 1) := by decide +kernel
theorem dJ6_bitCount_0f7a4_28 : decode cJ6_bitCount_0f7a4 28 = .ok (.iadd, 1) := by decide +kernel
theorem dJ6_bitCount_0f7a4_29 : decode cJ6_bitCount_0f7a4 29 = .ok (.ldc_w 267, 3) := by decide +kernel
theorem dJ6_bitCount_0f7a4_32 : decode cJ6_bitCount_0f7a4 32 = .ok (.iand, 1) := by decide +kernel
theorem dJ6_bitCount_0f7a4_33 : decode cJ6_bitCount_0f7a4 33 = .ok (.istore_n 0, 1) := by decide +kernel
theorem dJ6_bitCount_0f7a4_34 : decode cJ6_bitCount_0f7a4 34 = .ok (.iload_n 0, 1) := by decide +kernel
theorem dJ6_bitCount_0f7a4_35 : decode cJ6_bitCount_0f7a4 35 = .ok (.iload_n 0, 1) := by decide +kernel
theorem dJ6_bitCount_0f7a4_36 : decode cJ6_bitCount_0f7a4 36 = .ok (.bipush 8, 2) := by decide +kernel
theorem dJ6_bitCount_0f7a4_38 : decode cJ6_bitCount_0f7a4 38 = .ok (.iushr, 1) := by decide +kernel
theorem dJ6_bitCount_0f7a4_39 : decode cJ6_bitCount_0f7a4 39 = .ok (.iadd, 1) := by decide +kernel
theorem dJ6_bitCount_0f7a4_40 : decode cJ6_bitCount_0f7a4 40 = .ok (.istore_n 0, 1) := by decide +kernel
theorem dJ6_bitCount_0f7a4_41 : decode cJ6_bitCount_0f7a4 41 = .ok (.iload_n 0, 1) := by decide +kernel
theorem dJ6_bitCount_0f7a4_42 : decode cJ6_bitCount_0f7a4 42 = .ok (.iload_n 0, 1) := by decide +kernel
theorem dJ6_bitCount_0f7a4_43 : decode cJ6_bitCount_0f7a4 43 = .ok (.bipush 16, 2) := by decide +kernel
theorem dJ6_bitCount_0f7a4_45 : decode cJ6_bitCount_0f7a4 45 = .ok (.iushr, 1) := by decide +kernel
theorem dJ6_bitCount_0f7a4_46 : decode cJ6_bitCount_0f7a4 46 = .ok (.iadd, 1) := by decide +kernel
theorem dJ6_bitCount_0f7a4_47 : decode cJ6_bitCount_0f7a4 47 = .ok (.istore_n 0, 1) := by decide +kernel
theorem dJ6_bitCount_0f7a4_48 : decode cJ6_bitCount_0f7a4 48 = .ok (.iload_n 0, 1) := by decide +kernel
theorem dJ6_bitCount_0f7a4_49 : decode cJ6_bitCount_0f7a4 49 = .ok (.bipush 63, 2) := by decide +kernel
theorem dJ6_bitCount_0f7a4_51 : decode cJ6_bitCount_0f7a4 51 = .ok (.iand, 1) := by decide +kernel
theorem dJ6_bitCount_0f7a4_52 : decode cJ6_bitCount_0f7a4 52 = .ok (.ireturn, 1) := by decide +kernel
set_option maxRecDepth 100000 in
set_option maxHeartbeats 4000000 in
theorem e_J6_bitCount_0f7a4 (x0 : Int) {σ : Mem} {Q : Int → Mem → Prop} (h : Q (jand (jadd (jadd (jand (jadd (jadd (jand (jsub x0 (jand (jushr x0 1) 1431655765)) 858993459) (jand (jushr (jsub x0 (jand (jushr x0 1) 1431655765)) 2) 858993459)) (jushr (jadd (jand (jsub x0 (jand (jushr x0 1) 1431655765)) 858993459) (jand (jushr (jsub x0 (jand (jushr x0 1) 1431655765)) 2) 858993459)) 4)) 252645135) (jushr (jand (jadd (jadd (jand (jsub x0 (jand (jushr x0 1) 1431655765)) 858993459) (jand (jushr (jsub x0 (jand (jushr x0 1) 1431655765)) 2) 858993459)) (jushr (jadd (jand (jsub x0 (jand (jushr x0 1) 1431655765)) 858993459) (jand (jushr (jsub x0 (jand (jushr x0 1) 1431655765)) 2) 858993459)) 4)) 252645135) 8)) (jushr (jadd (jand (jadd (jadd (jand (jsub x0 (jand (jushr x0 1) 1431655765)) 858993459) (jand (jushr (jsub x0 (jand (jushr x0 1) 1431655765)) 2) 858993459)) (jushr (jadd (jand (jsub x0 (jand (jushr x0 1) 1431655765)) 858993459) (jand (jushr (jsub x0 (jand (jushr x0 1) 1431655765)) 2) 858993459)) 4)) 252645135) (jushr (jand (jadd (jadd (jand (jsub x0 (jand (jushr x0 1) 1431655765)) 858993459) (jand (jushr (jsub x0 (jand (jushr x0 1) 1431655765)) 2) 858993459)) (jushr (jadd (jand (jsub x0 (jand (jushr x0 1) 1431655765)) 858993459) (jand (jushr (jsub x0 (jand (jushr x0 1) 1431655765)) 2) 858993459)) 4)) 252645135) 8)) 16)) 63) σ) : HT GC M_J6_bitCount_0f7a4 [mi x0] σ Q := by
  refine HT.of pn_J6 (Nat.le_of_ble_eq_true rfl) ?_
  show WP GC M_J6_bitCount_0f7a4 0 [some (mi x0)] [] σ Q
  refine WP.iload_n dJ6_bitCount_0f7a4_0 rfl ?_
  refine WP.iload_n dJ6_bitCount_0f7a4_1 rfl ?_
  refine WP.iconst dJ6_bitCount_0f7a4_2 (by decide) ?_
  refine WP.iushr dJ6_bitCount_0f7a4_3 ?_
  refine WP.ldcw (x := 1431655765) dJ6_bitCount_0f7a4_4 ct_J6_265 (by decide) (by decide) ?_
  refine WP.iand dJ6_bitCount_0f7a4_7 ?_
  refine WP.isub dJ6_bitCount_0f7a4_8 ?_
  refine WP.istore_n (L2 := [some (mi (jsub x0 (jand (jushr x0 1) 1431655765)))]) dJ6_bitCount_0f7a4_9 (by decide) rfl ?_
  refine WP.iload_n dJ6_bitCount_0f7a4_10 rfl ?_
  refine WP.ldcw (x := 858993459) dJ6_bitCount_0f7a4_11 ct_J6_266 (by decide) (by decide) ?_
  refine WP.iand dJ6_bitCount_0f7a4_14 ?_
  refine WP.iload_n dJ6_bitCount_0f7a4_15 rfl ?_
  refine WP.iconst dJ6_bitCount_0f7a4_16 (by decide) ?_
  refine WP.iushr dJ6_bitCount_0f7a4_17 ?_
  refine WP.ldcw (x := 858993459) dJ6_bitCount_0f7a4_18 ct_J6_266 (by decide) (by decide) ?_
  refine WP.iand dJ6_bitCount_0f7a4_21 ?_
  refine WP.iadd dJ6_bitCount_0f7a4_22 ?_
  refine WP.istore_n (L2 := [some (mi (jadd (jand (jsub x0 (jand (jushr x0 1) 1431655765)) 858993459) (jand (jushr (jsub x0 (jand (jushr x0 1) 1431655765)) 2) 858993459)))]) dJ6_bitCount_0f7a4_23 (by decide) rfl ?_
  refine WP.iload_n dJ6_bitCount_0f7a4_24 rfl ?_
  refine WP.iload_n dJ6_bitCount_0f7a4_25 rfl ?_
  refine WP.iconst dJ6_bitCount_0f7a4_26 (by decide) ?_
  refine WP.iushr dJ6_bitCount_0f7a4_27 ?_
  refine WP.iadd dJ6_bitCount_0f7a4_28 ?_
  refine WP.ldcw (x := 252645135) dJ6_bitCount_0f7a4_29 ct_J6_267 (by decide) (by decide) ?_
  refine WP.iand dJ6_bitCount_0f7a4_32 ?_
  refine WP.istore_n (L2 := [some (mi (jand (jadd (jadd (jand (jsub x0 (jand (jushr x0 1) 1431655765)) 858993459) (jand (jushr (jsub x0 (jand (jushr x0 1) 1431655765)) 2) 858993459)) (jushr (jadd (jand (jsub x0 (jand (jushr x0 1) 1431655765)) 858993459) (jand (jushr (jsub x0 (jand (jushr x0 1) 1431655765)) 2) 858993459)) 4)) 252645135))]) dJ6_bitCount_0f7a4_33 (by decide) rfl ?_
  refine WP.iload_n dJ6_bitCount_0f7a4_34 rfl ?_
  refine WP.iload_n dJ6_bitCount_0f7a4_35 rfl ?_
  refine WP.bipush dJ6_bitCount_0f7a4_36 (by decide) bp_8 ?_
  refine WP.iushr dJ6_bitCount_0f7a4_38 ?_
  refine WP.iadd dJ6_bitCount_0f7a4_39 ?_
  refine WP.istore_n (L2 := [some (mi (jadd (jand (jadd (jadd (jand (jsub x0 (jand (jushr x0 1) 1431655765)) 858993459) (jand (jushr (jsub x0 (jand (jushr x0 1) 1431655765)) 2) 858993459)) (jushr (jadd (jand (jsub x0 (jand (jushr x0 1) 1431655765)) 858993459) (jand (jushr (jsub x0 (jand (jushr x0 1) 1431655765)) 2) 858993459)) 4)) 252645135) (jushr (jand (jadd (jadd (jand (jsub x0 (jand (jushr x0 1) 1431655765)) 858993459) (jand (jushr (jsub x0 (jand (jushr x0 1) 1431655765)) 2) 858993459)) (jushr (jadd (jand (jsub x0 (jand (jushr x0 1) 1431655765)) 858993459) (jand (jushr (jsub x0 (jand (jushr x0 1) 1431655765)) 2) 858993459)) 4)) 252645135) 8)))]) dJ6_bitCount_0f7a4_40 (by decide) rfl ?_
  refine WP.iload_n dJ6_bitCount_0f7a4_41 rfl ?_
  refine WP.iload_n dJ6_bitCount_0f7a4_42 rfl ?_
  refine WP.bipush dJ6_bitCount_0f7a4_43 (by decide) bp_16 ?_
  refine WP.iushr dJ6_bitCount_0f7a4_45 ?_
  refine WP.iadd dJ6_bitCount_0f7a4_46 ?_
  refine WP.istore_n (L2 := [some (mi (jadd (jadd (jand (jadd (jadd (jand (jsub x0 (jand (jushr x0 1) 1431655765)) 858993459) (jand (jushr (jsub x0 (jand (jushr x0 1) 1431655765)) 2) 858993459)) (jushr (jadd (jand (jsub x0 (jand (jushr x0 1) 1431655765)) 858993459) (jand (jushr (jsub x0 (jand (jushr x0 1) 1431655765)) 2) 858993459)) 4)) 252645135) (jushr (jand (jadd (jadd (jand (jsub x0 (jand (jushr x0 1) 1431655765)) 858993459) (jand (jushr (jsub x0 (jand (jushr x0 1) 1431655765)) 2) 858993459)) (jushr (jadd (jand (jsub x0 (jand (jushr x0 1) 1431655765)) 858993459) (jand (jushr (jsub x0 (jand (jushr x0 1) 1431655765)) 2) 858993459)) 4)) 252645135) 8)) (jushr (jadd (jand (jadd (jadd (jand (jsub x0 (jand (jushr x0 1) 1431655765)) 858993459) (jand (jushr (jsub x0 (jand (jushr x0 1) 1431655765)) 2) 858993459)) (jushr (jadd (jand (jsub x0 (jand (jushr x0 1) 1431655765)) 858993459) (jand (jushr (jsub x0 (jand (jushr x0 1) 1431655765)) 2) 858993459)) 4)) 252645135) (jushr (jand (jadd (jadd (jand (jsub x0 (jand (jushr x0 1) 1431655765)) 858993459) (jand (jushr (jsub x0 (jand (jushr x0 1) 1431655765)) 2) 858993459)) (jushr (jadd (jand (jsub x0 (jand (jushr x0 1) 1431655765)) 858993459) (jand (jushr (jsub x0 (jand (jushr x0 1) 1431655765)) 2) 858993459)) 4)) 252645135) 8)) 16)))]) dJ6_bitCount_0f7a4_47 (by decide) rfl ?_
  refine WP.iload_n dJ6_bitCount_0f7a4_48 rfl ?_
  refine WP.bipush dJ6_bitCount_0f7a4_49 (by decide) bp_63 ?_
  refine WP.iand dJ6_bitCount_0f7a4_51 ?_
  exact WP.iret rfl dJ6_bitCount_0f7a4_52 h
theorem dX0_open_0 : decode cX0_open 0 = .ok (.aload_n 0, 1) := by decide +kernel
theorem dX0_open_1 : decode cX0_open 1 = .ok (.getfield 24, 3) := by decide +kernel
theorem dX0_open_4 : decode cX0_open 4 = .ok (.iconst 4, 1) := by decide +kernel
theorem dX0_open_5 : decode cX0_open 5 = .ok (.if_icmp .ge 23, 3) := by decide +kernel
theorem dX0_open_8 : decode cX0_open 8 = .ok (.aload_n 0, 1) := by decide +kernel
theorem dX0_open_9 : decode cX0_open 9 = .ok (.getfield 15, 3) := by decide +kernel
theorem dX0_open_12 : decode cX0_open 12 = .ok (.aload_n 0, 1) := by decide +kernel
theorem dX0_open_13 : decode cX0_open 13 = .ok (.getfield 24, 3) := by decide +kernel
theorem dX0_open_16 : decode cX0_open 16 = .ok (.iconst 0, 1) := by decide +kernel
theorem dX0_open_17 : decode cX0_open 17 = .ok (.iastore, 1) := by decide +kernel
theorem dX0_open_18 : decode cX0_open 18 = .ok (.aload_n 0, 1) := by decide +kernel
theorem dX0_open_19 : decode cX0_open 19 = .ok (.getfield 18, 3) := by decide +kernel
theorem dX0_open_22 : decode cX0_open 22 = .ok (.aload_n 0, 1) := by decide +kernel
theorem dX0_open_23 : decode cX0_open 23 = .ok (.getfield 24, 3) := by decide +kernel
theorem dX0_open_26 : decode cX0_open 26 = .ok (.iconst 0, 1) := by decide +kernel
theorem dX0_open_27 : decode cX0_open 27 = .ok (.iastore, 1) := by decide +kernel
theorem dX0_open_28 : decode cX0_open 28 = .ok (.return_, 1) := by decide +kernel
set_option maxRecDepth 100000 in
set_option maxHeartbeats 4000000 in
theorem e_X0_open_3 {σ : Mem} {Q : Int → Mem → Prop} (h : (4 ≤ σ 3 0 → Q 0 σ) ∧ (¬ 4 ≤ σ 3 0 → (0 ≤ σ 3 0 ∧ σ 3 0 < 4) ∧ ((0 ≤ σ 3 0 ∧ σ 3 0 < 4) ∧ (Q 0 (mupd (mupd σ 5 (σ 3 0) 0) 6 (σ 3 0) 0))))) : HT GC M_X0_open [mr 3] σ Q := by
  refine HT.of pn_X0 (Nat.le_of_ble_eq_true rfl) ?_
  show WP GC M_X0_open 0 [some (mr 3)] [] σ Q
  refine WP.aload_n dX0_open_0 rfl ?_
  refine WP.getI (v := σ 3 0) fd_X0_24 dX0_open_1 g3 rfl rfl ?_
  refine WP.iconst dX0_open_4 (by decide) ?_
  refine WP.icmp_ge (tgt := 28) dX0_open_5 (by decide) (fun q => ?_) (fun q => ?_)
  · have h := h.1 q
    exact WP.vret rfl dX0_open_28 h
  · have h := h.2 q
    refine WP.aload_n dX0_open_8 rfl ?_
    refine WP.getR fd_X0_15 dX0_open_9 g3 rfl ?_
    refine WP.aload_n dX0_open_12 rfl ?_
    refine WP.getI (v := σ 3 0) fd_X0_24 dX0_open_13 g3 rfl rfl ?_
    refine WP.iconst dX0_open_16 (by decide) ?_
    obtain ⟨hi, h⟩ := h
    refine WP.iast dX0_open_17 g5 hi ?_
    refine WP.aload_n dX0_open_18 rfl ?_
    refine WP.getR fd_X0_18 dX0_open_19 g3 rfl ?_
    refine WP.aload_n dX0_open_22 rfl ?_
    refine WP.getI (v := σ 3 0) fd_X0_24 dX0_open_23 g3 rfl (mupd_rp (by decide)) ?_
    refine WP.iconst dX0_open_26 (by decide) ?_
    obtain ⟨hi, h⟩ := h
    refine WP.iast dX0_open_27 g6 hi ?_
    exact WP.vret rfl dX0_open_28 h
theorem dX0_close_0 : decode cX0_close 0 = .ok (.aload_n 0, 1) := by decide +kernel
theorem dX0_close_1 : decode cX0_close 1 = .ok (.getfield 24, 3) := by decide +kernel
theorem dX0_close_4 : decode cX0_close 4 = .ok (.iconst 4, 1) := by decide +kernel
theorem dX0_close_5 : decode cX0_close 5 = .ok (.if_icmp .ge 23, 3) := by decide +kernel
theorem dX0_close_8 : decode cX0_close 8 = .ok (.aload_n 0, 1) := by decide +kernel
theorem dX0_close_9 : decode cX0_close 9 = .ok (.getfield 21, 3) := by decide +kernel
theorem dX0_close_12 : decode cX0_close 12 = .ok (.aload_n 0, 1) := by decide +kernel
theorem dX0_close_13 : decode cX0_close 13 = .ok (.getfield 24, 3) := by decide +kernel
theorem dX0_close_16 : decode cX0_close 16 = .ok (.iload_n 1, 1) := by decide +kernel
theorem dX0_close_17 : decode cX0_close 17 = .ok (.iastore, 1) := by decide +kernel
theorem dX0_close_18 : decode cX0_close 18 = .ok (.aload_n 0, 1) := by decide +kernel
theorem dX0_close_19 : decode cX0_close 19 = .ok (.dup, 1) := by decide +kernel
theorem dX0_close_20 : decode cX0_close 20 = .ok (.getfield 24, 3) := by decide +kernel
theorem dX0_close_23 : decode cX0_close 23 = .ok (.iconst 1, 1) := by decide +kernel
theorem dX0_close_24 : decode cX0_close 24 = .ok (.iadd, 1) := by decide +kernel
theorem dX0_close_25 : decode cX0_close 25 = .ok (.putfield 24, 3) := by decide +kernel
theorem dX0_close_28 : decode cX0_close 28 = .ok (.return_, 1) := by decide +kernel
set_option maxRecDepth 100000 in
set_option maxHeartbeats 4000000 in
theorem e_X0_close_3 (x1 : Int) {σ : Mem} {Q : Int → Mem → Prop} (h : (4 ≤ σ 3 0 → Q 0 σ) ∧ (¬ 4 ≤ σ 3 0 → (0 ≤ σ 3 0 ∧ σ 3 0 < 4) ∧ (Q 0 (mupd (mupd σ 7 (σ 3 0) x1) 3 0 (jadd (σ 3 0) 1))))) : HT GC M_X0_close [mr 3, mi x1] σ Q := by
  refine HT.of pn_X0 (Nat.le_of_ble_eq_true rfl) ?_
  show WP GC M_X0_close 0 [some (mr 3), some (mi x1)] [] σ Q
  refine WP.aload_n dX0_close_0 rfl ?_
  refine WP.getI (v := σ 3 0) fd_X0_24 dX0_close_1 g3 rfl rfl ?_
  refine WP.iconst dX0_close_4 (by decide) ?_
  refine WP.icmp_ge (tgt := 28) dX0_close_5 (by decide) (fun q => ?_) (fun q => ?_)
  · have h := h.1 q
    exact WP.vret rfl dX0_close_28 h
  · have h := h.2 q
    refine WP.aload_n dX0_close_8 rfl ?_
    refine WP.getR fd_X0_21 dX0_close_9 g3 rfl ?_
    refine WP.aload_n dX0_close_12 rfl ?_
    refine WP.getI (v := σ 3 0) fd_X0_24 dX0_close_13 g3 rfl rfl ?_
    refine WP.iload_n dX0_close_16 rfl ?_
    obtain ⟨hi, h⟩ := h
    refine WP.iast dX0_close_17 g7 hi ?_
    refine WP.aload_n dX0_close_18 rfl ?_
    refine WP.dup dX0_close_19 rfl ?_
    refine WP.getI (v := σ 3 0) fd_X0_24 dX0_close_20 g3 rfl (mupd_rp (by decide)) ?_
    refine WP.iconst dX0_close_23 (by decide) ?_
    refine WP.iadd dX0_close_24 ?_
    refine WP.put fp_X0_24 dX0_close_25 g3 rfl rfl rfl ?_
    exact WP.vret rfl dX0_close_28 h
theorem dX0_join_0 : decode cX0_join 0 = .ok (.aload_n 0, 1) := by decide +kernel
theorem dX0_join_1 : decode cX0_join 1 = .ok (.getfield 24, 3) := by decide +kernel
theorem dX0_join_4 : decode cX0_join 4 = .ok (.iconst 4, 1) := by decide +kernel
theorem dX0_join_5 : decode cX0_join 5 = .ok (.if_icmp .ge 51, 3) := by decide +kernel
theorem dX0_join_8 : decode cX0_join 8 = .ok (.aload_n 0, 1) := by decide +kernel
theorem dX0_join_9 : decode cX0_join 9 = .ok (.getfield 15, 3) := by decide +kernel
theorem dX0_join_12 : decode cX0_join 12 = .ok (.aload_n 0, 1) := by decide +kernel
theorem dX0_join_13 : decode cX0_join 13 = .ok (.getfield 24, 3) := by decide +kernel
theorem dX0_join_16 : decode cX0_join 16 = .ok (.iaload, 1) := by decide +kernel
theorem dX0_join_17 : decode cX0_join 17 = .ok (.iconst 4, 1) := by decide +kernel
theorem dX0_join_18 : decode cX0_join 18 = .ok (.if_icmp .ge 38, 3) := by decide +kernel
theorem dX0_join_21 : decode cX0_join 21 = .ok (.aload_n 0, 1) := by decide +kernel
theorem dX0_join_22 : decode cX0_join 22 = .ok (.getfield 9, 3) := by decide +kernel
theorem dX0_join_25 : decode cX0_join 25 = .ok (.aload_n 0, 1) := by decide +kernel
theorem dX0_join_26 : decode cX0_join 26 = .ok (.getfield 24, 3) := by decide +kernel
theorem dX0_join_29 : decode cX0_join 29 = .ok (.iconst 4, 1) := by decide +kernel
theorem dX0_join_30 : decode cX0_join 30 = .ok (.imul, 1) := by decide +kernel
theorem dX0_join_31 : decode cX0_join 31 = .ok (.aload_n 0, 1) := by decide +kernel
theorem dX0_join_32 : decode cX0_join 32 = .ok (.getfield 15, 3) := by decide +kernel
theorem dX0_join_35 : decode cX0_join 35 = .ok (.aload_n 0, 1) := by decide +kernel
theorem dX0_join_36 : decode cX0_join 36 = .ok (.getfield 24, 3) := by decide +kernel
theorem dX0_join_39 : decode cX0_join 39 = .ok (.iaload, 1) := by decide +kernel
theorem dX0_join_40 : decode cX0_join 40 = .ok (.iadd, 1) := by decide +kernel
theorem dX0_join_41 : decode cX0_join 41 = .ok (.iload_n 1, 1) := by decide +kernel
theorem dX0_join_42 : decode cX0_join 42 = .ok (.iastore, 1) := by decide +kernel
theorem dX0_join_43 : decode cX0_join 43 = .ok (.aload_n 0, 1) := by decide +kernel
theorem dX0_join_44 : decode cX0_join 44 = .ok (.getfield 15, 3) := by decide +kernel
theorem dX0_join_47 : decode cX0_join 47 = .ok (.aload_n 0, 1) := by decide +kernel
theorem dX0_join_48 : decode cX0_join 48 = .ok (.getfield 24, 3) := by decide +kernel
theorem dX0_join_51 : decode cX0_join 51 = .ok (.dup2, 1) := by decide +kernel
theorem dX0_join_52 : decode cX0_join 52 = .ok (.iaload, 1) := by decide +kernel
theorem dX0_join_53 : decode cX0_join 53 = .ok (.iconst 1, 1) := by decide +kernel
theorem dX0_join_54 : decode cX0_join 54 = .ok (.iadd, 1) := by decide +kernel
theorem dX0_join_55 : decode cX0_join 55 = .ok (.iastore, 1) := by decide +kernel
theorem dX0_join_56 : decode cX0_join 56 = .ok (.return_, 1) := by decide +kernel
set_option maxRecDepth 100000 in
set_option maxHeartbeats 4000000 in
theorem e_X0_join_3 (x1 : Int) {σ : Mem} {Q : Int → Mem → Prop} (h : (4 ≤ σ 3 0 → Q 0 σ) ∧ (¬ 4 ≤ σ 3 0 → (0 ≤ σ 3 0 ∧ σ 3 0 < 4) ∧ ((4 ≤ σ 5 (σ 3 0) → Q 0 σ) ∧ (¬ 4 ≤ σ 5 (σ 3 0) → (0 ≤ σ 3 0 ∧ σ 3 0 < 4) ∧ ((0 ≤ jadd (jmul (σ 3 0) 4) (σ 5 (σ 3 0)) ∧ jadd (jmul (σ 3 0) 4) (σ 5 (σ 3 0)) < 16) ∧ ((0 ≤ σ 3 0 ∧ σ 3 0 < 4) ∧ ((0 ≤ σ 3 0 ∧ σ 3 0 < 4) ∧ (Q 0 (mupd (mupd σ 4 (jadd (jmul (σ 3 0) 4) (σ 5 (σ 3 0))) x1) 5 (σ 3 0) (jadd (σ 5 (σ 3 0)) 1)))))))))) : HT GC M_X0_join [mr 3, mi x1] σ Q := by
  refine HT.of pn_X0 (Nat.le_of_ble_eq_true rfl) ?_
  show WP GC M_X0_join 0 [some (mr 3), some (mi x1)] [] σ Q
  refine WP.aload_n dX0_join_0 rfl ?_
  refine WP.getI (v := σ 3 0) fd_X0_24 dX0_join_1 g3 rfl rfl ?_
  refine WP.iconst dX0_join_4 (by decide) ?_
  refine WP.icmp_ge (tgt := 56) dX0_join_5 (by decide) (fun q => ?_) (fun q => ?_)
  · have h := h.1 q
    exact WP.vret rfl dX0_join_56 h
  · have h := h.2 q
    refine WP.aload_n dX0_join_8 rfl ?_
    refine WP.getR fd_X0_15 dX0_join_9 g3 rfl ?_
    refine WP.aload_n dX0_join_12 rfl ?_
    refine WP.getI (v := σ 3 0) fd_X0_24 dX0_join_13 g3 rfl rfl ?_
    obtain ⟨hi, h⟩ := h
    refine WP.iald dX0_join_16 g5 hi ?_
    refine WP.iconst dX0_join_17 (by decide) ?_
    refine WP.icmp_ge (tgt := 56) dX0_join_18 (by decide) (fun q => ?_) (fun q => ?_)
    · have h := h.1 q
      exact WP.vret rfl dX0_join_56 h
    · have h := h.2 q
      refine WP.aload_n dX0_join_21 rfl ?_
      refine WP.getR fd_X0_9 dX0_join_22 g3 rfl ?_
      refine WP.aload_n dX0_join_25 rfl ?_
      refine WP.getI (v := σ 3 0) fd_X0_24 dX0_join_26 g3 rfl rfl ?_
      refine WP.iconst dX0_join_29 (by decide) ?_
      refine WP.imul dX0_join_30 ?_
      refine WP.aload_n dX0_join_31 rfl ?_
      refine WP.getR fd_X0_15 dX0_join_32 g3 rfl ?_
      refine WP.aload_n dX0_join_35 rfl ?_
      refine WP.getI (v := σ 3 0) fd_X0_24 dX0_join_36 g3 rfl rfl ?_
      obtain ⟨hi, h⟩ := h
      refine WP.iald dX0_join_39 g5 hi ?_
      refine WP.iadd dX0_join_40 ?_
      refine WP.iload_n dX0_join_41 rfl ?_
      obtain ⟨hi, h⟩ := h
      refine WP.iast dX0_join_42 g4 hi ?_
      refine WP.aload_n dX0_join_43 rfl ?_
      refine WP.getR fd_X0_15 dX0_join_44 g3 rfl ?_
      refine WP.aload_n dX0_join_47 rfl ?_
      refine WP.getI (v := σ 3 0) fd_X0_24 dX0_join_48 g3 rfl (mupd_rp (by decide)) ?_
      refine WP.dup2 dX0_join_51 rfl rfl ?_
      obtain ⟨hi, h⟩ := h
      refine WP.iald dX0_join_52 g5 hi ?_
      refine WP.topI (y := σ 5 (σ 3 0)) (mupd_rp (by decide)) ?_
      refine WP.iconst dX0_join_53 (by decide) ?_
      refine WP.iadd dX0_join_54 ?_
      obtain ⟨hi, h⟩ := h
      refine WP.iast dX0_join_55 g5 hi ?_
      exact WP.vret rfl dX0_join_56 h
theorem dX6_add_0 : decode cX6_add 0 = .ok (.aload_n 0, 1) := by decide +kernel
theorem dX6_add_1 : decode cX6_add 1 = .ok (.getfield 9, 3) := by decide +kernel
theorem dX6_add_4 : decode cX6_add 4 = .ok (.aload_n 0, 1) := by decide +kernel
theorem dX6_add_5 : decode cX6_add 5 = .ok (.getfield 24, 3) := by decide +kernel
theorem dX6_add_8 : decode cX6_add 8 = .ok (.iload_n 1, 1) := by decide +kernel
theorem dX6_add_9 : decode cX6_add 9 = .ok (.iastore, 1) := by decide +kernel
theorem dX6_add_10 : decode cX6_add 10 = .ok (.aload_n 0, 1) := by decide +kernel
theorem dX6_add_11 : decode cX6_add 11 = .ok (.getfield 15, 3) := by decide +kernel
theorem dX6_add_14 : decode cX6_add 14 = .ok (.aload_n 0, 1) := by decide +kernel
theorem dX6_add_15 : decode cX6_add 15 = .ok (.getfield 24, 3) := by decide +kernel
theorem dX6_add_18 : decode cX6_add 18 = .ok (.iload_n 2, 1) := by decide +kernel
theorem dX6_add_19 : decode cX6_add 19 = .ok (.iastore, 1) := by decide +kernel
theorem dX6_add_20 : decode cX6_add 20 = .ok (.aload_n 0, 1) := by decide +kernel
theorem dX6_add_21 : decode cX6_add 21 = .ok (.getfield 18, 3) := by decide +kernel
theorem dX6_add_24 : decode cX6_add 24 = .ok (.aload_n 0, 1) := by decide +kernel
theorem dX6_add_25 : decode cX6_add 25 = .ok (.getfield 24, 3) := by decide +kernel
theorem dX6_add_28 : decode cX6_add 28 = .ok (.iconst 0, 1) := by decide +kernel
theorem dX6_add_29 : decode cX6_add 29 = .ok (.iastore, 1) := by decide +kernel
theorem dX6_add_30 : decode cX6_add 30 = .ok (.aload_n 0, 1) := by decide +kernel
theorem dX6_add_31 : decode cX6_add 31 = .ok (.getfield 21, 3) := by decide +kernel
theorem dX6_add_34 : decode cX6_add 34 = .ok (.aload_n 0, 1) := by decide +kernel
theorem dX6_add_35 : decode cX6_add 35 = .ok (.getfield 24, 3) := by decide +kernel
theorem dX6_add_38 : decode cX6_add 38 = .ok (.bipush 8, 2) := by decide +kernel
theorem dX6_add_40 : decode cX6_add 40 = .ok (.iastore, 1) := by decide +kernel
theorem dX6_add_41 : decode cX6_add 41 = .ok (.aload_n 0, 1) := by decide +kernel
theorem dX6_add_42 : decode cX6_add 42 = .ok (.dup, 1) := by decide +kernel
theorem dX6_add_43 : decode cX6_add 43 = .ok (.getfield 24, 3) := by decide +kernel
theorem dX6_add_46 : decode cX6_add 46 = .ok (.iconst 1, 1) := by decide +kernel
theorem dX6_add_47 : decode cX6_add 47 = .ok (.iadd, 1) := by decide +kernel
theorem dX6_add_48 : decode cX6_add 48 = .ok (.putfield 24, 3) := by decide +kernel
theorem dX6_add_51 : decode cX6_add 51 = .ok (.aload_n 0, 1) := by decide +kernel
theorem dX6_add_52 : decode cX6_add 52 = .ok (.getfield 24, 3) := by decide +kernel
theorem dX6_add_55 : decode cX6_add 55 = .ok (.iconst 1, 1) := by decide +kernel
theorem dX6_add_56 : decode cX6_add 56 = .ok (.isub, 1) := by decide +kernel
theorem dX6_add_57 : decode cX6_add 57 = .ok (.ireturn, 1) := by decide +kernel
set_option maxRecDepth 100000 in
set_option maxHeartbeats 4000000 in
theorem e_X6_add_8 (x1 x2 : Int) {σ : Mem} {Q : Int → Mem → Prop} (h : (0 ≤ σ 8 0 ∧ σ 8 0 < 8) ∧ ((0 ≤ σ 8 0 ∧ σ 8 0 < 8) ∧ ((0 ≤ σ 8 0 ∧ σ 8 0 < 8) ∧ ((0 ≤ σ 8 0 ∧ σ 8 0 < 8) ∧ (Q (jsub (jadd (σ 8 0) 1) 1) (mupd (mupd (mupd (mupd (mupd σ 9 (σ 8 0) x1) 10 (σ 8 0) x2) 11 (σ 8 0) 0) 12 (σ 8 0) 8) 8 0 (jadd (σ 8 0) 1))))))) : HT GC M_X6_add [mr 8, mi x1, mi x2] σ Q := by
  refine HT.of pn_X6 (Nat.le_of_ble_eq_true rfl) ?_
  show WP GC M_X6_add 0 [some (mr 8), some (mi x1), some (mi x2)] [] σ Q
  refine WP.aload_n dX6_add_0 rfl ?_
  refine WP.getR fd_X6_9 dX6_add_1 g8 rfl ?_
  refine WP.aload_n dX6_add_4 rfl ?_
  refine WP.getI (v := σ 8 0) fd_X6_24 dX6_add_5 g8 rfl rfl ?_
  refine WP.iload_n dX6_add_8 rfl ?_
  obtain ⟨hi, h⟩ := h
  refine WP.iast dX6_add_9 g9 hi ?_
  refine WP.aload_n dX6_add_10 rfl ?_
  refine WP.getR fd_X6_15 dX6_add_11 g8 rfl ?_
  refine WP.aload_n dX6_add_14 rfl ?_
  refine WP.getI (v := σ 8 0) fd_X6_24 dX6_add_15 g8 rfl (mupd_rp (by decide)) ?_
  refine WP.iload_n dX6_add_18 rfl ?_
  obtain ⟨hi, h⟩ := h
  refine WP.iast dX6_add_19 g10 hi ?_
  refine WP.aload_n dX6_add_20 rfl ?_
  refine WP.getR fd_X6_18 dX6_add_21 g8 rfl ?_
  refine WP.aload_n dX6_add_24 rfl ?_
  refine WP.getI (v := σ 8 0) fd_X6_24 dX6_add_25 g8 rfl ((mupd_rp (by decide)).trans (mupd_rp (by decide))) ?_
  refine WP.iconst dX6_add_28 (by decide) ?_
  obtain ⟨hi, h⟩ := h
  refine WP.iast dX6_add_29 g11 hi ?_
  refine WP.aload_n dX6_add_30 rfl ?_
  refine WP.getR fd_X6_21 dX6_add_31 g8 rfl ?_
  refine WP.aload_n dX6_add_34 rfl ?_
  refine WP.getI (v := σ 8 0) fd_X6_24 dX6_add_35 g8 rfl ((mupd_rp (by decide)).trans ((mupd_rp (by decide)).trans (mupd_rp (by decide)))) ?_
  refine WP.bipush dX6_add_38 (by decide) bp_8 ?_
  obtain ⟨hi, h⟩ := h
  refine WP.iast dX6_add_40 g12 hi ?_
  refine WP.aload_n dX6_add_41 rfl ?_
  refine WP.dup dX6_add_42 rfl ?_
  refine WP.getI (v := σ 8 0) fd_X6_24 dX6_add_43 g8 rfl ((mupd_rp (by decide)).trans ((mupd_rp (by decide)).trans ((mupd_rp (by decide)).trans (mupd_rp (by decide))))) ?_
  refine WP.iconst dX6_add_46 (by decide) ?_
  refine WP.iadd dX6_add_47 ?_
  refine WP.put fp_X6_24 dX6_add_48 g8 rfl rfl rfl ?_
  refine WP.aload_n dX6_add_51 rfl ?_
  refine WP.getI (v := jadd (σ 8 0) 1) fd_X6_24 dX6_add_52 g8 rfl mupd_at ?_
  refine WP.iconst dX6_add_55 (by decide) ?_
  refine WP.isub dX6_add_56 ?_
  exact WP.iret rfl dX6_add_57 h
theorem dX6_has_0 : decode cX6_has 0 = .ok (.iload_n 1, 1) := by decide +kernel
theorem dX6_has_1 : decode cX6_has 1 = .ok (.aload_n 0, 1) := by decide +kernel
theorem dX6_has_2 : decode cX6_has 2 = .ok (.getfield 24, 3) := by decide +kernel
theorem dX6_has_5 : decode cX6_has 5 = .ok (.invokestatic 34, 3) := by decide +kernel
theorem dX6_has_8 : decode cX6_has 8 = .ok (.ireturn, 1) := by decide +kernel
set_option maxRecDepth 100000 in
set_option maxHeartbeats 4000000 in
theorem e_X6_has_8 (x1 : Int) {σ : Mem} {Q : Int → Mem → Prop} (h : HT GC M_X8_within [mi x1, mi (σ 8 0)] σ (fun r5 σ5 => (r5 = 0 ∨ r5 = 1) ∧ Q r5 σ5)) : HT GC M_X6_has [mr 8, mi x1] σ Q := by
  refine HT.of pn_X6 (Nat.le_of_ble_eq_true rfl) ?_
  show WP GC M_X6_has 0 [some (mr 8), some (mi x1)] [] σ Q
  refine WP.iload_n dX6_has_0 rfl ?_
  refine WP.aload_n dX6_has_1 rfl ?_
  refine WP.getI (v := σ 8 0) fd_X6_24 dX6_has_2 g8 rfl rfl ?_
  refine WP.callSN M_X8_within [mi x1, mi (σ 8 0)] cs_X8_within dX6_has_5 lk_X6_34 ft_X6_has__X8_within rfl (Nat.le_of_ble_eq_true rfl) (HT.mono h ?_)
  rintro r5 σ5 - - h
  exact WP.zret rfl dX6_has_8 h.1 h.2
theorem dX0_has_0 : decode cX0_has 0 = .ok (.iload_n 1, 1) := by decide +kernel
theorem dX0_has_1 : decode cX0_has 1 = .ok (.aload_n 0, 1) := by decide +kernel
theorem dX0_has_2 : decode cX0_has 2 = .ok (.getfield 24, 3) := by decide +kernel
theorem dX0_has_5 : decode cX0_has 5 = .ok (.invokestatic 34, 3) := by decide +kernel
theorem dX0_has_8 : decode cX0_has 8 = .ok (.ireturn, 1) := by decide +kernel
set_option maxRecDepth 100000 in
set_option maxHeartbeats 4000000 in
theorem e_X0_has_3 (x1 : Int) {σ : Mem} {Q : Int → Mem → Prop} (h : HT GC M_X8_within [mi x1, mi (σ 3 0)] σ (fun r5 σ5 => (r5 = 0 ∨ r5 = 1) ∧ Q r5 σ5)) : HT GC M_X0_has [mr 3, mi x1] σ Q := by
  refine HT.of pn_X0 (Nat.le_of_ble_eq_true rfl) ?_
  show WP GC M_X0_has 0 [some (mr 3), some (mi x1)] [] σ Q
  refine WP.iload_n dX0_has_0 rfl ?_
  refine WP.aload_n dX0_has_1 rfl ?_
  refine WP.getI (v := σ 3 0) fd_X0_24 dX0_has_2 g3 rfl rfl ?_
  refine WP.callSN M_X8_within [mi x1, mi (σ 3 0)] cs_X8_within dX0_has_5 lk_X0_34 ft_X0_has__X8_within rfl (Nat.le_of_ble_eq_true rfl) (HT.mono h ?_)
  rintro r5 σ5 - - h
  exact WP.zret rfl dX0_has_8 h.1 h.2
theorem dX0_wearer_0 : decode cX0_wearer 0 = .ok (.aload_n 0, 1) := by decide +kernel
theorem dX0_wearer_1 : decode cX0_wearer 1 = .ok (.getfield 9, 3) := by decide +kernel
theorem dX0_wearer_4 : decode cX0_wearer 4 = .ok (.iload_n 1, 1) := by decide +kernel
theorem dX0_wearer_5 : decode cX0_wearer 5 = .ok (.iconst 4, 1) := by decide +kernel
theorem dX0_wearer_6 : decode cX0_wearer 6 = .ok (.imul, 1) := by decide +kernel
theorem dX0_wearer_7 : decode cX0_wearer 7 = .ok (.aload_n 0, 1) := by decide +kernel
theorem dX0_wearer_8 : decode cX0_wearer 8 = .ok (.getfield 18, 3) := by decide +kernel
theorem dX0_wearer_11 : decode cX0_wearer 11 = .ok (.iload_n 1, 1) := by decide +kernel
theorem dX0_wearer_12 : decode cX0_wearer 12 = .ok (.iaload, 1) := by decide +kernel
theorem dX0_wearer_13 : decode cX0_wearer 13 = .ok (.iadd, 1) := by decide +kernel
theorem dX0_wearer_14 : decode cX0_wearer 14 = .ok (.iaload, 1) := by decide +kernel
theorem dX0_wearer_15 : decode cX0_wearer 15 = .ok (.ireturn, 1) := by decide +kernel
set_option maxRecDepth 100000 in
set_option maxHeartbeats 4000000 in
theorem e_X0_wearer_3 (x1 : Int) {σ : Mem} {Q : Int → Mem → Prop} (h : (0 ≤ x1 ∧ x1 < 4) ∧ ((0 ≤ jadd (jmul x1 4) (σ 6 x1) ∧ jadd (jmul x1 4) (σ 6 x1) < 16) ∧ (Q (σ 4 (jadd (jmul x1 4) (σ 6 x1))) σ))) : HT GC M_X0_wearer [mr 3, mi x1] σ Q := by
  refine HT.of pn_X0 (Nat.le_of_ble_eq_true rfl) ?_
  show WP GC M_X0_wearer 0 [some (mr 3), some (mi x1)] [] σ Q
  refine WP.aload_n dX0_wearer_0 rfl ?_
  refine WP.getR fd_X0_9 dX0_wearer_1 g3 rfl ?_
  refine WP.iload_n dX0_wearer_4 rfl ?_
  refine WP.iconst dX0_wearer_5 (by decide) ?_
  refine WP.imul dX0_wearer_6 ?_
  refine WP.aload_n dX0_wearer_7 rfl ?_
  refine WP.getR fd_X0_18 dX0_wearer_8 g3 rfl ?_
  refine WP.iload_n dX0_wearer_11 rfl ?_
  obtain ⟨hi, h⟩ := h
  refine WP.iald dX0_wearer_12 g6 hi ?_
  refine WP.iadd dX0_wearer_13 ?_
  obtain ⟨hi, h⟩ := h
  refine WP.iald dX0_wearer_14 g4 hi ?_
  exact WP.iret rfl dX0_wearer_15 h
theorem dX6_at_0 : decode cX6_at 0 = .ok (.iconst 0, 1) := by decide +kernel
theorem dX6_at_1 : decode cX6_at 1 = .ok (.istore_n 2, 1) := by decide +kernel
theorem dX6_at_2 : decode cX6_at 2 = .ok (.iconst 0, 1) := by decide +kernel
theorem dX6_at_3 : decode cX6_at 3 = .ok (.istore_n 3, 1) := by decide +kernel
theorem dX6_at_4 : decode cX6_at 4 = .ok (.iload_n 3, 1) := by decide +kernel
theorem dX6_at_5 : decode cX6_at 5 = .ok (.aload_n 0, 1) := by decide +kernel
theorem dX6_at_6 : decode cX6_at 6 = .ok (.getfield 24, 3) := by decide +kernel
theorem dX6_at_9 : decode cX6_at 9 = .ok (.if_icmp .ge 25, 3) := by decide +kernel
theorem dX6_at_12 : decode cX6_at 12 = .ok (.aload_n 0, 1) := by decide +kernel
theorem dX6_at_13 : decode cX6_at 13 = .ok (.getfield 15, 3) := by decide +kernel
theorem dX6_at_16 : decode cX6_at 16 = .ok (.iload_n 3, 1) := by decide +kernel
theorem dX6_at_17 : decode cX6_at 17 = .ok (.iaload, 1) := by decide +kernel
theorem dX6_at_18 : decode cX6_at 18 = .ok (.iload_n 1, 1) := by decide +kernel
theorem dX6_at_19 : decode cX6_at 19 = .ok (.if_icmp .ne 9, 3) := by decide +kernel
theorem dX6_at_22 : decode cX6_at 22 = .ok (.iload_n 2, 1) := by decide +kernel
theorem dX6_at_23 : decode cX6_at 23 = .ok (.iconst 1, 1) := by decide +kernel
theorem dX6_at_24 : decode cX6_at 24 = .ok (.iload_n 3, 1) := by decide +kernel
theorem dX6_at_25 : decode cX6_at 25 = .ok (.ishl, 1) := by decide +kernel
theorem dX6_at_26 : decode cX6_at 26 = .ok (.ior, 1) := by decide +kernel
theorem dX6_at_27 : decode cX6_at 27 = .ok (.istore_n 2, 1) := by decide +kernel
theorem dX6_at_28 : decode cX6_at 28 = .ok (.iinc 3 1, 3) := by decide +kernel
theorem dX6_at_31 : decode cX6_at 31 = .ok (.goto (-27), 3) := by decide +kernel
theorem dX6_at_34 : decode cX6_at 34 = .ok (.iload_n 2, 1) := by decide +kernel
theorem dX6_at_35 : decode cX6_at 35 = .ok (.ireturn, 1) := by decide +kernel
set_option maxRecDepth 100000 in
set_option maxHeartbeats 4000000 in
theorem e_X6_at_8 (x1 : Int) {σ : Mem} {Q : Int → Mem → Prop} (h : WP GC M_X6_at 4 [some (mr 8), some (mi x1), some (mi 0), some (mi 0)] [] σ Q) : HT GC M_X6_at [mr 8, mi x1] σ Q := by
  refine HT.of pn_X6 (Nat.le_of_ble_eq_true rfl) ?_
  show WP GC M_X6_at 0 [some (mr 8), some (mi x1), none, none] [] σ Q
  refine WP.iconst dX6_at_0 (by decide) ?_
  refine WP.istore_n (L2 := [some (mr 8), some (mi x1), some (mi 0), none]) dX6_at_1 (by decide) rfl ?_
  refine WP.iconst dX6_at_2 (by decide) ?_
  refine WP.istore_n (L2 := [some (mr 8), some (mi x1), some (mi 0), some (mi 0)]) dX6_at_3 (by decide) rfl ?_
  exact h
set_option maxRecDepth 100000 in
set_option maxHeartbeats 4000000 in
theorem b_X6_at_8_4 (x1 x2 x3 : Int) {σ : Mem} {Q : Int → Mem → Prop} (h : (σ 8 0 ≤ x3 → Q x2 σ) ∧ (¬ σ 8 0 ≤ x3 → (0 ≤ x3 ∧ x3 < 8) ∧ ((¬ σ 10 x3 = x1 → WP GC M_X6_at 28 [some (mr 8), some (mi x1), some (mi x2), some (mi x3)] [] σ Q) ∧ (σ 10 x3 = x1 → WP GC M_X6_at 28 [some (mr 8), some (mi x1), some (mi (jor x2 (jshl 1 x3))), some (mi x3)] [] σ Q)))) : WP GC M_X6_at 4 [some (mr 8), some (mi x1), some (mi x2), some (mi x3)] [] σ Q := by
  refine WP.iload_n dX6_at_4 rfl ?_
  refine WP.aload_n dX6_at_5 rfl ?_
  refine WP.getI (v := σ 8 0) fd_X6_24 dX6_at_6 g8 rfl rfl ?_
  refine WP.icmp_ge (tgt := 34) dX6_at_9 (by decide) (fun q => ?_) (fun q => ?_)
  · have h := h.1 q
    refine WP.iload_n dX6_at_34 rfl ?_
    exact WP.iret rfl dX6_at_35 h
  · have h := h.2 q
    refine WP.aload_n dX6_at_12 rfl ?_
    refine WP.getR fd_X6_15 dX6_at_13 g8 rfl ?_
    refine WP.iload_n dX6_at_16 rfl ?_
    obtain ⟨hi, h⟩ := h
    refine WP.iald dX6_at_17 g10 hi ?_
    refine WP.iload_n dX6_at_18 rfl ?_
    refine WP.icmp_ne (tgt := 28) dX6_at_19 (by decide) (fun q => ?_) (fun q => ?_)
    · have h := h.1 q
      exact h
    · have h := h.2 q
      refine WP.iload_n dX6_at_22 rfl ?_
      refine WP.iconst dX6_at_23 (by decide) ?_
      refine WP.iload_n dX6_at_24 rfl ?_
      refine WP.ishl dX6_at_25 ?_
      refine WP.ior dX6_at_26 ?_
      refine WP.istore_n (L2 := [some (mr 8), some (mi x1), some (mi (jor x2 (jshl 1 x3))), some (mi x3)]) dX6_at_27 (by decide) rfl ?_
      exact h
set_option maxRecDepth 100000 in
set_option maxHeartbeats 4000000 in
theorem b_X6_at_8_28 (x1 x2 x3 : Int) {σ : Mem} {Q : Int → Mem → Prop} (h : WP GC M_X6_at 4 [some (mr 8), some (mi x1), some (mi x2), some (mi (jadd x3 1))] [] σ Q) : WP GC M_X6_at 28 [some (mr 8), some (mi x1), some (mi x2), some (mi x3)] [] σ Q := by
  refine WP.iinc (L2 := [some (mr 8), some (mi x1), some (mi x2), some (mi (jadd x3 1))]) dX6_at_28 (by decide) rfl (by decide) rfl ?_
  refine WP.goto (tgt := 4) dX6_at_31 (by decide) ?_
  exact h
theorem dX0_boyOfTurn_0 : decode cX0_boyOfTurn 0 = .ok (.iload_n 2, 1) := by decide +kernel
theorem dX0_boyOfTurn_1 : decode cX0_boyOfTurn 1 = .ok (.aload_n 0, 1) := by decide +kernel
theorem dX0_boyOfTurn_2 : decode cX0_boyOfTurn 2 = .ok (.getfield 15, 3) := by decide +kernel
theorem dX0_boyOfTurn_5 : decode cX0_boyOfTurn 5 = .ok (.iload_n 1, 1) := by decide +kernel
theorem dX0_boyOfTurn_6 : decode cX0_boyOfTurn 6 = .ok (.iaload, 1) := by decide +kernel
theorem dX0_boyOfTurn_7 : decode cX0_boyOfTurn 7 = .ok (.if_icmp .ge 16, 3) := by decide +kernel
theorem dX0_boyOfTurn_10 : decode cX0_boyOfTurn 10 = .ok (.aload_n 0, 1) := by decide +kernel
theorem dX0_boyOfTurn_11 : decode cX0_boyOfTurn 11 = .ok (.getfield 9, 3) := by decide +kernel
theorem dX0_boyOfTurn_14 : decode cX0_boyOfTurn 14 = .ok (.iload_n 1, 1) := by decide +kernel
theorem dX0_boyOfTurn_15 : decode cX0_boyOfTurn 15 = .ok (.iconst 4, 1) := by decide +kernel
theorem dX0_boyOfTurn_16 : decode cX0_boyOfTurn 16 = .ok (.imul, 1) := by decide +kernel
theorem dX0_boyOfTurn_17 : decode cX0_boyOfTurn 17 = .ok (.iload_n 2, 1) := by decide +kernel
theorem dX0_boyOfTurn_18 : decode cX0_boyOfTurn 18 = .ok (.iadd, 1) := by decide +kernel
theorem dX0_boyOfTurn_19 : decode cX0_boyOfTurn 19 = .ok (.iaload, 1) := by decide +kernel
theorem dX0_boyOfTurn_20 : decode cX0_boyOfTurn 20 = .ok (.goto 5, 3) := by decide +kernel
theorem dX0_boyOfTurn_23 : decode cX0_boyOfTurn 23 = .ok (.bipush (-4), 2) := by decide +kernel
theorem dX0_boyOfTurn_25 : decode cX0_boyOfTurn 25 = .ok (.ireturn, 1) := by decide +kernel
set_option maxRecDepth 100000 in
set_option maxHeartbeats 4000000 in
theorem e_X0_boyOfTurn_3 (x1 x2 : Int) {σ : Mem} {Q : Int → Mem → Prop} (h : (0 ≤ x1 ∧ x1 < 4) ∧ ((σ 5 x1 ≤ x2 → Q (-4) σ) ∧ (¬ σ 5 x1 ≤ x2 → (0 ≤ jadd (jmul x1 4) x2 ∧ jadd (jmul x1 4) x2 < 16) ∧ (Q (σ 4 (jadd (jmul x1 4) x2)) σ)))) : HT GC M_X0_boyOfTurn [mr 3, mi x1, mi x2] σ Q := by
  refine HT.of pn_X0 (Nat.le_of_ble_eq_true rfl) ?_
  show WP GC M_X0_boyOfTurn 0 [some (mr 3), some (mi x1), some (mi x2)] [] σ Q
  refine WP.iload_n dX0_boyOfTurn_0 rfl ?_
  refine WP.aload_n dX0_boyOfTurn_1 rfl ?_
  refine WP.getR fd_X0_15 dX0_boyOfTurn_2 g3 rfl ?_
  refine WP.iload_n dX0_boyOfTurn_5 rfl ?_
  obtain ⟨hi, h⟩ := h
  refine WP.iald dX0_boyOfTurn_6 g5 hi ?_
  refine WP.icmp_ge (tgt := 23) dX0_boyOfTurn_7 (by decide) (fun q => ?_) (fun q => ?_)
  · have h := h.1 q
    refine WP.bipush dX0_boyOfTurn_23 (by decide) bp_m4 ?_
    exact WP.iret rfl dX0_boyOfTurn_25 h
  · have h := h.2 q
    refine WP.aload_n dX0_boyOfTurn_10 rfl ?_
    refine WP.getR fd_X0_9 dX0_boyOfTurn_11 g3 rfl ?_
    refine WP.iload_n dX0_boyOfTurn_14 rfl ?_
    refine WP.iconst dX0_boyOfTurn_15 (by decide) ?_
    refine WP.imul dX0_boyOfTurn_16 ?_
    refine WP.iload_n dX0_boyOfTurn_17 rfl ?_
    refine WP.iadd dX0_boyOfTurn_18 ?_
    obtain ⟨hi, h⟩ := h
    refine WP.iald dX0_boyOfTurn_19 g4 hi ?_
    refine WP.goto (tgt := 25) dX0_boyOfTurn_20 (by decide) ?_
    exact WP.iret rfl dX0_boyOfTurn_25 h
theorem dX5_append_0 : decode cX5_append 0 = .ok (.aload_n 0, 1) := by decide +kernel
theorem dX5_append_1 : decode cX5_append 1 = .ok (.getfield 15, 3) := by decide +kernel
theorem dX5_append_4 : decode cX5_append 4 = .ok (.bipush 100, 2) := by decide +kernel
theorem dX5_append_6 : decode cX5_append 6 = .ok (.if_icmp .ge 23, 3) := by decide +kernel
theorem dX5_append_9 : decode cX5_append 9 = .ok (.aload_n 0, 1) := by decide +kernel
theorem dX5_append_10 : decode cX5_append 10 = .ok (.getfield 9, 3) := by decide +kernel
theorem dX5_append_13 : decode cX5_append 13 = .ok (.aload_n 0, 1) := by decide +kernel
theorem dX5_append_14 : decode cX5_append 14 = .ok (.getfield 15, 3) := by decide +kernel
theorem dX5_append_17 : decode cX5_append 17 = .ok (.iload_n 1, 1) := by decide +kernel
theorem dX5_append_18 : decode cX5_append 18 = .ok (.iastore, 1) := by decide +kernel
theorem dX5_append_19 : decode cX5_append 19 = .ok (.aload_n 0, 1) := by decide +kernel
theorem dX5_append_20 : decode cX5_append 20 = .ok (.dup, 1) := by decide +kernel
theorem dX5_append_21 : decode cX5_append 21 = .ok (.getfield 15, 3) := by decide +kernel
theorem dX5_append_24 : decode cX5_append 24 = .ok (.iconst 1, 1) := by decide +kernel
theorem dX5_append_25 : decode cX5_append 25 = .ok (.iadd, 1) := by decide +kernel
theorem dX5_append_26 : decode cX5_append 26 = .ok (.putfield 15, 3) := by decide +kernel
theorem dX5_append_29 : decode cX5_append 29 = .ok (.return_, 1) := by decide +kernel
set_option maxRecDepth 100000 in
set_option maxHeartbeats 4000000 in
theorem e_X5_append_25 (x1 : Int) {σ : Mem} {Q : Int → Mem → Prop} (h : (100 ≤ σ 25 1 → Q 0 σ) ∧ (¬ 100 ≤ σ 25 1 → (0 ≤ σ 25 1 ∧ σ 25 1 < 100) ∧ (Q 0 (mupd (mupd σ 26 (σ 25 1) x1) 25 1 (jadd (σ 25 1) 1))))) : HT GC M_X5_append [mr 25, mi x1] σ Q := by
  refine HT.of pn_X5 (Nat.le_of_ble_eq_true rfl) ?_
  show WP GC M_X5_append 0 [some (mr 25), some (mi x1)] [] σ Q
  refine WP.aload_n dX5_append_0 rfl ?_
  refine WP.getI (v := σ 25 1) fd_X5_15 dX5_append_1 g25 rfl rfl ?_
  refine WP.bipush dX5_append_4 (by decide) bp_100 ?_
  refine WP.icmp_ge (tgt := 29) dX5_append_6 (by decide) (fun q => ?_) (fun q => ?_)
  · have h := h.1 q
    exact WP.vret rfl dX5_append_29 h
  · have h := h.2 q
    refine WP.aload_n dX5_append_9 rfl ?_
    refine WP.getR fd_X5_9 dX5_append_10 g25 rfl ?_
    refine WP.aload_n dX5_append_13 rfl ?_
    refine WP.getI (v := σ 25 1) fd_X5_15 dX5_append_14 g25 rfl rfl ?_
    refine WP.iload_n dX5_append_17 rfl ?_
    obtain ⟨hi, h⟩ := h
    refine WP.iast dX5_append_18 g26 hi ?_
    refine WP.aload_n dX5_append_19 rfl ?_
    refine WP.dup dX5_append_20 rfl ?_
    refine WP.getI (v := σ 25 1) fd_X5_15 dX5_append_21 g25 rfl (mupd_rp (by decide)) ?_
    refine WP.iconst dX5_append_24 (by decide) ?_
    refine WP.iadd dX5_append_25 ?_
    refine WP.put fp_X5_15 dX5_append_26 g25 rfl rfl rfl ?_
    exact WP.vret rfl dX5_append_29 h
theorem dX5_fault_0 : decode cX5_fault 0 = .ok (.bipush (-20), 2) := by decide +kernel
theorem dX5_fault_2 : decode cX5_fault 2 = .ok (.aload_n 0, 1) := by decide +kernel
theorem dX5_fault_3 : decode cX5_fault 3 = .ok (.getfield 19, 3) := by decide +kernel
theorem dX5_fault_6 : decode cX5_fault 6 = .ok (.isub, 1) := by decide +kernel
theorem dX5_fault_7 : decode cX5_fault 7 = .ok (.ireturn, 1) := by decide +kernel
set_option maxRecDepth 100000 in
set_option maxHeartbeats 4000000 in
theorem e_X5_fault_25 {σ : Mem} {Q : Int → Mem → Prop} (h : Q (jsub (-20) (σ 25 2)) σ) : HT GC M_X5_fault [mr 25] σ Q := by
  refine HT.of pn_X5 (Nat.le_of_ble_eq_true rfl) ?_
  show WP GC M_X5_fault 0 [some (mr 25)] [] σ Q
  refine WP.bipush dX5_fault_0 (by decide) bp_m20 ?_
  refine WP.aload_n dX5_fault_2 rfl ?_
  refine WP.getI (v := σ 25 2) fd_X5_19 dX5_fault_3 g25 rfl rfl ?_
  refine WP.isub dX5_fault_6 ?_
  exact WP.iret rfl dX5_fault_7 h
set_option maxRecDepth 100000 in
set_option maxHeartbeats 4000000 in
theorem e_X0_open_28 {σ : Mem} {Q : Int → Mem → Prop} (h : (4 ≤ σ 28 0 → Q 0 σ) ∧ (¬ 4 ≤ σ 28 0 → (0 ≤ σ 28 0 ∧ σ 28 0 < 4) ∧ ((0 ≤ σ 28 0 ∧ σ 28 0 < 4) ∧ (Q 0 (mupd (mupd σ 30 (σ 28 0) 0) 31 (σ 28 0) 0))))) : HT GC M_X0_open [mr 28] σ Q := by
  refine HT.of pn_X0 (Nat.le_of_ble_eq_true rfl) ?_
  show WP GC M_X0_open 0 [some (mr 28)] [] σ Q
  refine WP.aload_n dX0_open_0 rfl ?_
  refine WP.getI (v := σ 28 0) fd_X0_24 dX0_open_1 g28 rfl rfl ?_
  refine WP.iconst dX0_open_4 (by decide) ?_
  refine WP.icmp_ge (tgt := 28) dX0_open_5 (by decide) (fun q => ?_) (fun q => ?_)
  · have h := h.1 q
    exact WP.vret rfl dX0_open_28 h
  · have h := h.2 q
    refine WP.aload_n dX0_open_8 rfl ?_
    refine WP.getR fd_X0_15 dX0_open_9 g28 rfl ?_
    refine WP.aload_n dX0_open_12 rfl ?_
    refine WP.getI (v := σ 28 0) fd_X0_24 dX0_open_13 g28 rfl rfl ?_
    refine WP.iconst dX0_open_16 (by decide) ?_
    obtain ⟨hi, h⟩ := h
    refine WP.iast dX0_open_17 g30 hi ?_
    refine WP.aload_n dX0_open_18 rfl ?_
    refine WP.getR fd_X0_18 dX0_open_19 g28 rfl ?_
    refine WP.aload_n dX0_open_22 rfl ?_
    refine WP.getI (v := σ 28 0) fd_X0_24 dX0_open_23 g28 rfl (mupd_rp (by decide)) ?_
    refine WP.iconst dX0_open_26 (by decide) ?_
    obtain ⟨hi, h⟩ := h
    refine WP.iast dX0_open_27 g31 hi ?_
    exact WP.vret rfl dX0_open_28 h
theorem dX5_atEnd_0 : decode cX5_atEnd 0 = .ok (.aload_n 0, 1) := by decide +kernel
theorem dX5_atEnd_1 : decode cX5_atEnd 1 = .ok (.getfield 19, 3) := by decide +kernel
theorem dX5_atEnd_4 : decode cX5_atEnd 4 = .ok (.aload_n 0, 1) := by decide +kernel
theorem dX5_atEnd_5 : decode cX5_atEnd 5 = .ok (.getfield 15, 3) := by decide +kernel
theorem dX5_atEnd_8 : decode cX5_atEnd 8 = .ok (.if_icmp .ge 30, 3) := by decide +kernel
theorem dX5_atEnd_11 : decode cX5_atEnd 11 = .ok (.aload_n 0, 1) := by decide +kernel
theorem dX5_atEnd_12 : decode cX5_atEnd 12 = .ok (.getfield 9, 3) := by decide +kernel
theorem dX5_atEnd_15 : decode cX5_atEnd 15 = .ok (.aload_n 0, 1) := by decide +kernel
theorem dX5_atEnd_16 : decode cX5_atEnd 16 = .ok (.getfield 19, 3) := by decide +kernel
theorem dX5_atEnd_19 : decode cX5_atEnd 19 = .ok (.iaload, 1) := by decide +kernel
theorem dX5_atEnd_20 : decode cX5_atEnd 20 = .ok (.bipush 32, 2) := by decide +kernel
theorem dX5_atEnd_22 : decode cX5_atEnd 22 = .ok (.if_icmp .ne 16, 3) := by decide +kernel
theorem dX5_atEnd_25 : decode cX5_atEnd 25 = .ok (.aload_n 0, 1) := by decide +kernel
theorem dX5_atEnd_26 : decode cX5_atEnd 26 = .ok (.dup, 1) := by decide +kernel
theorem dX5_atEnd_27 : decode cX5_atEnd 27 = .ok (.getfield 19, 3) := by decide +kernel
theorem dX5_atEnd_30 : decode cX5_atEnd 30 = .ok (.iconst 1, 1) := by decide +kernel
theorem dX5_atEnd_31 : decode cX5_atEnd 31 = .ok (.iadd, 1) := by decide +kernel
theorem dX5_atEnd_32 : decode cX5_atEnd 32 = .ok (.putfield 19, 3) := by decide +kernel
theorem dX5_atEnd_35 : decode cX5_atEnd 35 = .ok (.goto (-35), 3) := by decide +kernel
theorem dX5_atEnd_38 : decode cX5_atEnd 38 = .ok (.aload_n 0, 1) := by decide +kernel
theorem dX5_atEnd_39 : decode cX5_atEnd 39 = .ok (.getfield 19, 3) := by decide +kernel
theorem dX5_atEnd_42 : decode cX5_atEnd 42 = .ok (.aload_n 0, 1) := by decide +kernel
theorem dX5_atEnd_43 : decode cX5_atEnd 43 = .ok (.getfield 15, 3) := by decide +kernel
theorem dX5_atEnd_46 : decode cX5_atEnd 46 = .ok (.if_icmp .lt 7, 3) := by decide +kernel
theorem dX5_atEnd_49 : decode cX5_atEnd 49 = .ok (.iconst 1, 1) := by decide +kernel
theorem dX5_atEnd_50 : decode cX5_atEnd 50 = .ok (.goto 4, 3) := by decide +kernel
theorem dX5_atEnd_53 : decode cX5_atEnd 53 = .ok (.iconst 0, 1) := by decide +kernel
theorem dX5_atEnd_54 : decode cX5_atEnd 54 = .ok (.ireturn, 1) := by decide +kernel
set_option maxRecDepth 100000 in
set_option maxHeartbeats 4000000 in
theorem e_X5_atEnd_25 {σ : Mem} {Q : Int → Mem → Prop} (h : (σ 25 1 ≤ σ 25 2 → WP GC M_X5_atEnd 38 [some (mr 25)] [] σ Q) ∧ (¬ σ 25 1 ≤ σ 25 2 → (0 ≤ σ 25 2 ∧ σ 25 2 < 100) ∧ ((¬ σ 26 (σ 25 2) = 32 → WP GC M_X5_atEnd 38 [some (mr 25)] [] σ Q) ∧ (σ 26 (σ 25 2) = 32 → WP GC M_X5_atEnd 0 [some (mr 25)] [] (mupd σ 25 2 (jadd (σ 25 2) 1)) Q)))) : HT GC M_X5_atEnd [mr 25] σ Q := by
  refine HT.of pn_X5 (Nat.le_of_ble_eq_true rfl) ?_
  show WP GC M_X5_atEnd 0 [some (mr 25)] [] σ Q
  refine WP.aload_n dX5_atEnd_0 rfl ?_
  refine WP.getI (v := σ 25 2) fd_X5_19 dX5_atEnd_1 g25 rfl rfl ?_
  refine WP.aload_n dX5_atEnd_4 rfl ?_
  refine WP.getI (v := σ 25 1) fd_X5_15 dX5_atEnd_5 g25 rfl rfl ?_
  refine WP.icmp_ge (tgt := 38) dX5_atEnd_8 (by decide) (fun q => ?_) (fun q => ?_)
  · have h := h.1 q
    exact h
  · have h := h.2 q
    refine WP.aload_n dX5_atEnd_11 rfl ?_
    refine WP.getR fd_X5_9 dX5_atEnd_12 g25 rfl ?_
    refine WP.aload_n dX5_atEnd_15 rfl ?_
    refine WP.getI (v := σ 25 2) fd_X5_19 dX5_atEnd_16 g25 rfl rfl ?_
    obtain ⟨hi, h⟩ := h
    refine WP.iald dX5_atEnd_19 g26 hi ?_
    refine WP.bipush dX5_atEnd_20 (by decide) bp_32 ?_
    refine WP.icmp_ne (tgt := 38) dX5_atEnd_22 (by decide) (fun q => ?_) (fun q => ?_)
    · have h := h.1 q
      exact h
    · have h := h.2 q
      refine WP.aload_n dX5_atEnd_25 rfl ?_
      refine WP.dup dX5_atEnd_26 rfl ?_
      refine WP.getI (v := σ 25 2) fd_X5_19 dX5_atEnd_27 g25 rfl rfl ?_
      refine WP.iconst dX5_atEnd_30 (by decide) ?_
      refine WP.iadd dX5_atEnd_31 ?_
      refine WP.put fp_X5_19 dX5_atEnd_32 g25 rfl rfl rfl ?_
      refine WP.goto (tgt := 0) dX5_atEnd_35 (by decide) ?_
      exact h
set_option maxRecDepth 100000 in
set_option maxHeartbeats 4000000 in
theorem b_X5_atEnd_25_0 {σ : Mem} {Q : Int → Mem → Prop} (h : (σ 25 1 ≤ σ 25 2 → WP GC M_X5_atEnd 38 [some (mr 25)] [] σ Q) ∧ (¬ σ 25 1 ≤ σ 25 2 → (0 ≤ σ 25 2 ∧ σ 25 2 < 100) ∧ ((¬ σ 26 (σ 25 2) = 32 → WP GC M_X5_atEnd 38 [some (mr 25)] [] σ Q) ∧ (σ 26 (σ 25 2) = 32 → WP GC M_X5_atEnd 0 [some (mr 25)] [] (mupd σ 25 2 (jadd (σ 25 2) 1)) Q)))) : WP GC M_X5_atEnd 0 [some (mr 25)] [] σ Q := by
  refine WP.aload_n dX5_atEnd_0 rfl ?_
  refine WP.getI (v := σ 25 2) fd_X5_19 dX5_atEnd_1 g25 rfl rfl ?_
  refine WP.aload_n dX5_atEnd_4 rfl ?_
  refine WP.getI (v := σ 25 1) fd_X5_15 dX5_atEnd_5 g25 rfl rfl ?_
  refine WP.icmp_ge (tgt := 38) dX5_atEnd_8 (by decide) (fun q => ?_) (fun q => ?_)
  · have h := h.1 q
    exact h
  · have h := h.2 q
    refine WP.aload_n dX5_atEnd_11 rfl ?_
    refine WP.getR fd_X5_9 dX5_atEnd_12 g25 rfl ?_
    refine WP.aload_n dX5_atEnd_15 rfl ?_
    refine WP.getI (v := σ 25 2) fd_X5_19 dX5_atEnd_16 g25 rfl rfl ?_
    obtain ⟨hi, h⟩ := h
    refine WP.iald dX5_atEnd_19 g26 hi ?_
    refine WP.bipush dX5_atEnd_20 (by decide) bp_32 ?_
    refine WP.icmp_ne (tgt := 38) dX5_atEnd_22 (by decide) (fun q => ?_) (fun q => ?_)
    · have h := h.1 q
      exact h
    · have h := h.2 q
      refine WP.aload_n dX5_atEnd_25 rfl ?_
      refine WP.dup dX5_atEnd_26 rfl ?_
      refine WP.getI (v := σ 25 2) fd_X5_19 dX5_atEnd_27 g25 rfl rfl ?_
      refine WP.iconst dX5_atEnd_30 (by decide) ?_
      refine WP.iadd dX5_atEnd_31 ?_
      refine WP.put fp_X5_19 dX5_atEnd_32 g25 rfl rfl rfl ?_
      refine WP.goto (tgt := 0) dX5_atEnd_35 (by decide) ?_
      exact h
set_option maxRecDepth 100000 in
set_option maxHeartbeats 4000000 in
theorem b_X5_atEnd_25_38 {σ : Mem} {Q : Int → Mem → Prop} (h : (σ 25 2 < σ 25 1 → Q 0 σ) ∧ (¬ σ 25 2 < σ 25 1 → Q 1 σ)) : WP GC M_X5_atEnd 38 [some (mr 25)] [] σ Q := by
  refine WP.aload_n dX5_atEnd_38 rfl ?_
  refine WP.getI (v := σ 25 2) fd_X5_19 dX5_atEnd_39 g25 rfl rfl ?_
  refine WP.aload_n dX5_atEnd_42 rfl ?_
  refine WP.getI (v := σ 25 1) fd_X5_15 dX5_atEnd_43 g25 rfl rfl ?_
  refine WP.icmp_lt (tgt := 53) dX5_atEnd_46 (by decide) (fun q => ?_) (fun q => ?_)
  · have h := h.1 q
    refine WP.iconst dX5_atEnd_53 (by decide) ?_
    exact WP.zret rfl dX5_atEnd_54 (by decide) h
  · have h := h.2 q
    refine WP.iconst dX5_atEnd_49 (by decide) ?_
    refine WP.goto (tgt := 54) dX5_atEnd_50 (by decide) ?_
    exact WP.zret rfl dX5_atEnd_54 (by decide) h
theorem dX5_digitBelow_0 : decode cX5_digitBelow 0 = .ok (.aload_n 0, 1) := by decide +kernel
theorem dX5_digitBelow_1 : decode cX5_digitBelow 1 = .ok (.invokevirtual 22, 3) := by decide +kernel
theorem dX5_digitBelow_4 : decode cX5_digitBelow 4 = .ok (.ifCond .eq 6, 3) := by decide +kernel
theorem dX5_digitBelow_7 : decode cX5_digitBelow 7 = .ok (.bipush (-4), 2) := by decide +kernel
theorem dX5_digitBelow_9 : decode cX5_digitBelow 9 = .ok (.ireturn, 1) := by decide +kernel
theorem dX5_digitBelow_10 : decode cX5_digitBelow 10 = .ok (.aload_n 0, 1) := by decide +kernel
theorem dX5_digitBelow_11 : decode cX5_digitBelow 11 = .ok (.getfield 9, 3) := by decide +kernel
theorem dX5_digitBelow_14 : decode cX5_digitBelow 14 = .ok (.aload_n 0, 1) := by decide +kernel
theorem dX5_digitBelow_15 : decode cX5_digitBelow 15 = .ok (.getfield 19, 3) := by decide +kernel
theorem dX5_digitBelow_18 : decode cX5_digitBelow 18 = .ok (.iaload, 1) := by decide +kernel
theorem dX5_digitBelow_19 : decode cX5_digitBelow 19 = .ok (.bipush 48, 2) := by decide +kernel
theorem dX5_digitBelow_21 : decode cX5_digitBelow 21 = .ok (.isub, 1) := by decide +kernel
theorem dX5_digitBelow_22 : decode cX5_digitBelow 22 = .ok (.istore_n 2, 1) := by decide +kernel
theorem dX5_digitBelow_23 : decode cX5_digitBelow 23 = .ok (.iload_n 2, 1) := by decide +kernel
theorem dX5_digitBelow_24 : decode cX5_digitBelow 24 = .ok (.iload_n 1, 1) := by decide +kernel
theorem dX5_digitBelow_25 : decode cX5_digitBelow 25 = .ok (.invokestatic 26, 3) := by decide +kernel
theorem dX5_digitBelow_28 : decode cX5_digitBelow 28 = .ok (.ifCond .eq 7, 3) := by decide +kernel
theorem dX5_digitBelow_31 : decode cX5_digitBelow 31 = .ok (.iload_n 2, 1) := by decide +kernel
theorem dX5_digitBelow_32 : decode cX5_digitBelow 32 = .ok (.goto 5, 3) := by decide +kernel
theorem dX5_digitBelow_35 : decode cX5_digitBelow 35 = .ok (.bipush (-4), 2) := by decide +kernel
theorem dX5_digitBelow_37 : decode cX5_digitBelow 37 = .ok (.ireturn, 1) := by decide +kernel
set_option maxRecDepth 100000 in
set_option maxHeartbeats 4000000 in
theorem e_X5_digitBelow_25 (x1 : Int) {σ : Mem} {Q : Int → Mem → Prop} (h : HT GC M_X5_atEnd [mr 25] σ (fun r1 σ1 => (r1 = 0 → (0 ≤ σ1 25 2 ∧ σ1 25 2 < 100) ∧ (HT GC M_X8_within [mi (jsub (σ1 26 (σ1 25 2)) 48), mi x1] σ1 (fun r25 σ25 => (r25 = 0 → Q (-4) σ25) ∧ (¬ r25 = 0 → Q (jsub (σ1 26 (σ1 25 2)) 48) σ25)))) ∧ (¬ r1 = 0 → Q (-4) σ1))) : HT GC M_X5_digitBelow [mr 25, mi x1] σ Q := by
  refine HT.of pn_X5 (Nat.le_of_ble_eq_true rfl) ?_
  show WP GC M_X5_digitBelow 0 [some (mr 25), some (mi x1), none] [] σ Q
  refine WP.aload_n dX5_digitBelow_0 rfl ?_
  refine WP.callV M_X5_atEnd [] cv_X5_atEnd dX5_digitBelow_1 lk_X5_22 g25 rfl ft_X5_digitBelow__X5_atEnd rfl (Nat.le_of_ble_eq_true rfl) (HT.mono h ?_)
  rintro r1 σ1 - - h
  refine WP.if_eq (tgt := 10) dX5_digitBelow_4 (by decide) (fun q => ?_) (fun q => ?_)
  · have h := h.1 q
    refine WP.aload_n dX5_digitBelow_10 rfl ?_
    refine WP.getR fd_X5_9 dX5_digitBelow_11 g25 rfl ?_
    refine WP.aload_n dX5_digitBelow_14 rfl ?_
    refine WP.getI (v := σ1 25 2) fd_X5_19 dX5_digitBelow_15 g25 rfl rfl ?_
    obtain ⟨hi, h⟩ := h
    refine WP.iald dX5_digitBelow_18 g26 hi ?_
    refine WP.bipush dX5_digitBelow_19 (by decide) bp_48 ?_
    refine WP.isub dX5_digitBelow_21 ?_
    refine WP.istore_n (L2 := [some (mr 25), some (mi x1), some (mi (jsub (σ1 26 (σ1 25 2)) 48))]) dX5_digitBelow_22 (by decide) rfl ?_
    refine WP.iload_n dX5_digitBelow_23 rfl ?_
    refine WP.iload_n dX5_digitBelow_24 rfl ?_
    refine WP.callSN M_X8_within [mi (jsub (σ1 26 (σ1 25 2)) 48), mi x1] cs_X8_within dX5_digitBelow_25 lk_X5_26 ft_X5_digitBelow__X8_within rfl (Nat.le_of_ble_eq_true rfl) (HT.mono h ?_)
    rintro r25 σ25 - - h
    refine WP.if_eq (tgt := 35) dX5_digitBelow_28 (by decide) (fun q => ?_) (fun q => ?_)
    · have h := h.1 q
      refine WP.bipush dX5_digitBelow_35 (by decide) bp_m4 ?_
      exact WP.iret rfl dX5_digitBelow_37 h
    · have h := h.2 q
      refine WP.iload_n dX5_digitBelow_31 rfl ?_
      refine WP.goto (tgt := 37) dX5_digitBelow_32 (by decide) ?_
      exact WP.iret rfl dX5_digitBelow_37 h
  · have h := h.2 q
    refine WP.bipush dX5_digitBelow_7 (by decide) bp_m4 ?_
    exact WP.iret rfl dX5_digitBelow_9 h
set_option maxRecDepth 100000 in
set_option maxHeartbeats 4000000 in
theorem e_X0_join_28 (x1 : Int) {σ : Mem} {Q : Int → Mem → Prop} (h : (4 ≤ σ 28 0 → Q 0 σ) ∧ (¬ 4 ≤ σ 28 0 → (0 ≤ σ 28 0 ∧ σ 28 0 < 4) ∧ ((4 ≤ σ 30 (σ 28 0) → Q 0 σ) ∧ (¬ 4 ≤ σ 30 (σ 28 0) → (0 ≤ σ 28 0 ∧ σ 28 0 < 4) ∧ ((0 ≤ jadd (jmul (σ 28 0) 4) (σ 30 (σ 28 0)) ∧ jadd (jmul (σ 28 0) 4) (σ 30 (σ 28 0)) < 16) ∧ ((0 ≤ σ 28 0 ∧ σ 28 0 < 4) ∧ ((0 ≤ σ 28 0 ∧ σ 28 0 < 4) ∧ (Q 0 (mupd (mupd σ 29 (jadd (jmul (σ 28 0) 4) (σ 30 (σ 28 0))) x1) 30 (σ 28 0) (jadd (σ 30 (σ 28 0)) 1)))))))))) : HT GC M_X0_join [mr 28, mi x1] σ Q := by
  refine HT.of pn_X0 (Nat.le_of_ble_eq_true rfl) ?_
  show WP GC M_X0_join 0 [some (mr 28), some (mi x1)] [] σ Q
  refine WP.aload_n dX0_join_0 rfl ?_
  refine WP.getI (v := σ 28 0) fd_X0_24 dX0_join_1 g28 rfl rfl ?_
  refine WP.iconst dX0_join_4 (by decide) ?_
  refine WP.icmp_ge (tgt := 56) dX0_join_5 (by decide) (fun q => ?_) (fun q => ?_)
  · have h := h.1 q
    exact WP.vret rfl dX0_join_56 h
  · have h := h.2 q
    refine WP.aload_n dX0_join_8 rfl ?_
    refine WP.getR fd_X0_15 dX0_join_9 g28 rfl ?_
    refine WP.aload_n dX0_join_12 rfl ?_
    refine WP.getI (v := σ 28 0) fd_X0_24 dX0_join_13 g28 rfl rfl ?_
    obtain ⟨hi, h⟩ := h
    refine WP.iald dX0_join_16 g30 hi ?_
    refine WP.iconst dX0_join_17 (by decide) ?_
    refine WP.icmp_ge (tgt := 56) dX0_join_18 (by decide) (fun q => ?_) (fun q => ?_)
    · have h := h.1 q
      exact WP.vret rfl dX0_join_56 h
    · have h := h.2 q
      refine WP.aload_n dX0_join_21 rfl ?_
      refine WP.getR fd_X0_9 dX0_join_22 g28 rfl ?_
      refine WP.aload_n dX0_join_25 rfl ?_
      refine WP.getI (v := σ 28 0) fd_X0_24 dX0_join_26 g28 rfl rfl ?_
      refine WP.iconst dX0_join_29 (by decide) ?_
      refine WP.imul dX0_join_30 ?_
      refine WP.aload_n dX0_join_31 rfl ?_
      refine WP.getR fd_X0_15 dX0_join_32 g28 rfl ?_
      refine WP.aload_n dX0_join_35 rfl ?_
      refine WP.getI (v := σ 28 0) fd_X0_24 dX0_join_36 g28 rfl rfl ?_
      obtain ⟨hi, h⟩ := h
      refine WP.iald dX0_join_39 g30 hi ?_
      refine WP.iadd dX0_join_40 ?_
      refine WP.iload_n dX0_join_41 rfl ?_
      obtain ⟨hi, h⟩ := h
      refine WP.iast dX0_join_42 g29 hi ?_
      refine WP.aload_n dX0_join_43 rfl ?_
      refine WP.getR fd_X0_15 dX0_join_44 g28 rfl ?_
      refine WP.aload_n dX0_join_47 rfl ?_
      refine WP.getI (v := σ 28 0) fd_X0_24 dX0_join_48 g28 rfl (mupd_rp (by decide)) ?_
      refine WP.dup2 dX0_join_51 rfl rfl ?_
      obtain ⟨hi, h⟩ := h
      refine WP.iald dX0_join_52 g30 hi ?_
      refine WP.topI (y := σ 30 (σ 28 0)) (mupd_rp (by decide)) ?_
      refine WP.iconst dX0_join_53 (by decide) ?_
      refine WP.iadd dX0_join_54 ?_
      obtain ⟨hi, h⟩ := h
      refine WP.iast dX0_join_55 g30 hi ?_
      exact WP.vret rfl dX0_join_56 h
theorem dX5_passes_0 : decode cX5_passes 0 = .ok (.aload_n 0, 1) := by decide +kernel
theorem dX5_passes_1 : decode cX5_passes 1 = .ok (.invokevirtual 22, 3) := by decide +kernel
theorem dX5_passes_4 : decode cX5_passes 4 = .ok (.ifCond .ne 16, 3) := by decide +kernel
theorem dX5_passes_7 : decode cX5_passes 7 = .ok (.aload_n 0, 1) := by decide +kernel
theorem dX5_passes_8 : decode cX5_passes 8 = .ok (.getfield 9, 3) := by decide +kernel
theorem dX5_passes_11 : decode cX5_passes 11 = .ok (.aload_n 0, 1) := by decide +kernel
theorem dX5_passes_12 : decode cX5_passes 12 = .ok (.getfield 19, 3) := by decide +kernel
theorem dX5_passes_15 : decode cX5_passes 15 = .ok (.iaload, 1) := by decide +kernel
theorem dX5_passes_16 : decode cX5_passes 16 = .ok (.iload_n 1, 1) := by decide +kernel
theorem dX5_passes_17 : decode cX5_passes 17 = .ok (.if_icmp .eq 5, 3) := by decide +kernel
theorem dX5_passes_20 : decode cX5_passes 20 = .ok (.iconst 0, 1) := by decide +kernel
theorem dX5_passes_21 : decode cX5_passes 21 = .ok (.ireturn, 1) := by decide +kernel
theorem dX5_passes_22 : decode cX5_passes 22 = .ok (.aload_n 0, 1) := by decide +kernel
theorem dX5_passes_23 : decode cX5_passes 23 = .ok (.dup, 1) := by decide +kernel
theorem dX5_passes_24 : decode cX5_passes 24 = .ok (.getfield 19, 3) := by decide +kernel
theorem dX5_passes_27 : decode cX5_passes 27 = .ok (.iconst 1, 1) := by decide +kernel
theorem dX5_passes_28 : decode cX5_passes 28 = .ok (.iadd, 1) := by decide +kernel
theorem dX5_passes_29 : decode cX5_passes 29 = .ok (.putfield 19, 3) := by decide +kernel
theorem dX5_passes_32 : decode cX5_passes 32 = .ok (.iconst 1, 1) := by decide +kernel
theorem dX5_passes_33 : decode cX5_passes 33 = .ok (.ireturn, 1) := by decide +kernel
set_option maxRecDepth 100000 in
set_option maxHeartbeats 4000000 in
theorem e_X5_passes_25 (x1 : Int) {σ : Mem} {Q : Int → Mem → Prop} (h : HT GC M_X5_atEnd [mr 25] σ (fun r1 σ1 => (¬ r1 = 0 → Q 0 σ1) ∧ (r1 = 0 → (0 ≤ σ1 25 2 ∧ σ1 25 2 < 100) ∧ ((σ1 26 (σ1 25 2) = x1 → Q 1 (mupd σ1 25 2 (jadd (σ1 25 2) 1))) ∧ (¬ σ1 26 (σ1 25 2) = x1 → Q 0 σ1))))) : HT GC M_X5_passes [mr 25, mi x1] σ Q := by
  refine HT.of pn_X5 (Nat.le_of_ble_eq_true rfl) ?_
  show WP GC M_X5_passes 0 [some (mr 25), some (mi x1)] [] σ Q
  refine WP.aload_n dX5_passes_0 rfl ?_
  refine WP.callV M_X5_atEnd [] cv_X5_atEnd dX5_passes_1 lk_X5_22 g25 rfl ft_X5_passes__X5_atEnd rfl (Nat.le_of_ble_eq_true rfl) (HT.mono h ?_)
  rintro r1 σ1 - - h
  refine WP.if_ne (tgt := 20) dX5_passes_4 (by decide) (fun q => ?_) (fun q => ?_)
  · have h := h.1 q
    refine WP.iconst dX5_passes_20 (by decide) ?_
    exact WP.zret rfl dX5_passes_21 (by decide) h
  · have h := h.2 q
    refine WP.aload_n dX5_passes_7 rfl ?_
    refine WP.getR fd_X5_9 dX5_passes_8 g25 rfl ?_
    refine WP.aload_n dX5_passes_11 rfl ?_
    refine WP.getI (v := σ1 25 2) fd_X5_19 dX5_passes_12 g25 rfl rfl ?_
    obtain ⟨hi, h⟩ := h
    refine WP.iald dX5_passes_15 g26 hi ?_
    refine WP.iload_n dX5_passes_16 rfl ?_
    refine WP.icmp_eq (tgt := 22) dX5_passes_17 (by decide) (fun q => ?_) (fun q => ?_)
    · have h := h.1 q
      refine WP.aload_n dX5_passes_22 rfl ?_
      refine WP.dup dX5_passes_23 rfl ?_
      refine WP.getI (v := σ1 25 2) fd_X5_19 dX5_passes_24 g25 rfl rfl ?_
      refine WP.iconst dX5_passes_27 (by decide) ?_
      refine WP.iadd dX5_passes_28 ?_
      refine WP.put fp_X5_19 dX5_passes_29 g25 rfl rfl rfl ?_
      refine WP.iconst dX5_passes_32 (by decide) ?_
      exact WP.zret rfl dX5_passes_33 (by decide) h
    · have h := h.2 q
      refine WP.iconst dX5_passes_20 (by decide) ?_
      exact WP.zret rfl dX5_passes_21 (by decide) h
theorem dX5_passDigit_0 : decode cX5_passDigit 0 = .ok (.aload_n 0, 1) := by decide +kernel
theorem dX5_passDigit_1 : decode cX5_passDigit 1 = .ok (.iload_n 1, 1) := by decide +kernel
theorem dX5_passDigit_2 : decode cX5_passDigit 2 = .ok (.invokevirtual 30, 3) := by decide +kernel
theorem dX5_passDigit_5 : decode cX5_passDigit 5 = .ok (.istore_n 2, 1) := by decide +kernel
theorem dX5_passDigit_6 : decode cX5_passDigit 6 = .ok (.iload_n 2, 1) := by decide +kernel
theorem dX5_passDigit_7 : decode cX5_passDigit 7 = .ok (.bipush (-4), 2) := by decide +kernel
theorem dX5_passDigit_9 : decode cX5_passDigit 9 = .ok (.if_icmp .eq 13, 3) := by decide +kernel
theorem dX5_passDigit_12 : decode cX5_passDigit 12 = .ok (.aload_n 0, 1) := by decide +kernel
theorem dX5_passDigit_13 : decode cX5_passDigit 13 = .ok (.dup, 1) := by decide +kernel
theorem dX5_passDigit_14 : decode cX5_passDigit 14 = .ok (.getfield 19, 3) := by decide +kernel
theorem dX5_passDigit_17 : decode cX5_passDigit 17 = .ok (.iconst 1, 1) := by decide +kernel
theorem dX5_passDigit_18 : decode cX5_passDigit 18 = .ok (.iadd, 1) := by decide +kernel
theorem dX5_passDigit_19 : decode cX5_passDigit 19 = .ok (.putfield 19, 3) := by decide +kernel
theorem dX5_passDigit_22 : decode cX5_passDigit 22 = .ok (.iload_n 2, 1) := by decide +kernel
theorem dX5_passDigit_23 : decode cX5_passDigit 23 = .ok (.ireturn, 1) := by decide +kernel
set_option maxRecDepth 100000 in
set_option maxHeartbeats 4000000 in
theorem e_X5_passDigit_25 (x1 : Int) {σ : Mem} {Q : Int → Mem → Prop} (h : HT GC M_X5_digitBelow [mr 25, mi x1] σ (fun r2 σ2 => (r2 = (-4) → Q r2 σ2) ∧ (¬ r2 = (-4) → Q r2 (mupd σ2 25 2 (jadd (σ2 25 2) 1))))) : HT GC M_X5_passDigit [mr 25, mi x1] σ Q := by
  refine HT.of pn_X5 (Nat.le_of_ble_eq_true rfl) ?_
  show WP GC M_X5_passDigit 0 [some (mr 25), some (mi x1), none] [] σ Q
  refine WP.aload_n dX5_passDigit_0 rfl ?_
  refine WP.iload_n dX5_passDigit_1 rfl ?_
  refine WP.callV M_X5_digitBelow [mi x1] cv_X5_digitBelow dX5_passDigit_2 lk_X5_30 g25 rfl ft_X5_passDigit__X5_digitBelow rfl (Nat.le_of_ble_eq_true rfl) (HT.mono h ?_)
  rintro r2 σ2 - - h
  refine WP.istore_n (L2 := [some (mr 25), some (mi x1), some (mi r2)]) dX5_passDigit_5 (by decide) rfl ?_
  refine WP.iload_n dX5_passDigit_6 rfl ?_
  refine WP.bipush dX5_passDigit_7 (by decide) bp_m4 ?_
  refine WP.icmp_eq (tgt := 22) dX5_passDigit_9 (by decide) (fun q => ?_) (fun q => ?_)
  · have h := h.1 q
    refine WP.iload_n dX5_passDigit_22 rfl ?_
    exact WP.iret rfl dX5_passDigit_23 h
  · have h := h.2 q
    refine WP.aload_n dX5_passDigit_12 rfl ?_
    refine WP.dup dX5_passDigit_13 rfl ?_
    refine WP.getI (v := σ2 25 2) fd_X5_19 dX5_passDigit_14 g25 rfl rfl ?_
    refine WP.iconst dX5_passDigit_17 (by decide) ?_
    refine WP.iadd dX5_passDigit_18 ?_
    refine WP.put fp_X5_19 dX5_passDigit_19 g25 rfl rfl rfl ?_
    refine WP.iload_n dX5_passDigit_22 rfl ?_
    exact WP.iret rfl dX5_passDigit_23 h
set_option maxRecDepth 100000 in
set_option maxHeartbeats 4000000 in
theorem e_X0_close_28 (x1 : Int) {σ : Mem} {Q : Int → Mem → Prop} (h : (4 ≤ σ 28 0 → Q 0 σ) ∧ (¬ 4 ≤ σ 28 0 → (0 ≤ σ 28 0 ∧ σ 28 0 < 4) ∧ (Q 0 (mupd (mupd σ 32 (σ 28 0) x1) 28 0 (jadd (σ 28 0) 1))))) : HT GC M_X0_close [mr 28, mi x1] σ Q := by
  refine HT.of pn_X0 (Nat.le_of_ble_eq_true rfl) ?_
  show WP GC M_X0_close 0 [some (mr 28), some (mi x1)] [] σ Q
  refine WP.aload_n dX0_close_0 rfl ?_
  refine WP.getI (v := σ 28 0) fd_X0_24 dX0_close_1 g28 rfl rfl ?_
  refine WP.iconst dX0_close_4 (by decide) ?_
  refine WP.icmp_ge (tgt := 28) dX0_close_5 (by decide) (fun q => ?_) (fun q => ?_)
  · have h := h.1 q
    exact WP.vret rfl dX0_close_28 h
  · have h := h.2 q
    refine WP.aload_n dX0_close_8 rfl ?_
    refine WP.getR fd_X0_21 dX0_close_9 g28 rfl ?_
    refine WP.aload_n dX0_close_12 rfl ?_
    refine WP.getI (v := σ 28 0) fd_X0_24 dX0_close_13 g28 rfl rfl ?_
    refine WP.iload_n dX0_close_16 rfl ?_
    obtain ⟨hi, h⟩ := h
    refine WP.iast dX0_close_17 g32 hi ?_
    refine WP.aload_n dX0_close_18 rfl ?_
    refine WP.dup dX0_close_19 rfl ?_
    refine WP.getI (v := σ 28 0) fd_X0_24 dX0_close_20 g28 rfl (mupd_rp (by decide)) ?_
    refine WP.iconst dX0_close_23 (by decide) ?_
    refine WP.iadd dX0_close_24 ?_
    refine WP.put fp_X0_24 dX0_close_25 g28 rfl rfl rfl ?_
    exact WP.vret rfl dX0_close_28 h
theorem dX5_clear_0 : decode cX5_clear 0 = .ok (.aload_n 0, 1) := by decide +kernel
theorem dX5_clear_1 : decode cX5_clear 1 = .ok (.iconst 0, 1) := by decide +kernel
theorem dX5_clear_2 : decode cX5_clear 2 = .ok (.putfield 15, 3) := by decide +kernel
theorem dX5_clear_5 : decode cX5_clear 5 = .ok (.return_, 1) := by decide +kernel
set_option maxRecDepth 100000 in
set_option maxHeartbeats 4000000 in
theorem e_X5_clear_25 {σ : Mem} {Q : Int → Mem → Prop} (h : Q 0 (mupd σ 25 1 0)) : HT GC M_X5_clear [mr 25] σ Q := by
  refine HT.of pn_X5 (Nat.le_of_ble_eq_true rfl) ?_
  show WP GC M_X5_clear 0 [some (mr 25)] [] σ Q
  refine WP.aload_n dX5_clear_0 rfl ?_
  refine WP.iconst dX5_clear_1 (by decide) ?_
  refine WP.put fp_X5_15 dX5_clear_2 g25 rfl rfl rfl ?_
  exact WP.vret rfl dX5_clear_5 h
theorem dX0_become_0 : decode cX0_become 0 = .ok (.aload_n 0, 1) := by decide +kernel
theorem dX0_become_1 : decode cX0_become 1 = .ok (.aload_n 1, 1) := by decide +kernel
theorem dX0_become_2 : decode cX0_become 2 = .ok (.getfield 24, 3) := by decide +kernel
theorem dX0_become_5 : decode cX0_become 5 = .ok (.putfield 24, 3) := by decide +kernel
theorem dX0_become_8 : decode cX0_become 8 = .ok (.aload_n 1, 1) := by decide +kernel
theorem dX0_become_9 : decode cX0_become 9 = .ok (.getfield 9, 3) := by decide +kernel
theorem dX0_become_12 : decode cX0_become 12 = .ok (.iconst 0, 1) := by decide +kernel
theorem dX0_become_13 : decode cX0_become 13 = .ok (.aload_n 0, 1) := by decide +kernel
theorem dX0_become_14 : decode cX0_become 14 = .ok (.getfield 9, 3) := by decide +kernel
theorem dX0_become_17 : decode cX0_become 17 = .ok (.iconst 0, 1) := by decide +kernel
theorem dX0_become_18 : decode cX0_become 18 = .ok (.bipush 16, 2) := by decide +kernel
theorem dX0_become_20 : decode cX0_become 20 = .ok (.invokestatic 28, 3) := by decide +kernel
theorem dX0_become_23 : decode cX0_become 23 = .ok (.aload_n 1, 1) := by decide +kernel
theorem dX0_become_24 : decode cX0_become 24 = .ok (.getfield 15, 3) := by decide +kernel
theorem dX0_become_27 : decode cX0_become 27 = .ok (.iconst 0, 1) := by decide +kernel
theorem dX0_become_28 : decode cX0_become 28 = .ok (.aload_n 0, 1) := by decide +kernel
theorem dX0_become_29 : decode cX0_become 29 = .ok (.getfield 15, 3) := by decide +kernel
theorem dX0_become_32 : decode cX0_become 32 = .ok (.iconst 0, 1) := by decide +kernel
theorem dX0_become_33 : decode cX0_become 33 = .ok (.iconst 4, 1) := by decide +kernel
theorem dX0_become_34 : decode cX0_become 34 = .ok (.invokestatic 28, 3) := by decide +kernel
theorem dX0_become_37 : decode cX0_become 37 = .ok (.aload_n 1, 1) := by decide +kernel
theorem dX0_become_38 : decode cX0_become 38 = .ok (.getfield 18, 3) := by decide +kernel
theorem dX0_become_41 : decode cX0_become 41 = .ok (.iconst 0, 1) := by decide +kernel
theorem dX0_become_42 : decode cX0_become 42 = .ok (.aload_n 0, 1) := by decide +kernel
theorem dX0_become_43 : decode cX0_become 43 = .ok (.getfield 18, 3) := by decide +kernel
theorem dX0_become_46 : decode cX0_become 46 = .ok (.iconst 0, 1) := by decide +kernel
theorem dX0_become_47 : decode cX0_become 47 = .ok (.iconst 4, 1) := by decide +kernel
theorem dX0_become_48 : decode cX0_become 48 = .ok (.invokestatic 28, 3) := by decide +kernel
theorem dX0_become_51 : decode cX0_become 51 = .ok (.aload_n 1, 1) := by decide +kernel
theorem dX0_become_52 : decode cX0_become 52 = .ok (.getfield 21, 3) := by decide +kernel
theorem dX0_become_55 : decode cX0_become 55 = .ok (.iconst 0, 1) := by decide +kernel
theorem dX0_become_56 : decode cX0_become 56 = .ok (.aload_n 0, 1) := by decide +kernel
theorem dX0_become_57 : decode cX0_become 57 = .ok (.getfield 21, 3) := by decide +kernel
theorem dX0_become_60 : decode cX0_become 60 = .ok (.iconst 0, 1) := by decide +kernel
theorem dX0_become_61 : decode cX0_become 61 = .ok (.iconst 4, 1) := by decide +kernel
theorem dX0_become_62 : decode cX0_become 62 = .ok (.invokestatic 28, 3) := by decide +kernel
theorem dX0_become_65 : decode cX0_become 65 = .ok (.return_, 1) := by decide +kernel
set_option maxRecDepth 100000 in
set_option maxHeartbeats 4000000 in
theorem e_X0_become_3_28 {σ : Mem} {Q : Int → Mem → Prop} (h : Q 0 (mcpy (mcpy (mcpy (mcpy (mupd σ 3 0 (σ 28 0)) 29 0 4 0 16) 30 0 5 0 4) 31 0 6 0 4) 32 0 7 0 4)) : HT GC M_X0_become [mr 3, mr 28] σ Q := by
  refine HT.of pn_X0 (Nat.le_of_ble_eq_true rfl) ?_
  show WP GC M_X0_become 0 [some (mr 3), some (mr 28)] [] σ Q
  refine WP.aload_n dX0_become_0 rfl ?_
  refine WP.aload_n dX0_become_1 rfl ?_
  refine WP.getI (v := σ 28 0) fd_X0_24 dX0_become_2 g28 rfl rfl ?_
  refine WP.put fp_X0_24 dX0_become_5 g3 rfl rfl rfl ?_
  refine WP.aload_n dX0_become_8 rfl ?_
  refine WP.getR fd_X0_9 dX0_become_9 g28 rfl ?_
  refine WP.iconst dX0_become_12 (by decide) ?_
  refine WP.aload_n dX0_become_13 rfl ?_
  refine WP.getR fd_X0_9 dX0_become_14 g3 rfl ?_
  refine WP.iconst dX0_become_17 (by decide) ?_
  refine WP.bipush dX0_become_18 (by decide) bp_16 ?_
  refine WP.acopy ac_X0_28 dX0_become_20 g29 g4 (by decide) (by decide) (Nat.le_of_ble_eq_true rfl) ?_
  refine WP.aload_n dX0_become_23 rfl ?_
  refine WP.getR fd_X0_15 dX0_become_24 g28 rfl ?_
  refine WP.iconst dX0_become_27 (by decide) ?_
  refine WP.aload_n dX0_become_28 rfl ?_
  refine WP.getR fd_X0_15 dX0_become_29 g3 rfl ?_
  refine WP.iconst dX0_become_32 (by decide) ?_
  refine WP.iconst dX0_become_33 (by decide) ?_
  refine WP.acopy ac_X0_28 dX0_become_34 g30 g5 (by decide) (by decide) (Nat.le_of_ble_eq_true rfl) ?_
  refine WP.aload_n dX0_become_37 rfl ?_
  refine WP.getR fd_X0_18 dX0_become_38 g28 rfl ?_
  refine WP.iconst dX0_become_41 (by decide) ?_
  refine WP.aload_n dX0_become_42 rfl ?_
  refine WP.getR fd_X0_18 dX0_become_43 g3 rfl ?_
  refine WP.iconst dX0_become_46 (by decide) ?_
  refine WP.iconst dX0_become_47 (by decide) ?_
  refine WP.acopy ac_X0_28 dX0_become_48 g31 g6 (by decide) (by decide) (Nat.le_of_ble_eq_true rfl) ?_
  refine WP.aload_n dX0_become_51 rfl ?_
  refine WP.getR fd_X0_21 dX0_become_52 g28 rfl ?_
  refine WP.iconst dX0_become_55 (by decide) ?_
  refine WP.aload_n dX0_become_56 rfl ?_
  refine WP.getR fd_X0_21 dX0_become_57 g3 rfl ?_
  refine WP.iconst dX0_become_60 (by decide) ?_
  refine WP.iconst dX0_become_61 (by decide) ?_
  refine WP.acopy ac_X0_28 dX0_become_62 g32 g7 (by decide) (by decide) (Nat.le_of_ble_eq_true rfl) ?_
  exact WP.vret rfl dX0_become_65 h
theorem dX6_leaveCoats_0 : decode cX6_leaveCoats 0 = .ok (.iconst 0, 1) := by decide +kernel
theorem dX6_leaveCoats_1 : decode cX6_leaveCoats 1 = .ok (.istore_n 1, 1) := by decide +kernel
theorem dX6_leaveCoats_2 : decode cX6_leaveCoats 2 = .ok (.iload_n 1, 1) := by decide +kernel
theorem dX6_leaveCoats_3 : decode cX6_leaveCoats 3 = .ok (.aload_n 0, 1) := by decide +kernel
theorem dX6_leaveCoats_4 : decode cX6_leaveCoats 4 = .ok (.getfield 24, 3) := by decide +kernel
theorem dX6_leaveCoats_7 : decode cX6_leaveCoats 7 = .ok (.if_icmp .ge 38, 3) := by decide +kernel
theorem dX6_leaveCoats_10 : decode cX6_leaveCoats 10 = .ok (.aload_n 0, 1) := by decide +kernel
theorem dX6_leaveCoats_11 : decode cX6_leaveCoats 11 = .ok (.getfield 15, 3) := by decide +kernel
theorem dX6_leaveCoats_14 : decode cX6_leaveCoats 14 = .ok (.iload_n 1, 1) := by decide +kernel
theorem dX6_leaveCoats_15 : decode cX6_leaveCoats 15 = .ok (.iaload, 1) := by decide +kernel
theorem dX6_leaveCoats_16 : decode cX6_leaveCoats 16 = .ok (.bipush 10, 2) := by decide +kernel
theorem dX6_leaveCoats_18 : decode cX6_leaveCoats 18 = .ok (.if_icmp .lt 21, 3) := by decide +kernel
theorem dX6_leaveCoats_21 : decode cX6_leaveCoats 21 = .ok (.aload_n 0, 1) := by decide +kernel
theorem dX6_leaveCoats_22 : decode cX6_leaveCoats 22 = .ok (.getfield 15, 3) := by decide +kernel
theorem dX6_leaveCoats_25 : decode cX6_leaveCoats 25 = .ok (.iload_n 1, 1) := by decide +kernel
theorem dX6_leaveCoats_26 : decode cX6_leaveCoats 26 = .ok (.iaload, 1) := by decide +kernel
theorem dX6_leaveCoats_27 : decode cX6_leaveCoats 27 = .ok (.bipush 30, 2) := by decide +kernel
theorem dX6_leaveCoats_29 : decode cX6_leaveCoats 29 = .ok (.if_icmp .ge 10, 3) := by decide +kernel
theorem dX6_leaveCoats_32 : decode cX6_leaveCoats 32 = .ok (.aload_n 0, 1) := by decide +kernel
theorem dX6_leaveCoats_33 : decode cX6_leaveCoats 33 = .ok (.getfield 15, 3) := by decide +kernel
theorem dX6_leaveCoats_36 : decode cX6_leaveCoats 36 = .ok (.iload_n 1, 1) := by decide +kernel
theorem dX6_leaveCoats_37 : decode cX6_leaveCoats 37 = .ok (.iconst 0, 1) := by decide +kernel
theorem dX6_leaveCoats_38 : decode cX6_leaveCoats 38 = .ok (.iastore, 1) := by decide +kernel
theorem dX6_leaveCoats_39 : decode cX6_leaveCoats 39 = .ok (.iinc 1 1, 3) := by decide +kernel
theorem dX6_leaveCoats_42 : decode cX6_leaveCoats 42 = .ok (.goto (-40), 3) := by decide +kernel
theorem dX6_leaveCoats_45 : decode cX6_leaveCoats 45 = .ok (.return_, 1) := by decide +kernel
set_option maxRecDepth 100000 in
set_option maxHeartbeats 4000000 in
theorem e_X6_leaveCoats_8 {σ : Mem} {Q : Int → Mem → Prop} (h : WP GC M_X6_leaveCoats 2 [some (mr 8), some (mi 0)] [] σ Q) : HT GC M_X6_leaveCoats [mr 8] σ Q := by
  refine HT.of pn_X6 (Nat.le_of_ble_eq_true rfl) ?_
  show WP GC M_X6_leaveCoats 0 [some (mr 8), none] [] σ Q
  refine WP.iconst dX6_leaveCoats_0 (by decide) ?_
  refine WP.istore_n (L2 := [some (mr 8), some (mi 0)]) dX6_leaveCoats_1 (by decide) rfl ?_
  exact h
set_option maxRecDepth 100000 in
set_option maxHeartbeats 4000000 in
theorem b_X6_leaveCoats_8_2 (x1 : Int) {σ : Mem} {Q : Int → Mem → Prop} (h : (σ 8 0 ≤ x1 → Q 0 σ) ∧ (¬ σ 8 0 ≤ x1 → (0 ≤ x1 ∧ x1 < 8) ∧ ((σ 10 x1 < 10 → WP GC M_X6_leaveCoats 39 [some (mr 8), some (mi x1)] [] σ Q) ∧ (¬ σ 10 x1 < 10 → (0 ≤ x1 ∧ x1 < 8) ∧ ((30 ≤ σ 10 x1 → WP GC M_X6_leaveCoats 39 [some (mr 8), some (mi x1)] [] σ Q) ∧ (¬ 30 ≤ σ 10 x1 → (0 ≤ x1 ∧ x1 < 8) ∧ (WP GC M_X6_leaveCoats 39 [some (mr 8), some (mi x1)] [] (mupd σ 10 x1 0) Q))))))) : WP GC M_X6_leaveCoats 2 [some (mr 8), some (mi x1)] [] σ Q := by
  refine WP.iload_n dX6_leaveCoats_2 rfl ?_
  refine WP.aload_n dX6_leaveCoats_3 rfl ?_
  refine WP.getI (v := σ 8 0) fd_X6_24 dX6_leaveCoats_4 g8 rfl rfl ?_
  refine WP.icmp_ge (tgt := 45) dX6_leaveCoats_7 (by decide) (fun q => ?_) (fun q => ?_)
  · have h := h.1 q
    exact WP.vret rfl dX6_leaveCoats_45 h
  · have h := h.2 q
    refine WP.aload_n dX6_leaveCoats_10 rfl ?_
    refine WP.getR fd_X6_15 dX6_leaveCoats_11 g8 rfl ?_
    refine WP.iload_n dX6_leaveCoats_14 rfl ?_
    obtain ⟨hi, h⟩ := h
    refine WP.iald dX6_leaveCoats_15 g10 hi ?_
    refine WP.bipush dX6_leaveCoats_16 (by decide) bp_10 ?_
    refine WP.icmp_lt (tgt := 39) dX6_leaveCoats_18 (by decide) (fun q => ?_) (fun q => ?_)
    · have h := h.1 q
      exact h
    · have h := h.2 q
      refine WP.aload_n dX6_leaveCoats_21 rfl ?_
      refine WP.getR fd_X6_15 dX6_leaveCoats_22 g8 rfl ?_
      refine WP.iload_n dX6_leaveCoats_25 rfl ?_
      obtain ⟨hi, h⟩ := h
      refine WP.iald dX6_leaveCoats_26 g10 hi ?_
      refine WP.bipush dX6_leaveCoats_27 (by decide) bp_30 ?_
      refine WP.icmp_ge (tgt := 39) dX6_leaveCoats_29 (by decide) (fun q => ?_) (fun q => ?_)
      · have h := h.1 q
        exact h
      · have h := h.2 q
        refine WP.aload_n dX6_leaveCoats_32 rfl ?_
        refine WP.getR fd_X6_15 dX6_leaveCoats_33 g8 rfl ?_
        refine WP.iload_n dX6_leaveCoats_36 rfl ?_
        refine WP.iconst dX6_leaveCoats_37 (by decide) ?_
        obtain ⟨hi, h⟩ := h
        refine WP.iast dX6_leaveCoats_38 g10 hi ?_
        exact h
set_option maxRecDepth 100000 in
set_option maxHeartbeats 4000000 in
theorem b_X6_leaveCoats_8_39 (x1 : Int) {σ : Mem} {Q : Int → Mem → Prop} (h : WP GC M_X6_leaveCoats 2 [some (mr 8), some (mi (jadd x1 1))] [] σ Q) : WP GC M_X6_leaveCoats 39 [some (mr 8), some (mi x1)] [] σ Q := by
  refine WP.iinc (L2 := [some (mr 8), some (mi (jadd x1 1))]) dX6_leaveCoats_39 (by decide) rfl (by decide) rfl ?_
  refine WP.goto (tgt := 2) dX6_leaveCoats_42 (by decide) ?_
  exact h
theorem dX0_anyOn_0 : decode cX0_anyOn 0 = .ok (.iconst 0, 1) := by decide +kernel
theorem dX0_anyOn_1 : decode cX0_anyOn 1 = .ok (.istore_n 2, 1) := by decide +kernel
theorem dX0_anyOn_2 : decode cX0_anyOn 2 = .ok (.iload_n 2, 1) := by decide +kernel
theorem dX0_anyOn_3 : decode cX0_anyOn 3 = .ok (.aload_n 0, 1) := by decide +kernel
theorem dX0_anyOn_4 : decode cX0_anyOn 4 = .ok (.getfield 24, 3) := by decide +kernel
theorem dX0_anyOn_7 : decode cX0_anyOn 7 = .ok (.if_icmp .ge 20, 3) := by decide +kernel
theorem dX0_anyOn_10 : decode cX0_anyOn 10 = .ok (.aload_n 0, 1) := by decide +kernel
theorem dX0_anyOn_11 : decode cX0_anyOn 11 = .ok (.iload_n 2, 1) := by decide +kernel
theorem dX0_anyOn_12 : decode cX0_anyOn 12 = .ok (.invokevirtual 38, 3) := by decide +kernel
theorem dX0_anyOn_15 : decode cX0_anyOn 15 = .ok (.iload_n 1, 1) := by decide +kernel
theorem dX0_anyOn_16 : decode cX0_anyOn 16 = .ok (.if_icmp .ne 5, 3) := by decide +kernel
theorem dX0_anyOn_19 : decode cX0_anyOn 19 = .ok (.iconst 1, 1) := by decide +kernel
theorem dX0_anyOn_20 : decode cX0_anyOn 20 = .ok (.ireturn, 1) := by decide +kernel
theorem dX0_anyOn_21 : decode cX0_anyOn 21 = .ok (.iinc 2 1, 3) := by decide +kernel
theorem dX0_anyOn_24 : decode cX0_anyOn 24 = .ok (.goto (-22), 3) := by decide +kernel
theorem dX0_anyOn_27 : decode cX0_anyOn 27 = .ok (.iconst 0, 1) := by decide +kernel
theorem dX0_anyOn_28 : decode cX0_anyOn 28 = .ok (.ireturn, 1) := by decide +kernel
set_option maxRecDepth 100000 in
set_option maxHeartbeats 4000000 in
theorem e_X0_anyOn_3 (x1 : Int) {σ : Mem} {Q : Int → Mem → Prop} (h : WP GC M_X0_anyOn 2 [some (mr 3), some (mi x1), some (mi 0)] [] σ Q) : HT GC M_X0_anyOn [mr 3, mi x1] σ Q := by
  refine HT.of pn_X0 (Nat.le_of_ble_eq_true rfl) ?_
  show WP GC M_X0_anyOn 0 [some (mr 3), some (mi x1), none] [] σ Q
  refine WP.iconst dX0_anyOn_0 (by decide) ?_
  refine WP.istore_n (L2 := [some (mr 3), some (mi x1), some (mi 0)]) dX0_anyOn_1 (by decide) rfl ?_
  exact h
set_option maxRecDepth 100000 in
set_option maxHeartbeats 4000000 in
theorem b_X0_anyOn_3_2 (x1 x2 : Int) {σ : Mem} {Q : Int → Mem → Prop} (h : (σ 3 0 ≤ x2 → Q 0 σ) ∧ (¬ σ 3 0 ≤ x2 → HT GC M_X0_wearer [mr 3, mi x2] σ (fun r12 σ12 => (¬ r12 = x1 → WP GC M_X0_anyOn 2 [some (mr 3), some (mi x1), some (mi (jadd x2 1))] [] σ12 Q) ∧ (r12 = x1 → Q 1 σ12)))) : WP GC M_X0_anyOn 2 [some (mr 3), some (mi x1), some (mi x2)] [] σ Q := by
  refine WP.iload_n dX0_anyOn_2 rfl ?_
  refine WP.aload_n dX0_anyOn_3 rfl ?_
  refine WP.getI (v := σ 3 0) fd_X0_24 dX0_anyOn_4 g3 rfl rfl ?_
  refine WP.icmp_ge (tgt := 27) dX0_anyOn_7 (by decide) (fun q => ?_) (fun q => ?_)
  · have h := h.1 q
    refine WP.iconst dX0_anyOn_27 (by decide) ?_
    exact WP.zret rfl dX0_anyOn_28 (by decide) h
  · have h := h.2 q
    refine WP.aload_n dX0_anyOn_10 rfl ?_
    refine WP.iload_n dX0_anyOn_11 rfl ?_
    refine WP.callV M_X0_wearer [mi x2] cv_X0_wearer dX0_anyOn_12 lk_X0_38 g3 rfl ft_X0_anyOn__X0_wearer rfl (Nat.le_of_ble_eq_true rfl) (HT.mono h ?_)
    rintro r12 σ12 - - h
    refine WP.iload_n dX0_anyOn_15 rfl ?_
    refine WP.icmp_ne (tgt := 21) dX0_anyOn_16 (by decide) (fun q => ?_) (fun q => ?_)
    · have h := h.1 q
      refine WP.iinc (L2 := [some (mr 3), some (mi x1), some (mi (jadd x2 1))]) dX0_anyOn_21 (by decide) rfl (by decide) rfl ?_
      refine WP.goto (tgt := 2) dX0_anyOn_24 (by decide) ?_
      exact h
    · have h := h.2 q
      refine WP.iconst dX0_anyOn_19 (by decide) ?_
      exact WP.zret rfl dX0_anyOn_20 (by decide) h
theorem dX6_readBy_0 : decode cX6_readBy 0 = .ok (.aload_n 0, 1) := by decide +kernel
theorem dX6_readBy_1 : decode cX6_readBy 1 = .ok (.getfield 9, 3) := by decide +kernel
theorem dX6_readBy_4 : decode cX6_readBy 4 = .ok (.iload_n 1, 1) := by decide +kernel
theorem dX6_readBy_5 : decode cX6_readBy 5 = .ok (.iaload, 1) := by decide +kernel
theorem dX6_readBy_6 : decode cX6_readBy 6 = .ok (.iconst 2, 1) := by decide +kernel
theorem dX6_readBy_7 : decode cX6_readBy 7 = .ok (.if_icmp .ne 15, 3) := by decide +kernel
theorem dX6_readBy_10 : decode cX6_readBy 10 = .ok (.aload_n 0, 1) := by decide +kernel
theorem dX6_readBy_11 : decode cX6_readBy 11 = .ok (.getfield 18, 3) := by decide +kernel
theorem dX6_readBy_14 : decode cX6_readBy 14 = .ok (.iload_n 1, 1) := by decide +kernel
theorem dX6_readBy_15 : decode cX6_readBy 15 = .ok (.dup2, 1) := by decide +kernel
theorem dX6_readBy_16 : decode cX6_readBy 16 = .ok (.iaload, 1) := by decide +kernel
theorem dX6_readBy_17 : decode cX6_readBy 17 = .ok (.iconst 1, 1) := by decide +kernel
theorem dX6_readBy_18 : decode cX6_readBy 18 = .ok (.iload_n 2, 1) := by decide +kernel
theorem dX6_readBy_19 : decode cX6_readBy 19 = .ok (.ishl, 1) := by decide +kernel
theorem dX6_readBy_20 : decode cX6_readBy 20 = .ok (.ior, 1) := by decide +kernel
theorem dX6_readBy_21 : decode cX6_readBy 21 = .ok (.iastore, 1) := by decide +kernel
theorem dX6_readBy_22 : decode cX6_readBy 22 = .ok (.return_, 1) := by decide +kernel
set_option maxRecDepth 100000 in
set_option maxHeartbeats 4000000 in
theorem e_X6_readBy_8 (x1 x2 : Int) {σ : Mem} {Q : Int → Mem → Prop} (h : (0 ≤ x1 ∧ x1 < 8) ∧ ((¬ σ 9 x1 = 2 → Q 0 σ) ∧ (σ 9 x1 = 2 → (0 ≤ x1 ∧ x1 < 8) ∧ ((0 ≤ x1 ∧ x1 < 8) ∧ (Q 0 (mupd σ 11 x1 (jor (σ 11 x1) (jshl 1 x2)))))))) : HT GC M_X6_readBy [mr 8, mi x1, mi x2] σ Q := by
  refine HT.of pn_X6 (Nat.le_of_ble_eq_true rfl) ?_
  show WP GC M_X6_readBy 0 [some (mr 8), some (mi x1), some (mi x2)] [] σ Q
  refine WP.aload_n dX6_readBy_0 rfl ?_
  refine WP.getR fd_X6_9 dX6_readBy_1 g8 rfl ?_
  refine WP.iload_n dX6_readBy_4 rfl ?_
  obtain ⟨hi, h⟩ := h
  refine WP.iald dX6_readBy_5 g9 hi ?_
  refine WP.iconst dX6_readBy_6 (by decide) ?_
  refine WP.icmp_ne (tgt := 22) dX6_readBy_7 (by decide) (fun q => ?_) (fun q => ?_)
  · have h := h.1 q
    exact WP.vret rfl dX6_readBy_22 h
  · have h := h.2 q
    refine WP.aload_n dX6_readBy_10 rfl ?_
    refine WP.getR fd_X6_18 dX6_readBy_11 g8 rfl ?_
    refine WP.iload_n dX6_readBy_14 rfl ?_
    refine WP.dup2 dX6_readBy_15 rfl rfl ?_
    obtain ⟨hi, h⟩ := h
    refine WP.iald dX6_readBy_16 g11 hi ?_
    refine WP.iconst dX6_readBy_17 (by decide) ?_
    refine WP.iload_n dX6_readBy_18 rfl ?_
    refine WP.ishl dX6_readBy_19 ?_
    refine WP.ior dX6_readBy_20 ?_
    obtain ⟨hi, h⟩ := h
    refine WP.iast dX6_readBy_21 g11 hi ?_
    exact WP.vret rfl dX6_readBy_22 h
theorem dX0_turnAll_0 : decode cX0_turnAll 0 = .ok (.iconst 0, 1) := by decide +kernel
theorem dX0_turnAll_1 : decode cX0_turnAll 1 = .ok (.istore_n 1, 1) := by decide +kernel
theorem dX0_turnAll_2 : decode cX0_turnAll 2 = .ok (.iload_n 1, 1) := by decide +kernel
theorem dX0_turnAll_3 : decode cX0_turnAll 3 = .ok (.aload_n 0, 1) := by decide +kernel
theorem dX0_turnAll_4 : decode cX0_turnAll 4 = .ok (.getfield 24, 3) := by decide +kernel
theorem dX0_turnAll_7 : decode cX0_turnAll 7 = .ok (.if_icmp .ge 44, 3) := by decide +kernel
theorem dX0_turnAll_10 : decode cX0_turnAll 10 = .ok (.aload_n 0, 1) := by decide +kernel
theorem dX0_turnAll_11 : decode cX0_turnAll 11 = .ok (.getfield 18, 3) := by decide +kernel
theorem dX0_turnAll_14 : decode cX0_turnAll 14 = .ok (.iload_n 1, 1) := by decide +kernel
theorem dX0_turnAll_15 : decode cX0_turnAll 15 = .ok (.aload_n 0, 1) := by decide +kernel
theorem dX0_turnAll_16 : decode cX0_turnAll 16 = .ok (.getfield 18, 3) := by decide +kernel
theorem dX0_turnAll_19 : decode cX0_turnAll 19 = .ok (.iload_n 1, 1) := by decide +kernel
theorem dX0_turnAll_20 : decode cX0_turnAll 20 = .ok (.iaload, 1) := by decide +kernel
theorem dX0_turnAll_21 : decode cX0_turnAll 21 = .ok (.iconst 1, 1) := by decide +kernel
theorem dX0_turnAll_22 : decode cX0_turnAll 22 = .ok (.iadd, 1) := by decide +kernel
theorem dX0_turnAll_23 : decode cX0_turnAll 23 = .ok (.aload_n 0, 1) := by decide +kernel
theorem dX0_turnAll_24 : decode cX0_turnAll 24 = .ok (.getfield 15, 3) := by decide +kernel
theorem dX0_turnAll_27 : decode cX0_turnAll 27 = .ok (.iload_n 1, 1) := by decide +kernel
theorem dX0_turnAll_28 : decode cX0_turnAll 28 = .ok (.iaload, 1) := by decide +kernel
theorem dX0_turnAll_29 : decode cX0_turnAll 29 = .ok (.if_icmp .ge 14, 3) := by decide +kernel
theorem dX0_turnAll_32 : decode cX0_turnAll 32 = .ok (.aload_n 0, 1) := by decide +kernel
theorem dX0_turnAll_33 : decode cX0_turnAll 33 = .ok (.getfield 18, 3) := by decide +kernel
theorem dX0_turnAll_36 : decode cX0_turnAll 36 = .ok (.iload_n 1, 1) := by decide +kernel
theorem dX0_turnAll_37 : decode cX0_turnAll 37 = .ok (.iaload, 1) := by decide +kernel
theorem dX0_turnAll_38 : decode cX0_turnAll 38 = .ok (.iconst 1, 1) := by decide +kernel
theorem dX0_turnAll_39 : decode cX0_turnAll 39 = .ok (.iadd, 1) := by decide +kernel
theorem dX0_turnAll_40 : decode cX0_turnAll 40 = .ok (.goto 4, 3) := by decide +kernel
theorem dX0_turnAll_43 : decode cX0_turnAll 43 = .ok (.iconst 0, 1) := by decide +kernel
theorem dX0_turnAll_44 : decode cX0_turnAll 44 = .ok (.iastore, 1) := by decide +kernel
theorem dX0_turnAll_45 : decode cX0_turnAll 45 = .ok (.iinc 1 1, 3) := by decide +kernel
theorem dX0_turnAll_48 : decode cX0_turnAll 48 = .ok (.goto (-46), 3) := by decide +kernel
theorem dX0_turnAll_51 : decode cX0_turnAll 51 = .ok (.return_, 1) := by decide +kernel
set_option maxRecDepth 100000 in
set_option maxHeartbeats 4000000 in
theorem e_X0_turnAll_3 {σ : Mem} {Q : Int → Mem → Prop} (h : WP GC M_X0_turnAll 2 [some (mr 3), some (mi 0)] [] σ Q) : HT GC M_X0_turnAll [mr 3] σ Q := by
  refine HT.of pn_X0 (Nat.le_of_ble_eq_true rfl) ?_
  show WP GC M_X0_turnAll 0 [some (mr 3), none] [] σ Q
  refine WP.iconst dX0_turnAll_0 (by decide) ?_
  refine WP.istore_n (L2 := [some (mr 3), some (mi 0)]) dX0_turnAll_1 (by decide) rfl ?_
  exact h
set_option maxRecDepth 100000 in
set_option maxHeartbeats 4000000 in
theorem b_X0_turnAll_3_2 (x1 : Int) {σ : Mem} {Q : Int → Mem → Prop} (h : (σ 3 0 ≤ x1 → Q 0 σ) ∧ (¬ σ 3 0 ≤ x1 → (0 ≤ x1 ∧ x1 < 4) ∧ ((0 ≤ x1 ∧ x1 < 4) ∧ ((σ 5 x1 ≤ jadd (σ 6 x1) 1 → WP GC M_X0_turnAll 44 [some (mr 3), some (mi x1)] [mi 0, mi x1, mr 6] σ Q) ∧ (¬ σ 5 x1 ≤ jadd (σ 6 x1) 1 → (0 ≤ x1 ∧ x1 < 4) ∧ (WP GC M_X0_turnAll 44 [some (mr 3), some (mi x1)] [mi (jadd (σ 6 x1) 1), mi x1, mr 6] σ Q)))))) : WP GC M_X0_turnAll 2 [some (mr 3), some (mi x1)] [] σ Q := by
  refine WP.iload_n dX0_turnAll_2 rfl ?_
  refine WP.aload_n dX0_turnAll_3 rfl ?_
  refine WP.getI (v := σ 3 0) fd_X0_24 dX0_turnAll_4 g3 rfl rfl ?_
  refine WP.icmp_ge (tgt := 51) dX0_turnAll_7 (by decide) (fun q => ?_) (fun q => ?_)
  · have h := h.1 q
    exact WP.vret rfl dX0_turnAll_51 h
  · have h := h.2 q
    refine WP.aload_n dX0_turnAll_10 rfl ?_
    refine WP.getR fd_X0_18 dX0_turnAll_11 g3 rfl ?_
    refine WP.iload_n dX0_turnAll_14 rfl ?_
    refine WP.aload_n dX0_turnAll_15 rfl ?_
    refine WP.getR fd_X0_18 dX0_turnAll_16 g3 rfl ?_
    refine WP.iload_n dX0_turnAll_19 rfl ?_
    obtain ⟨hi, h⟩ := h
    refine WP.iald dX0_turnAll_20 g6 hi ?_
    refine WP.iconst dX0_turnAll_21 (by decide) ?_
    refine WP.iadd dX0_turnAll_22 ?_
    refine WP.aload_n dX0_turnAll_23 rfl ?_
    refine WP.getR fd_X0_15 dX0_turnAll_24 g3 rfl ?_
    refine WP.iload_n dX0_turnAll_27 rfl ?_
    obtain ⟨hi, h⟩ := h
    refine WP.iald dX0_turnAll_28 g5 hi ?_
    refine WP.icmp_ge (tgt := 43) dX0_turnAll_29 (by decide) (fun q => ?_) (fun q => ?_)
    · have h := h.1 q
      refine WP.iconst dX0_turnAll_43 (by decide) ?_
      exact h
    · have h := h.2 q
      refine WP.aload_n dX0_turnAll_32 rfl ?_
      refine WP.getR fd_X0_18 dX0_turnAll_33 g3 rfl ?_
      refine WP.iload_n dX0_turnAll_36 rfl ?_
      obtain ⟨hi, h⟩ := h
      refine WP.iald dX0_turnAll_37 g6 hi ?_
      refine WP.iconst dX0_turnAll_38 (by decide) ?_
      refine WP.iadd dX0_turnAll_39 ?_
      refine WP.goto (tgt := 44) dX0_turnAll_40 (by decide) ?_
      exact h
set_option maxRecDepth 100000 in
set_option maxHeartbeats 4000000 in
theorem b_X0_turnAll_3_44 (x1 s0 s1 : Int) {σ : Mem} {Q : Int → Mem → Prop} (h : (0 ≤ s1 ∧ s1 < 4) ∧ (WP GC M_X0_turnAll 2 [some (mr 3), some (mi (jadd x1 1))] [] (mupd σ 6 s1 s0) Q)) : WP GC M_X0_turnAll 44 [some (mr 3), some (mi x1)] [mi s0, mi s1, mr 6] σ Q := by
  obtain ⟨hi, h⟩ := h
  refine WP.iast dX0_turnAll_44 g6 hi ?_
  refine WP.iinc (L2 := [some (mr 3), some (mi (jadd x1 1))]) dX0_turnAll_45 (by decide) rfl (by decide) rfl ?_
  refine WP.goto (tgt := 2) dX0_turnAll_48 (by decide) ?_
  exact h
theorem dX6_inPocket_0 : decode cX6_inPocket 0 = .ok (.aload_n 0, 1) := by decide +kernel
theorem dX6_inPocket_1 : decode cX6_inPocket 1 = .ok (.getfield 15, 3) := by decide +kernel
theorem dX6_inPocket_4 : decode cX6_inPocket 4 = .ok (.iload_n 1, 1) := by decide +kernel
theorem dX6_inPocket_5 : decode cX6_inPocket 5 = .ok (.iaload, 1) := by decide +kernel
theorem dX6_inPocket_6 : decode cX6_inPocket 6 = .ok (.bipush 10, 2) := by decide +kernel
theorem dX6_inPocket_8 : decode cX6_inPocket 8 = .ok (.if_icmp .lt 18, 3) := by decide +kernel
theorem dX6_inPocket_11 : decode cX6_inPocket 11 = .ok (.aload_n 0, 1) := by decide +kernel
theorem dX6_inPocket_12 : decode cX6_inPocket 12 = .ok (.getfield 15, 3) := by decide +kernel
theorem dX6_inPocket_15 : decode cX6_inPocket 15 = .ok (.iload_n 1, 1) := by decide +kernel
theorem dX6_inPocket_16 : decode cX6_inPocket 16 = .ok (.iaload, 1) := by decide +kernel
theorem dX6_inPocket_17 : decode cX6_inPocket 17 = .ok (.bipush 20, 2) := by decide +kernel
theorem dX6_inPocket_19 : decode cX6_inPocket 19 = .ok (.if_icmp .ge 7, 3) := by decide +kernel
theorem dX6_inPocket_22 : decode cX6_inPocket 22 = .ok (.iconst 1, 1) := by decide +kernel
theorem dX6_inPocket_23 : decode cX6_inPocket 23 = .ok (.goto 4, 3) := by decide +kernel
theorem dX6_inPocket_26 : decode cX6_inPocket 26 = .ok (.iconst 0, 1) := by decide +kernel
theorem dX6_inPocket_27 : decode cX6_inPocket 27 = .ok (.ireturn, 1) := by decide +kernel
set_option maxRecDepth 100000 in
set_option maxHeartbeats 4000000 in
theorem e_X6_inPocket_8 (x1 : Int) {σ : Mem} {Q : Int → Mem → Prop} (h : (0 ≤ x1 ∧ x1 < 8) ∧ ((σ 10 x1 < 10 → Q 0 σ) ∧ (¬ σ 10 x1 < 10 → (0 ≤ x1 ∧ x1 < 8) ∧ ((20 ≤ σ 10 x1 → Q 0 σ) ∧ (¬ 20 ≤ σ 10 x1 → Q 1 σ))))) : HT GC M_X6_inPocket [mr 8, mi x1] σ Q := by
  refine HT.of pn_X6 (Nat.le_of_ble_eq_true rfl) ?_
  show WP GC M_X6_inPocket 0 [some (mr 8), some (mi x1)] [] σ Q
  refine WP.aload_n dX6_inPocket_0 rfl ?_
  refine WP.getR fd_X6_15 dX6_inPocket_1 g8 rfl ?_
  refine WP.iload_n dX6_inPocket_4 rfl ?_
  obtain ⟨hi, h⟩ := h
  refine WP.iald dX6_inPocket_5 g10 hi ?_
  refine WP.bipush dX6_inPocket_6 (by decide) bp_10 ?_
  refine WP.icmp_lt (tgt := 26) dX6_inPocket_8 (by decide) (fun q => ?_) (fun q => ?_)
  · have h := h.1 q
    refine WP.iconst dX6_inPocket_26 (by decide) ?_
    exact WP.zret rfl dX6_inPocket_27 (by decide) h
  · have h := h.2 q
    refine WP.aload_n dX6_inPocket_11 rfl ?_
    refine WP.getR fd_X6_15 dX6_inPocket_12 g8 rfl ?_
    refine WP.iload_n dX6_inPocket_15 rfl ?_
    obtain ⟨hi, h⟩ := h
    refine WP.iald dX6_inPocket_16 g10 hi ?_
    refine WP.bipush dX6_inPocket_17 (by decide) bp_20 ?_
    refine WP.icmp_ge (tgt := 26) dX6_inPocket_19 (by decide) (fun q => ?_) (fun q => ?_)
    · have h := h.1 q
      refine WP.iconst dX6_inPocket_26 (by decide) ?_
      exact WP.zret rfl dX6_inPocket_27 (by decide) h
    · have h := h.2 q
      refine WP.iconst dX6_inPocket_22 (by decide) ?_
      refine WP.goto (tgt := 27) dX6_inPocket_23 (by decide) ?_
      exact WP.zret rfl dX6_inPocket_27 (by decide) h
theorem dX6_between_0 : decode cX6_between 0 = .ok (.iconst 0, 1) := by decide +kernel
theorem dX6_between_1 : decode cX6_between 1 = .ok (.istore_n 3, 1) := by decide +kernel
theorem dX6_between_2 : decode cX6_between 2 = .ok (.iconst 0, 1) := by decide +kernel
theorem dX6_between_3 : decode cX6_between 3 = .ok (.istore 4, 2) := by decide +kernel
theorem dX6_between_5 : decode cX6_between 5 = .ok (.iload 4, 2) := by decide +kernel
theorem dX6_between_7 : decode cX6_between 7 = .ok (.aload_n 0, 1) := by decide +kernel
theorem dX6_between_8 : decode cX6_between 8 = .ok (.getfield 24, 3) := by decide +kernel
theorem dX6_between_11 : decode cX6_between 11 = .ok (.if_icmp .ge 34, 3) := by decide +kernel
theorem dX6_between_14 : decode cX6_between 14 = .ok (.aload_n 0, 1) := by decide +kernel
theorem dX6_between_15 : decode cX6_between 15 = .ok (.getfield 15, 3) := by decide +kernel
theorem dX6_between_18 : decode cX6_between 18 = .ok (.iload 4, 2) := by decide +kernel
theorem dX6_between_20 : decode cX6_between 20 = .ok (.iaload, 1) := by decide +kernel
theorem dX6_between_21 : decode cX6_between 21 = .ok (.iload_n 1, 1) := by decide +kernel
theorem dX6_between_22 : decode cX6_between 22 = .ok (.if_icmp .lt 17, 3) := by decide +kernel
theorem dX6_between_25 : decode cX6_between 25 = .ok (.aload_n 0, 1) := by decide +kernel
theorem dX6_between_26 : decode cX6_between 26 = .ok (.getfield 15, 3) := by decide +kernel
theorem dX6_between_29 : decode cX6_between 29 = .ok (.iload 4, 2) := by decide +kernel
theorem dX6_between_31 : decode cX6_between 31 = .ok (.iaload, 1) := by decide +kernel
theorem dX6_between_32 : decode cX6_between 32 = .ok (.iload_n 2, 1) := by decide +kernel
theorem dX6_between_33 : decode cX6_between 33 = .ok (.if_icmp .ge 6, 3) := by decide +kernel
theorem dX6_between_36 : decode cX6_between 36 = .ok (.iinc 3 1, 3) := by decide +kernel
theorem dX6_between_39 : decode cX6_between 39 = .ok (.iinc 4 1, 3) := by decide +kernel
theorem dX6_between_42 : decode cX6_between 42 = .ok (.goto (-37), 3) := by decide +kernel
theorem dX6_between_45 : decode cX6_between 45 = .ok (.iload_n 3, 1) := by decide +kernel
theorem dX6_between_46 : decode cX6_between 46 = .ok (.ireturn, 1) := by decide +kernel
set_option maxRecDepth 100000 in
set_option maxHeartbeats 4000000 in
theorem e_X6_between_8 (x1 x2 : Int) {σ : Mem} {Q : Int → Mem → Prop} (h : WP GC M_X6_between 5 [some (mr 8), some (mi x1), some (mi x2), some (mi 0), some (mi 0)] [] σ Q) : HT GC M_X6_between [mr 8, mi x1, mi x2] σ Q := by
  refine HT.of pn_X6 (Nat.le_of_ble_eq_true rfl) ?_
  show WP GC M_X6_between 0 [some (mr 8), some (mi x1), some (mi x2), none, none] [] σ Q
  refine WP.iconst dX6_between_0 (by decide) ?_
  refine WP.istore_n (L2 := [some (mr 8), some (mi x1), some (mi x2), some (mi 0), none]) dX6_between_1 (by decide) rfl ?_
  refine WP.iconst dX6_between_2 (by decide) ?_
  refine WP.istore (L2 := [some (mr 8), some (mi x1), some (mi x2), some (mi 0), some (mi 0)]) dX6_between_3 (by decide) rfl ?_
  exact h
set_option maxRecDepth 100000 in
set_option maxHeartbeats 4000000 in
theorem b_X6_between_8_5 (x1 x2 x3 x4 : Int) {σ : Mem} {Q : Int → Mem → Prop} (h : (σ 8 0 ≤ x4 → Q x3 σ) ∧ (¬ σ 8 0 ≤ x4 → (0 ≤ x4 ∧ x4 < 8) ∧ ((σ 10 x4 < x1 → WP GC M_X6_between 39 [some (mr 8), some (mi x1), some (mi x2), some (mi x3), some (mi x4)] [] σ Q) ∧ (¬ σ 10 x4 < x1 → (0 ≤ x4 ∧ x4 < 8) ∧ ((x2 ≤ σ 10 x4 → WP GC M_X6_between 39 [some (mr 8), some (mi x1), some (mi x2), some (mi x3), some (mi x4)] [] σ Q) ∧ (¬ x2 ≤ σ 10 x4 → WP GC M_X6_between 39 [some (mr 8), some (mi x1), some (mi x2), some (mi (jadd x3 1)), some (mi x4)] [] σ Q)))))) : WP GC M_X6_between 5 [some (mr 8), some (mi x1), some (mi x2), some (mi x3), some (mi x4)] [] σ Q := by
  refine WP.iload dX6_between_5 rfl ?_
  refine WP.aload_n dX6_between_7 rfl ?_
  refine WP.getI (v := σ 8 0) fd_X6_24 dX6_between_8 g8 rfl rfl ?_
  refine WP.icmp_ge (tgt := 45) dX6_between_11 (by decide) (fun q => ?_) (fun q => ?_)
  · have h := h.1 q
    refine WP.iload_n dX6_between_45 rfl ?_
    exact WP.iret rfl dX6_between_46 h
  · have h := h.2 q
    refine WP.aload_n dX6_between_14 rfl ?_
    refine WP.getR fd_X6_15 dX6_between_15 g8 rfl ?_
    refine WP.iload dX6_between_18 rfl ?_
    obtain ⟨hi, h⟩ := h
    refine WP.iald dX6_between_20 g10 hi ?_
    refine WP.iload_n dX6_between_21 rfl ?_
    refine WP.icmp_lt (tgt := 39) dX6_between_22 (by decide) (fun q => ?_) (fun q => ?_)
    · have h := h.1 q
      exact h
    · have h := h.2 q
      refine WP.aload_n dX6_between_25 rfl ?_
      refine WP.getR fd_X6_15 dX6_between_26 g8 rfl ?_
      refine WP.iload dX6_between_29 rfl ?_
      obtain ⟨hi, h⟩ := h
      refine WP.iald dX6_between_31 g10 hi ?_
      refine WP.iload_n dX6_between_32 rfl ?_
      refine WP.icmp_ge (tgt := 39) dX6_between_33 (by decide) (fun q => ?_) (fun q => ?_)
      · have h := h.1 q
        exact h
      · have h := h.2 q
        refine WP.iinc (L2 := [some (mr 8), some (mi x1), some (mi x2), some (mi (jadd x3 1)), some (mi x4)]) dX6_between_36 (by decide) rfl (by decide) rfl ?_
        exact h
set_option maxRecDepth 100000 in
set_option maxHeartbeats 4000000 in
theorem b_X6_between_8_39 (x1 x2 x3 x4 : Int) {σ : Mem} {Q : Int → Mem → Prop} (h : WP GC M_X6_between 5 [some (mr 8), some (mi x1), some (mi x2), some (mi x3), some (mi (jadd x4 1))] [] σ Q) : WP GC M_X6_between 39 [some (mr 8), some (mi x1), some (mi x2), some (mi x3), some (mi x4)] [] σ Q := by
  refine WP.iinc (L2 := [some (mr 8), some (mi x1), some (mi x2), some (mi x3), some (mi (jadd x4 1))]) dX6_between_39 (by decide) rfl (by decide) rfl ?_
  refine WP.goto (tgt := 5) dX6_between_42 (by decide) ?_
  exact h
set_option maxRecDepth 100000 in
set_option maxHeartbeats 4000000 in
theorem e_X0_become_35_3 {σ : Mem} {Q : Int → Mem → Prop} (h : Q 0 (mcpy (mcpy (mcpy (mcpy (mupd σ 35 0 (σ 3 0)) 4 0 36 0 16) 5 0 37 0 4) 6 0 38 0 4) 7 0 39 0 4)) : HT GC M_X0_become [mr 35, mr 3] σ Q := by
  refine HT.of pn_X0 (Nat.le_of_ble_eq_true rfl) ?_
  show WP GC M_X0_become 0 [some (mr 35), some (mr 3)] [] σ Q
  refine WP.aload_n dX0_become_0 rfl ?_
  refine WP.aload_n dX0_become_1 rfl ?_
  refine WP.getI (v := σ 3 0) fd_X0_24 dX0_become_2 g3 rfl rfl ?_
  refine WP.put fp_X0_24 dX0_become_5 g35 rfl rfl rfl ?_
  refine WP.aload_n dX0_become_8 rfl ?_
  refine WP.getR fd_X0_9 dX0_become_9 g3 rfl ?_
  refine WP.iconst dX0_become_12 (by decide) ?_
  refine WP.aload_n dX0_become_13 rfl ?_
  refine WP.getR fd_X0_9 dX0_become_14 g35 rfl ?_
  refine WP.iconst dX0_become_17 (by decide) ?_
  refine WP.bipush dX0_become_18 (by decide) bp_16 ?_
  refine WP.acopy ac_X0_28 dX0_become_20 g4 g36 (by decide) (by decide) (Nat.le_of_ble_eq_true rfl) ?_
  refine WP.aload_n dX0_become_23 rfl ?_
  refine WP.getR fd_X0_15 dX0_become_24 g3 rfl ?_
  refine WP.iconst dX0_become_27 (by decide) ?_
  refine WP.aload_n dX0_become_28 rfl ?_
  refine WP.getR fd_X0_15 dX0_become_29 g35 rfl ?_
  refine WP.iconst dX0_become_32 (by decide) ?_
  refine WP.iconst dX0_become_33 (by decide) ?_
  refine WP.acopy ac_X0_28 dX0_become_34 g5 g37 (by decide) (by decide) (Nat.le_of_ble_eq_true rfl) ?_
  refine WP.aload_n dX0_become_37 rfl ?_
  refine WP.getR fd_X0_18 dX0_become_38 g3 rfl ?_
  refine WP.iconst dX0_become_41 (by decide) ?_
  refine WP.aload_n dX0_become_42 rfl ?_
  refine WP.getR fd_X0_18 dX0_become_43 g35 rfl ?_
  refine WP.iconst dX0_become_46 (by decide) ?_
  refine WP.iconst dX0_become_47 (by decide) ?_
  refine WP.acopy ac_X0_28 dX0_become_48 g6 g38 (by decide) (by decide) (Nat.le_of_ble_eq_true rfl) ?_
  refine WP.aload_n dX0_become_51 rfl ?_
  refine WP.getR fd_X0_21 dX0_become_52 g3 rfl ?_
  refine WP.iconst dX0_become_55 (by decide) ?_
  refine WP.aload_n dX0_become_56 rfl ?_
  refine WP.getR fd_X0_21 dX0_become_57 g35 rfl ?_
  refine WP.iconst dX0_become_60 (by decide) ?_
  refine WP.iconst dX0_become_61 (by decide) ?_
  refine WP.acopy ac_X0_28 dX0_become_62 g7 g39 (by decide) (by decide) (Nat.le_of_ble_eq_true rfl) ?_
  exact WP.vret rfl dX0_become_65 h
set_option maxRecDepth 100000 in
set_option maxHeartbeats 4000000 in
theorem e_X0_wearer_35 (x1 : Int) {σ : Mem} {Q : Int → Mem → Prop} (h : (0 ≤ x1 ∧ x1 < 4) ∧ ((0 ≤ jadd (jmul x1 4) (σ 38 x1) ∧ jadd (jmul x1 4) (σ 38 x1) < 16) ∧ (Q (σ 36 (jadd (jmul x1 4) (σ 38 x1))) σ))) : HT GC M_X0_wearer [mr 35, mi x1] σ Q := by
  refine HT.of pn_X0 (Nat.le_of_ble_eq_true rfl) ?_
  show WP GC M_X0_wearer 0 [some (mr 35), some (mi x1)] [] σ Q
  refine WP.aload_n dX0_wearer_0 rfl ?_
  refine WP.getR fd_X0_9 dX0_wearer_1 g35 rfl ?_
  refine WP.iload_n dX0_wearer_4 rfl ?_
  refine WP.iconst dX0_wearer_5 (by decide) ?_
  refine WP.imul dX0_wearer_6 ?_
  refine WP.aload_n dX0_wearer_7 rfl ?_
  refine WP.getR fd_X0_18 dX0_wearer_8 g35 rfl ?_
  refine WP.iload_n dX0_wearer_11 rfl ?_
  obtain ⟨hi, h⟩ := h
  refine WP.iald dX0_wearer_12 g38 hi ?_
  refine WP.iadd dX0_wearer_13 ?_
  obtain ⟨hi, h⟩ := h
  refine WP.iald dX0_wearer_14 g36 hi ?_
  exact WP.iret rfl dX0_wearer_15 h
set_option maxRecDepth 100000 in
set_option maxHeartbeats 4000000 in
theorem e_X0_turnAll_35 {σ : Mem} {Q : Int → Mem → Prop} (h : WP GC M_X0_turnAll 2 [some (mr 35), some (mi 0)] [] σ Q) : HT GC M_X0_turnAll [mr 35] σ Q := by
  refine HT.of pn_X0 (Nat.le_of_ble_eq_true rfl) ?_
  show WP GC M_X0_turnAll 0 [some (mr 35), none] [] σ Q
  refine WP.iconst dX0_turnAll_0 (by decide) ?_
  refine WP.istore_n (L2 := [some (mr 35), some (mi 0)]) dX0_turnAll_1 (by decide) rfl ?_
  exact h
set_option maxRecDepth 100000 in
set_option maxHeartbeats 4000000 in
theorem b_X0_turnAll_35_2 (x1 : Int) {σ : Mem} {Q : Int → Mem → Prop} (h : (σ 35 0 ≤ x1 → Q 0 σ) ∧ (¬ σ 35 0 ≤ x1 → (0 ≤ x1 ∧ x1 < 4) ∧ ((0 ≤ x1 ∧ x1 < 4) ∧ ((σ 37 x1 ≤ jadd (σ 38 x1) 1 → WP GC M_X0_turnAll 44 [some (mr 35), some (mi x1)] [mi 0, mi x1, mr 38] σ Q) ∧ (¬ σ 37 x1 ≤ jadd (σ 38 x1) 1 → (0 ≤ x1 ∧ x1 < 4) ∧ (WP GC M_X0_turnAll 44 [some (mr 35), some (mi x1)] [mi (jadd (σ 38 x1) 1), mi x1, mr 38] σ Q)))))) : WP GC M_X0_turnAll 2 [some (mr 35), some (mi x1)] [] σ Q := by
  refine WP.iload_n dX0_turnAll_2 rfl ?_
  refine WP.aload_n dX0_turnAll_3 rfl ?_
  refine WP.getI (v := σ 35 0) fd_X0_24 dX0_turnAll_4 g35 rfl rfl ?_
  refine WP.icmp_ge (tgt := 51) dX0_turnAll_7 (by decide) (fun q => ?_) (fun q => ?_)
  · have h := h.1 q
    exact WP.vret rfl dX0_turnAll_51 h
  · have h := h.2 q
    refine WP.aload_n dX0_turnAll_10 rfl ?_
    refine WP.getR fd_X0_18 dX0_turnAll_11 g35 rfl ?_
    refine WP.iload_n dX0_turnAll_14 rfl ?_
    refine WP.aload_n dX0_turnAll_15 rfl ?_
    refine WP.getR fd_X0_18 dX0_turnAll_16 g35 rfl ?_
    refine WP.iload_n dX0_turnAll_19 rfl ?_
    obtain ⟨hi, h⟩ := h
    refine WP.iald dX0_turnAll_20 g38 hi ?_
    refine WP.iconst dX0_turnAll_21 (by decide) ?_
    refine WP.iadd dX0_turnAll_22 ?_
    refine WP.aload_n dX0_turnAll_23 rfl ?_
    refine WP.getR fd_X0_15 dX0_turnAll_24 g35 rfl ?_
    refine WP.iload_n dX0_turnAll_27 rfl ?_
    obtain ⟨hi, h⟩ := h
    refine WP.iald dX0_turnAll_28 g37 hi ?_
    refine WP.icmp_ge (tgt := 43) dX0_turnAll_29 (by decide) (fun q => ?_) (fun q => ?_)
    · have h := h.1 q
      refine WP.iconst dX0_turnAll_43 (by decide) ?_
      exact h
    · have h := h.2 q
      refine WP.aload_n dX0_turnAll_32 rfl ?_
      refine WP.getR fd_X0_18 dX0_turnAll_33 g35 rfl ?_
      refine WP.iload_n dX0_turnAll_36 rfl ?_
      obtain ⟨hi, h⟩ := h
      refine WP.iald dX0_turnAll_37 g38 hi ?_
      refine WP.iconst dX0_turnAll_38 (by decide) ?_
      refine WP.iadd dX0_turnAll_39 ?_
      refine WP.goto (tgt := 44) dX0_turnAll_40 (by decide) ?_
      exact h
set_option maxRecDepth 100000 in
set_option maxHeartbeats 4000000 in
theorem b_X0_turnAll_35_44 (x1 s0 s1 : Int) {σ : Mem} {Q : Int → Mem → Prop} (h : (0 ≤ s1 ∧ s1 < 4) ∧ (WP GC M_X0_turnAll 2 [some (mr 35), some (mi (jadd x1 1))] [] (mupd σ 38 s1 s0) Q)) : WP GC M_X0_turnAll 44 [some (mr 35), some (mi x1)] [mi s0, mi s1, mr 38] σ Q := by
  obtain ⟨hi, h⟩ := h
  refine WP.iast dX0_turnAll_44 g38 hi ?_
  refine WP.iinc (L2 := [some (mr 35), some (mi (jadd x1 1))]) dX0_turnAll_45 (by decide) rfl (by decide) rfl ?_
  refine WP.goto (tgt := 2) dX0_turnAll_48 (by decide) ?_
  exact h
theorem dX0_swap_0 : decode cX0_swap 0 = .ok (.aload_n 0, 1) := by decide +kernel
theorem dX0_swap_1 : decode cX0_swap 1 = .ok (.getfield 9, 3) := by decide +kernel
theorem dX0_swap_4 : decode cX0_swap 4 = .ok (.iload_n 1, 1) := by decide +kernel
theorem dX0_swap_5 : decode cX0_swap 5 = .ok (.iaload, 1) := by decide +kernel
theorem dX0_swap_6 : decode cX0_swap 6 = .ok (.istore_n 3, 1) := by decide +kernel
theorem dX0_swap_7 : decode cX0_swap 7 = .ok (.aload_n 0, 1) := by decide +kernel
theorem dX0_swap_8 : decode cX0_swap 8 = .ok (.getfield 9, 3) := by decide +kernel
theorem dX0_swap_11 : decode cX0_swap 11 = .ok (.iload_n 1, 1) := by decide +kernel
theorem dX0_swap_12 : decode cX0_swap 12 = .ok (.aload_n 0, 1) := by decide +kernel
theorem dX0_swap_13 : decode cX0_swap 13 = .ok (.getfield 9, 3) := by decide +kernel
theorem dX0_swap_16 : decode cX0_swap 16 = .ok (.iload_n 2, 1) := by decide +kernel
theorem dX0_swap_17 : decode cX0_swap 17 = .ok (.iaload, 1) := by decide +kernel
theorem dX0_swap_18 : decode cX0_swap 18 = .ok (.iastore, 1) := by decide +kernel
theorem dX0_swap_19 : decode cX0_swap 19 = .ok (.aload_n 0, 1) := by decide +kernel
theorem dX0_swap_20 : decode cX0_swap 20 = .ok (.getfield 9, 3) := by decide +kernel
theorem dX0_swap_23 : decode cX0_swap 23 = .ok (.iload_n 2, 1) := by decide +kernel
theorem dX0_swap_24 : decode cX0_swap 24 = .ok (.iload_n 3, 1) := by decide +kernel
theorem dX0_swap_25 : decode cX0_swap 25 = .ok (.iastore, 1) := by decide +kernel
theorem dX0_swap_26 : decode cX0_swap 26 = .ok (.return_, 1) := by decide +kernel
set_option maxRecDepth 100000 in
set_option maxHeartbeats 4000000 in
theorem e_X0_swap_35 (x1 x2 : Int) {σ : Mem} {Q : Int → Mem → Prop} (h : (0 ≤ x1 ∧ x1 < 16) ∧ ((0 ≤ x2 ∧ x2 < 16) ∧ ((0 ≤ x1 ∧ x1 < 16) ∧ ((0 ≤ x2 ∧ x2 < 16) ∧ (Q 0 (mupd (mupd σ 36 x1 (σ 36 x2)) 36 x2 (σ 36 x1))))))) : HT GC M_X0_swap [mr 35, mi x1, mi x2] σ Q := by
  refine HT.of pn_X0 (Nat.le_of_ble_eq_true rfl) ?_
  show WP GC M_X0_swap 0 [some (mr 35), some (mi x1), some (mi x2), none] [] σ Q
  refine WP.aload_n dX0_swap_0 rfl ?_
  refine WP.getR fd_X0_9 dX0_swap_1 g35 rfl ?_
  refine WP.iload_n dX0_swap_4 rfl ?_
  obtain ⟨hi, h⟩ := h
  refine WP.iald dX0_swap_5 g36 hi ?_
  refine WP.istore_n (L2 := [some (mr 35), some (mi x1), some (mi x2), some (mi (σ 36 x1))]) dX0_swap_6 (by decide) rfl ?_
  refine WP.aload_n dX0_swap_7 rfl ?_
  refine WP.getR fd_X0_9 dX0_swap_8 g35 rfl ?_
  refine WP.iload_n dX0_swap_11 rfl ?_
  refine WP.aload_n dX0_swap_12 rfl ?_
  refine WP.getR fd_X0_9 dX0_swap_13 g35 rfl ?_
  refine WP.iload_n dX0_swap_16 rfl ?_
  obtain ⟨hi, h⟩ := h
  refine WP.iald dX0_swap_17 g36 hi ?_
  obtain ⟨hi, h⟩ := h
  refine WP.iast dX0_swap_18 g36 hi ?_
  refine WP.aload_n dX0_swap_19 rfl ?_
  refine WP.getR fd_X0_9 dX0_swap_20 g35 rfl ?_
  refine WP.iload_n dX0_swap_23 rfl ?_
  refine WP.iload_n dX0_swap_24 rfl ?_
  obtain ⟨hi, h⟩ := h
  refine WP.iast dX0_swap_25 g36 hi ?_
  exact WP.vret rfl dX0_swap_26 h
theorem dX0_sortTurn_0 : decode cX0_sortTurn 0 = .ok (.iload_n 1, 1) := by decide +kernel
theorem dX0_sortTurn_1 : decode cX0_sortTurn 1 = .ok (.iconst 4, 1) := by decide +kernel
theorem dX0_sortTurn_2 : decode cX0_sortTurn 2 = .ok (.imul, 1) := by decide +kernel
theorem dX0_sortTurn_3 : decode cX0_sortTurn 3 = .ok (.istore_n 2, 1) := by decide +kernel
theorem dX0_sortTurn_4 : decode cX0_sortTurn 4 = .ok (.iload_n 2, 1) := by decide +kernel
theorem dX0_sortTurn_5 : decode cX0_sortTurn 5 = .ok (.istore_n 3, 1) := by decide +kernel
theorem dX0_sortTurn_6 : decode cX0_sortTurn 6 = .ok (.iload_n 3, 1) := by decide +kernel
theorem dX0_sortTurn_7 : decode cX0_sortTurn 7 = .ok (.iload_n 2, 1) := by decide +kernel
theorem dX0_sortTurn_8 : decode cX0_sortTurn 8 = .ok (.aload_n 0, 1) := by decide +kernel
theorem dX0_sortTurn_9 : decode cX0_sortTurn 9 = .ok (.getfield 15, 3) := by decide +kernel
theorem dX0_sortTurn_12 : decode cX0_sortTurn 12 = .ok (.iload_n 1, 1) := by decide +kernel
theorem dX0_sortTurn_13 : decode cX0_sortTurn 13 = .ok (.iaload, 1) := by decide +kernel
theorem dX0_sortTurn_14 : decode cX0_sortTurn 14 = .ok (.iadd, 1) := by decide +kernel
theorem dX0_sortTurn_15 : decode cX0_sortTurn 15 = .ok (.if_icmp .ge 56, 3) := by decide +kernel
theorem dX0_sortTurn_18 : decode cX0_sortTurn 18 = .ok (.iload_n 3, 1) := by decide +kernel
theorem dX0_sortTurn_19 : decode cX0_sortTurn 19 = .ok (.iconst 1, 1) := by decide +kernel
theorem dX0_sortTurn_20 : decode cX0_sortTurn 20 = .ok (.iadd, 1) := by decide +kernel
theorem dX0_sortTurn_21 : decode cX0_sortTurn 21 = .ok (.istore 4, 2) := by decide +kernel
theorem dX0_sortTurn_23 : decode cX0_sortTurn 23 = .ok (.iload 4, 2) := by decide +kernel
theorem dX0_sortTurn_25 : decode cX0_sortTurn 25 = .ok (.iload_n 2, 1) := by decide +kernel
theorem dX0_sortTurn_26 : decode cX0_sortTurn 26 = .ok (.aload_n 0, 1) := by decide +kernel
theorem dX0_sortTurn_27 : decode cX0_sortTurn 27 = .ok (.getfield 15, 3) := by decide +kernel
theorem dX0_sortTurn_30 : decode cX0_sortTurn 30 = .ok (.iload_n 1, 1) := by decide +kernel
theorem dX0_sortTurn_31 : decode cX0_sortTurn 31 = .ok (.iaload, 1) := by decide +kernel
theorem dX0_sortTurn_32 : decode cX0_sortTurn 32 = .ok (.iadd, 1) := by decide +kernel
theorem dX0_sortTurn_33 : decode cX0_sortTurn 33 = .ok (.if_icmp .ge 32, 3) := by decide +kernel
theorem dX0_sortTurn_36 : decode cX0_sortTurn 36 = .ok (.aload_n 0, 1) := by decide +kernel
theorem dX0_sortTurn_37 : decode cX0_sortTurn 37 = .ok (.getfield 9, 3) := by decide +kernel
theorem dX0_sortTurn_40 : decode cX0_sortTurn 40 = .ok (.iload 4, 2) := by decide +kernel
theorem dX0_sortTurn_42 : decode cX0_sortTurn 42 = .ok (.iaload, 1) := by decide +kernel
theorem dX0_sortTurn_43 : decode cX0_sortTurn 43 = .ok (.aload_n 0, 1) := by decide +kernel
theorem dX0_sortTurn_44 : decode cX0_sortTurn 44 = .ok (.getfield 9, 3) := by decide +kernel
theorem dX0_sortTurn_47 : decode cX0_sortTurn 47 = .ok (.iload_n 3, 1) := by decide +kernel
theorem dX0_sortTurn_48 : decode cX0_sortTurn 48 = .ok (.iaload, 1) := by decide +kernel
theorem dX0_sortTurn_49 : decode cX0_sortTurn 49 = .ok (.if_icmp .ge 10, 3) := by decide +kernel
theorem dX0_sortTurn_52 : decode cX0_sortTurn 52 = .ok (.aload_n 0, 1) := by decide +kernel
theorem dX0_sortTurn_53 : decode cX0_sortTurn 53 = .ok (.iload_n 3, 1) := by decide +kernel
theorem dX0_sortTurn_54 : decode cX0_sortTurn 54 = .ok (.iload 4, 2) := by decide +kernel
theorem dX0_sortTurn_56 : decode cX0_sortTurn 56 = .ok (.invokevirtual 42, 3) := by decide +kernel
theorem dX0_sortTurn_59 : decode cX0_sortTurn 59 = .ok (.iinc 4 1, 3) := by decide +kernel
theorem dX0_sortTurn_62 : decode cX0_sortTurn 62 = .ok (.goto (-39), 3) := by decide +kernel
theorem dX0_sortTurn_65 : decode cX0_sortTurn 65 = .ok (.iinc 3 1, 3) := by decide +kernel
theorem dX0_sortTurn_68 : decode cX0_sortTurn 68 = .ok (.goto (-62), 3) := by decide +kernel
theorem dX0_sortTurn_71 : decode cX0_sortTurn 71 = .ok (.return_, 1) := by decide +kernel
set_option maxRecDepth 100000 in
set_option maxHeartbeats 4000000 in
theorem e_X0_sortTurn_35 (x1 : Int) {σ : Mem} {Q : Int → Mem → Prop} (h : WP GC M_X0_sortTurn 6 [some (mr 35), some (mi x1), some (mi (jmul x1 4)), some (mi (jmul x1 4)), none] [] σ Q) : HT GC M_X0_sortTurn [mr 35, mi x1] σ Q := by
  refine HT.of pn_X0 (Nat.le_of_ble_eq_true rfl) ?_
  show WP GC M_X0_sortTurn 0 [some (mr 35), some (mi x1), none, none, none] [] σ Q
  refine WP.iload_n dX0_sortTurn_0 rfl ?_
  refine WP.iconst dX0_sortTurn_1 (by decide) ?_
  refine WP.imul dX0_sortTurn_2 ?_
  refine WP.istore_n (L2 := [some (mr 35), some (mi x1), some (mi (jmul x1 4)), none, none]) dX0_sortTurn_3 (by decide) rfl ?_
  refine WP.iload_n dX0_sortTurn_4 rfl ?_
  refine WP.istore_n (L2 := [some (mr 35), some (mi x1), some (mi (jmul x1 4)), some (mi (jmul x1 4)), none]) dX0_sortTurn_5 (by decide) rfl ?_
  exact h
set_option maxRecDepth 100000 in
set_option maxHeartbeats 4000000 in
theorem b_X0_sortTurn_35_6 (x1 x2 x3 : Int) {σ : Mem} {Q : Int → Mem → Prop} (h : (0 ≤ x1 ∧ x1 < 4) ∧ ((jadd x2 (σ 37 x1) ≤ x3 → Q 0 σ) ∧ (¬ jadd x2 (σ 37 x1) ≤ x3 → WP GC M_X0_sortTurn 23 [some (mr 35), some (mi x1), some (mi x2), some (mi x3), some (mi (jadd x3 1))] [] σ Q))) : WP GC M_X0_sortTurn 6 [some (mr 35), some (mi x1), some (mi x2), some (mi x3), none] [] σ Q := by
  refine WP.iload_n dX0_sortTurn_6 rfl ?_
  refine WP.iload_n dX0_sortTurn_7 rfl ?_
  refine WP.aload_n dX0_sortTurn_8 rfl ?_
  refine WP.getR fd_X0_15 dX0_sortTurn_9 g35 rfl ?_
  refine WP.iload_n dX0_sortTurn_12 rfl ?_
  obtain ⟨hi, h⟩ := h
  refine WP.iald dX0_sortTurn_13 g37 hi ?_
  refine WP.iadd dX0_sortTurn_14 ?_
  refine WP.icmp_ge (tgt := 71) dX0_sortTurn_15 (by decide) (fun q => ?_) (fun q => ?_)
  · have h := h.1 q
    exact WP.vret rfl dX0_sortTurn_71 h
  · have h := h.2 q
    refine WP.iload_n dX0_sortTurn_18 rfl ?_
    refine WP.iconst dX0_sortTurn_19 (by decide) ?_
    refine WP.iadd dX0_sortTurn_20 ?_
    refine WP.istore (L2 := [some (mr 35), some (mi x1), some (mi x2), some (mi x3), some (mi (jadd x3 1))]) dX0_sortTurn_21 (by decide) rfl ?_
    exact h
set_option maxRecDepth 100000 in
set_option maxHeartbeats 4000000 in
theorem b_X0_sortTurn_35_23 (x1 x2 x3 x4 : Int) {σ : Mem} {Q : Int → Mem → Prop} (h : (0 ≤ x1 ∧ x1 < 4) ∧ ((jadd x2 (σ 37 x1) ≤ x4 → WP GC M_X0_sortTurn 6 [some (mr 35), some (mi x1), some (mi x2), some (mi (jadd x3 1)), none] [] σ Q) ∧ (¬ jadd x2 (σ 37 x1) ≤ x4 → (0 ≤ x4 ∧ x4 < 16) ∧ ((0 ≤ x3 ∧ x3 < 16) ∧ ((σ 36 x3 ≤ σ 36 x4 → WP GC M_X0_sortTurn 59 [some (mr 35), some (mi x1), some (mi x2), some (mi x3), some (mi x4)] [] σ Q) ∧ (¬ σ 36 x3 ≤ σ 36 x4 → HT GC M_X0_swap [mr 35, mi x3, mi x4] σ (fun _ σ56 => WP GC M_X0_sortTurn 59 [some (mr 35), some (mi x1), some (mi x2), some (mi x3), some (mi x4)] [] σ56 Q))))))) : WP GC M_X0_sortTurn 23 [some (mr 35), some (mi x1), some (mi x2), some (mi x3), some (mi x4)] [] σ Q := by
  refine WP.iload dX0_sortTurn_23 rfl ?_
  refine WP.iload_n dX0_sortTurn_25 rfl ?_
  refine WP.aload_n dX0_sortTurn_26 rfl ?_
  refine WP.getR fd_X0_15 dX0_sortTurn_27 g35 rfl ?_
  refine WP.iload_n dX0_sortTurn_30 rfl ?_
  obtain ⟨hi, h⟩ := h
  refine WP.iald dX0_sortTurn_31 g37 hi ?_
  refine WP.iadd dX0_sortTurn_32 ?_
  refine WP.icmp_ge (tgt := 65) dX0_sortTurn_33 (by decide) (fun q => ?_) (fun q => ?_)
  · have h := h.1 q
    refine WP.iinc (L2 := [some (mr 35), some (mi x1), some (mi x2), some (mi (jadd x3 1)), some (mi x4)]) dX0_sortTurn_65 (by decide) rfl (by decide) rfl ?_
    refine WP.goto (tgt := 6) dX0_sortTurn_68 (by decide) ?_
    refine WP.drop 4 (L2 := [some (mr 35), some (mi x1), some (mi x2), some (mi (jadd x3 1)), none]) rfl ?_
    exact h
  · have h := h.2 q
    refine WP.aload_n dX0_sortTurn_36 rfl ?_
    refine WP.getR fd_X0_9 dX0_sortTurn_37 g35 rfl ?_
    refine WP.iload dX0_sortTurn_40 rfl ?_
    obtain ⟨hi, h⟩ := h
    refine WP.iald dX0_sortTurn_42 g36 hi ?_
    refine WP.aload_n dX0_sortTurn_43 rfl ?_
    refine WP.getR fd_X0_9 dX0_sortTurn_44 g35 rfl ?_
    refine WP.iload_n dX0_sortTurn_47 rfl ?_
    obtain ⟨hi, h⟩ := h
    refine WP.iald dX0_sortTurn_48 g36 hi ?_
    refine WP.icmp_ge (tgt := 59) dX0_sortTurn_49 (by decide) (fun q => ?_) (fun q => ?_)
    · have h := h.1 q
      exact h
    · have h := h.2 q
      refine WP.aload_n dX0_sortTurn_52 rfl ?_
      refine WP.iload_n dX0_sortTurn_53 rfl ?_
      refine WP.iload dX0_sortTurn_54 rfl ?_
      refine WP.callV M_X0_swap [mi x3, mi x4] cv_X0_swap dX0_sortTurn_56 lk_X0_42 g35 rfl ft_X0_sortTurn__X0_swap rfl (Nat.le_of_ble_eq_true rfl) (HT.mono h ?_)
      rintro _ σ56 - - h
      exact h
set_option maxRecDepth 100000 in
set_option maxHeartbeats 4000000 in
theorem b_X0_sortTurn_35_59 (x1 x2 x3 x4 : Int) {σ : Mem} {Q : Int → Mem → Prop} (h : WP GC M_X0_sortTurn 23 [some (mr 35), some (mi x1), some (mi x2), some (mi x3), some (mi (jadd x4 1))] [] σ Q) : WP GC M_X0_sortTurn 59 [some (mr 35), some (mi x1), some (mi x2), some (mi x3), some (mi x4)] [] σ Q := by
  refine WP.iinc (L2 := [some (mr 35), some (mi x1), some (mi x2), some (mi x3), some (mi (jadd x4 1))]) dX0_sortTurn_59 (by decide) rfl (by decide) rfl ?_
  refine WP.goto (tgt := 23) dX0_sortTurn_62 (by decide) ?_
  exact h
theorem dX0_nextOrder_0 : decode cX0_nextOrder 0 = .ok (.iload_n 1, 1) := by decide +kernel
theorem dX0_nextOrder_1 : decode cX0_nextOrder 1 = .ok (.iconst 4, 1) := by decide +kernel
theorem dX0_nextOrder_2 : decode cX0_nextOrder 2 = .ok (.imul, 1) := by decide +kernel
theorem dX0_nextOrder_3 : decode cX0_nextOrder 3 = .ok (.istore_n 2, 1) := by decide +kernel
theorem dX0_nextOrder_4 : decode cX0_nextOrder 4 = .ok (.iload_n 2, 1) := by decide +kernel
theorem dX0_nextOrder_5 : decode cX0_nextOrder 5 = .ok (.aload_n 0, 1) := by decide +kernel
theorem dX0_nextOrder_6 : decode cX0_nextOrder 6 = .ok (.getfield 15, 3) := by decide +kernel
theorem dX0_nextOrder_9 : decode cX0_nextOrder 9 = .ok (.iload_n 1, 1) := by decide +kernel
theorem dX0_nextOrder_10 : decode cX0_nextOrder 10 = .ok (.iaload, 1) := by decide +kernel
theorem dX0_nextOrder_11 : decode cX0_nextOrder 11 = .ok (.iadd, 1) := by decide +kernel
theorem dX0_nextOrder_12 : decode cX0_nextOrder 12 = .ok (.iconst 1, 1) := by decide +kernel
theorem dX0_nextOrder_13 : decode cX0_nextOrder 13 = .ok (.isub, 1) := by decide +kernel
theorem dX0_nextOrder_14 : decode cX0_nextOrder 14 = .ok (.istore_n 3, 1) := by decide +kernel
theorem dX0_nextOrder_15 : decode cX0_nextOrder 15 = .ok (.iload_n 3, 1) := by decide +kernel
theorem dX0_nextOrder_16 : decode cX0_nextOrder 16 = .ok (.iconst 1, 1) := by decide +kernel
theorem dX0_nextOrder_17 : decode cX0_nextOrder 17 = .ok (.isub, 1) := by decide +kernel
theorem dX0_nextOrder_18 : decode cX0_nextOrder 18 = .ok (.istore 4, 2) := by decide +kernel
theorem dX0_nextOrder_20 : decode cX0_nextOrder 20 = .ok (.iload 4, 2) := by decide +kernel
theorem dX0_nextOrder_22 : decode cX0_nextOrder 22 = .ok (.iload_n 2, 1) := by decide +kernel
theorem dX0_nextOrder_23 : decode cX0_nextOrder 23 = .ok (.if_icmp .lt 28, 3) := by decide +kernel
theorem dX0_nextOrder_26 : decode cX0_nextOrder 26 = .ok (.aload_n 0, 1) := by decide +kernel
theorem dX0_nextOrder_27 : decode cX0_nextOrder 27 = .ok (.getfield 9, 3) := by decide +kernel
theorem dX0_nextOrder_30 : decode cX0_nextOrder 30 = .ok (.iload 4, 2) := by decide +kernel
theorem dX0_nextOrder_32 : decode cX0_nextOrder 32 = .ok (.iaload, 1) := by decide +kernel
theorem dX0_nextOrder_33 : decode cX0_nextOrder 33 = .ok (.aload_n 0, 1) := by decide +kernel
theorem dX0_nextOrder_34 : decode cX0_nextOrder 34 = .ok (.getfield 9, 3) := by decide +kernel
theorem dX0_nextOrder_37 : decode cX0_nextOrder 37 = .ok (.iload 4, 2) := by decide +kernel
theorem dX0_nextOrder_39 : decode cX0_nextOrder 39 = .ok (.iconst 1, 1) := by decide +kernel
theorem dX0_nextOrder_40 : decode cX0_nextOrder 40 = .ok (.iadd, 1) := by decide +kernel
theorem dX0_nextOrder_41 : decode cX0_nextOrder 41 = .ok (.iaload, 1) := by decide +kernel
theorem dX0_nextOrder_42 : decode cX0_nextOrder 42 = .ok (.if_icmp .le 9, 3) := by decide +kernel
theorem dX0_nextOrder_45 : decode cX0_nextOrder 45 = .ok (.iinc 4 (-1), 3) := by decide +kernel
theorem dX0_nextOrder_48 : decode cX0_nextOrder 48 = .ok (.goto (-28), 3) := by decide +kernel
theorem dX0_nextOrder_51 : decode cX0_nextOrder 51 = .ok (.iload 4, 2) := by decide +kernel
theorem dX0_nextOrder_53 : decode cX0_nextOrder 53 = .ok (.iload_n 2, 1) := by decide +kernel
theorem dX0_nextOrder_54 : decode cX0_nextOrder 54 = .ok (.if_icmp .ge 5, 3) := by decide +kernel
theorem dX0_nextOrder_57 : decode cX0_nextOrder 57 = .ok (.iconst 0, 1) := by decide +kernel
theorem dX0_nextOrder_58 : decode cX0_nextOrder 58 = .ok (.ireturn, 1) := by decide +kernel
theorem dX0_nextOrder_59 : decode cX0_nextOrder 59 = .ok (.iload_n 3, 1) := by decide +kernel
theorem dX0_nextOrder_60 : decode cX0_nextOrder 60 = .ok (.istore 5, 2) := by decide +kernel
theorem dX0_nextOrder_62 : decode cX0_nextOrder 62 = .ok (.iload 5, 2) := by decide +kernel
theorem dX0_nextOrder_64 : decode cX0_nextOrder 64 = .ok (.iload 4, 2) := by decide +kernel
theorem dX0_nextOrder_66 : decode cX0_nextOrder 66 = .ok (.iconst 1, 1) := by decide +kernel
theorem dX0_nextOrder_67 : decode cX0_nextOrder 67 = .ok (.iadd, 1) := by decide +kernel
theorem dX0_nextOrder_68 : decode cX0_nextOrder 68 = .ok (.if_icmp .le 26, 3) := by decide +kernel
theorem dX0_nextOrder_71 : decode cX0_nextOrder 71 = .ok (.aload_n 0, 1) := by decide +kernel
theorem dX0_nextOrder_72 : decode cX0_nextOrder 72 = .ok (.getfield 9, 3) := by decide +kernel
theorem dX0_nextOrder_75 : decode cX0_nextOrder 75 = .ok (.iload 5, 2) := by decide +kernel
theorem dX0_nextOrder_77 : decode cX0_nextOrder 77 = .ok (.iaload, 1) := by decide +kernel
theorem dX0_nextOrder_78 : decode cX0_nextOrder 78 = .ok (.aload_n 0, 1) := by decide +kernel
theorem dX0_nextOrder_79 : decode cX0_nextOrder 79 = .ok (.getfield 9, 3) := by decide +kernel
theorem dX0_nextOrder_82 : decode cX0_nextOrder 82 = .ok (.iload 4, 2) := by decide +kernel
theorem dX0_nextOrder_84 : decode cX0_nextOrder 84 = .ok (.iaload, 1) := by decide +kernel
theorem dX0_nextOrder_85 : decode cX0_nextOrder 85 = .ok (.if_icmp .ge 9, 3) := by decide +kernel
theorem dX0_nextOrder_88 : decode cX0_nextOrder 88 = .ok (.iinc 5 (-1), 3) := by decide +kernel
theorem dX0_nextOrder_91 : decode cX0_nextOrder 91 = .ok (.goto (-29), 3) := by decide +kernel
theorem dX0_nextOrder_94 : decode cX0_nextOrder 94 = .ok (.aload_n 0, 1) := by decide +kernel
theorem dX0_nextOrder_95 : decode cX0_nextOrder 95 = .ok (.iload 4, 2) := by decide +kernel
theorem dX0_nextOrder_97 : decode cX0_nextOrder 97 = .ok (.iload 5, 2) := by decide +kernel
theorem dX0_nextOrder_99 : decode cX0_nextOrder 99 = .ok (.invokevirtual 42, 3) := by decide +kernel
theorem dX0_nextOrder_102 : decode cX0_nextOrder 102 = .ok (.iload 4, 2) := by decide +kernel
theorem dX0_nextOrder_104 : decode cX0_nextOrder 104 = .ok (.iconst 1, 1) := by decide +kernel
theorem dX0_nextOrder_105 : decode cX0_nextOrder 105 = .ok (.iadd, 1) := by decide +kernel
theorem dX0_nextOrder_106 : decode cX0_nextOrder 106 = .ok (.istore 6, 2) := by decide +kernel
theorem dX0_nextOrder_108 : decode cX0_nextOrder 108 = .ok (.iload_n 3, 1) := by decide +kernel
theorem dX0_nextOrder_109 : decode cX0_nextOrder 109 = .ok (.istore 7, 2) := by decide +kernel
theorem dX0_nextOrder_111 : decode cX0_nextOrder 111 = .ok (.iload 6, 2) := by decide +kernel
theorem dX0_nextOrder_113 : decode cX0_nextOrder 113 = .ok (.iload 7, 2) := by decide +kernel
theorem dX0_nextOrder_115 : decode cX0_nextOrder 115 = .ok (.if_icmp .ge 20, 3) := by decide +kernel
theorem dX0_nextOrder_118 : decode cX0_nextOrder 118 = .ok (.aload_n 0, 1) := by decide +kernel
theorem dX0_nextOrder_119 : decode cX0_nextOrder 119 = .ok (.iload 6, 2) := by decide +kernel
theorem dX0_nextOrder_121 : decode cX0_nextOrder 121 = .ok (.iload 7, 2) := by decide +kernel
theorem dX0_nextOrder_123 : decode cX0_nextOrder 123 = .ok (.invokevirtual 42, 3) := by decide +kernel
theorem dX0_nextOrder_126 : decode cX0_nextOrder 126 = .ok (.iinc 6 1, 3) := by decide +kernel
theorem dX0_nextOrder_129 : decode cX0_nextOrder 129 = .ok (.iinc 7 (-1), 3) := by decide +kernel
theorem dX0_nextOrder_132 : decode cX0_nextOrder 132 = .ok (.goto (-21), 3) := by decide +kernel
theorem dX0_nextOrder_135 : decode cX0_nextOrder 135 = .ok (.iconst 1, 1) := by decide +kernel
theorem dX0_nextOrder_136 : decode cX0_nextOrder 136 = .ok (.ireturn, 1) := by decide +kernel
set_option maxRecDepth 100000 in
set_option maxHeartbeats 4000000 in
theorem e_X0_nextOrder_35 (x1 : Int) {σ : Mem} {Q : Int → Mem → Prop} (h : (0 ≤ x1 ∧ x1 < 4) ∧ (WP GC M_X0_nextOrder 20 [some (mr 35), none, some (mi (jmul x1 4)), some (mi (jsub (jadd (jmul x1 4) (σ 37 x1)) 1)), some (mi (jsub (jsub (jadd (jmul x1 4) (σ 37 x1)) 1) 1)), none, none, none] [] σ Q)) : HT GC M_X0_nextOrder [mr 35, mi x1] σ Q := by
  refine HT.of pn_X0 (Nat.le_of_ble_eq_true rfl) ?_
  show WP GC M_X0_nextOrder 0 [some (mr 35), some (mi x1), none, none, none, none, none, none] [] σ Q
  refine WP.iload_n dX0_nextOrder_0 rfl ?_
  refine WP.iconst dX0_nextOrder_1 (by decide) ?_
  refine WP.imul dX0_nextOrder_2 ?_
  refine WP.istore_n (L2 := [some (mr 35), some (mi x1), some (mi (jmul x1 4)), none, none, none, none, none]) dX0_nextOrder_3 (by decide) rfl ?_
  refine WP.iload_n dX0_nextOrder_4 rfl ?_
  refine WP.aload_n dX0_nextOrder_5 rfl ?_
  refine WP.getR fd_X0_15 dX0_nextOrder_6 g35 rfl ?_
  refine WP.iload_n dX0_nextOrder_9 rfl ?_
  obtain ⟨hi, h⟩ := h
  refine WP.iald dX0_nextOrder_10 g37 hi ?_
  refine WP.iadd dX0_nextOrder_11 ?_
  refine WP.iconst dX0_nextOrder_12 (by decide) ?_
  refine WP.isub dX0_nextOrder_13 ?_
  refine WP.istore_n (L2 := [some (mr 35), some (mi x1), some (mi (jmul x1 4)), some (mi (jsub (jadd (jmul x1 4) (σ 37 x1)) 1)), none, none, none, none]) dX0_nextOrder_14 (by decide) rfl ?_
  refine WP.iload_n dX0_nextOrder_15 rfl ?_
  refine WP.iconst dX0_nextOrder_16 (by decide) ?_
  refine WP.isub dX0_nextOrder_17 ?_
  refine WP.istore (L2 := [some (mr 35), some (mi x1), some (mi (jmul x1 4)), some (mi (jsub (jadd (jmul x1 4) (σ 37 x1)) 1)), some (mi (jsub (jsub (jadd (jmul x1 4) (σ 37 x1)) 1) 1)), none, none, none]) dX0_nextOrder_18 (by decide) rfl ?_
  refine WP.drop 1 (L2 := [some (mr 35), none, some (mi (jmul x1 4)), some (mi (jsub (jadd (jmul x1 4) (σ 37 x1)) 1)), some (mi (jsub (jsub (jadd (jmul x1 4) (σ 37 x1)) 1) 1)), none, none, none]) rfl ?_
  exact h
set_option maxRecDepth 100000 in
set_option maxHeartbeats 4000000 in
theorem b_X0_nextOrder_35_20 (x2 x3 x4 : Int) {σ : Mem} {Q : Int → Mem → Prop} (h : (x4 < x2 → WP GC M_X0_nextOrder 51 [some (mr 35), none, some (mi x2), some (mi x3), some (mi x4), none, none, none] [] σ Q) ∧ (¬ x4 < x2 → (0 ≤ x4 ∧ x4 < 16) ∧ ((0 ≤ jadd x4 1 ∧ jadd x4 1 < 16) ∧ ((σ 36 x4 ≤ σ 36 (jadd x4 1) → WP GC M_X0_nextOrder 51 [some (mr 35), none, some (mi x2), some (mi x3), some (mi x4), none, none, none] [] σ Q) ∧ (¬ σ 36 x4 ≤ σ 36 (jadd x4 1) → WP GC M_X0_nextOrder 20 [some (mr 35), none, some (mi x2), some (mi x3), some (mi (jadd x4 (-1))), none, none, none] [] σ Q))))) : WP GC M_X0_nextOrder 20 [some (mr 35), none, some (mi x2), some (mi x3), some (mi x4), none, none, none] [] σ Q := by
  refine WP.iload dX0_nextOrder_20 rfl ?_
  refine WP.iload_n dX0_nextOrder_22 rfl ?_
  refine WP.icmp_lt (tgt := 51) dX0_nextOrder_23 (by decide) (fun q => ?_) (fun q => ?_)
  · have h := h.1 q
    exact h
  · have h := h.2 q
    refine WP.aload_n dX0_nextOrder_26 rfl ?_
    refine WP.getR fd_X0_9 dX0_nextOrder_27 g35 rfl ?_
    refine WP.iload dX0_nextOrder_30 rfl ?_
    obtain ⟨hi, h⟩ := h
    refine WP.iald dX0_nextOrder_32 g36 hi ?_
    refine WP.aload_n dX0_nextOrder_33 rfl ?_
    refine WP.getR fd_X0_9 dX0_nextOrder_34 g35 rfl ?_
    refine WP.iload dX0_nextOrder_37 rfl ?_
    refine WP.iconst dX0_nextOrder_39 (by decide) ?_
    refine WP.iadd dX0_nextOrder_40 ?_
    obtain ⟨hi, h⟩ := h
    refine WP.iald dX0_nextOrder_41 g36 hi ?_
    refine WP.icmp_le (tgt := 51) dX0_nextOrder_42 (by decide) (fun q => ?_) (fun q => ?_)
    · have h := h.1 q
      exact h
    · have h := h.2 q
      refine WP.iinc (L2 := [some (mr 35), none, some (mi x2), some (mi x3), some (mi (jadd x4 (-1))), none, none, none]) dX0_nextOrder_45 (by decide) rfl (by decide) rfl ?_
      refine WP.goto (tgt := 20) dX0_nextOrder_48 (by decide) ?_
      exact h
set_option maxRecDepth 100000 in
set_option maxHeartbeats 4000000 in
theorem b_X0_nextOrder_35_51 (x2 x3 x4 : Int) {σ : Mem} {Q : Int → Mem → Prop} (h : (x2 ≤ x4 → WP GC M_X0_nextOrder 62 [some (mr 35), none, none, some (mi x3), some (mi x4), some (mi x3), none, none] [] σ Q) ∧ (¬ x2 ≤ x4 → Q 0 σ)) : WP GC M_X0_nextOrder 51 [some (mr 35), none, some (mi x2), some (mi x3), some (mi x4), none, none, none] [] σ Q := by
  refine WP.iload dX0_nextOrder_51 rfl ?_
  refine WP.iload_n dX0_nextOrder_53 rfl ?_
  refine WP.icmp_ge (tgt := 59) dX0_nextOrder_54 (by decide) (fun q => ?_) (fun q => ?_)
  · have h := h.1 q
    refine WP.iload_n dX0_nextOrder_59 rfl ?_
    refine WP.istore (L2 := [some (mr 35), none, some (mi x2), some (mi x3), some (mi x4), some (mi x3), none, none]) dX0_nextOrder_60 (by decide) rfl ?_
    refine WP.drop 2 (L2 := [some (mr 35), none, none, some (mi x3), some (mi x4), some (mi x3), none, none]) rfl ?_
    exact h
  · have h := h.2 q
    refine WP.iconst dX0_nextOrder_57 (by decide) ?_
    exact WP.zret rfl dX0_nextOrder_58 (by decide) h
set_option maxRecDepth 100000 in
set_option maxHeartbeats 4000000 in
theorem b_X0_nextOrder_35_62 (x3 x4 x5 : Int) {σ : Mem} {Q : Int → Mem → Prop} (h : (x5 ≤ jadd x4 1 → WP GC M_X0_nextOrder 94 [some (mr 35), none, none, some (mi x3), some (mi x4), some (mi x5), none, none] [] σ Q) ∧ (¬ x5 ≤ jadd x4 1 → (0 ≤ x5 ∧ x5 < 16) ∧ ((0 ≤ x4 ∧ x4 < 16) ∧ ((σ 36 x4 ≤ σ 36 x5 → WP GC M_X0_nextOrder 94 [some (mr 35), none, none, some (mi x3), some (mi x4), some (mi x5), none, none] [] σ Q) ∧ (¬ σ 36 x4 ≤ σ 36 x5 → WP GC M_X0_nextOrder 62 [some (mr 35), none, none, some (mi x3), some (mi x4), some (mi (jadd x5 (-1))), none, none] [] σ Q))))) : WP GC M_X0_nextOrder 62 [some (mr 35), none, none, some (mi x3), some (mi x4), some (mi x5), none, none] [] σ Q := by
  refine WP.iload dX0_nextOrder_62 rfl ?_
  refine WP.iload dX0_nextOrder_64 rfl ?_
  refine WP.iconst dX0_nextOrder_66 (by decide) ?_
  refine WP.iadd dX0_nextOrder_67 ?_
  refine WP.icmp_le (tgt := 94) dX0_nextOrder_68 (by decide) (fun q => ?_) (fun q => ?_)
  · have h := h.1 q
    exact h
  · have h := h.2 q
    refine WP.aload_n dX0_nextOrder_71 rfl ?_
    refine WP.getR fd_X0_9 dX0_nextOrder_72 g35 rfl ?_
    refine WP.iload dX0_nextOrder_75 rfl ?_
    obtain ⟨hi, h⟩ := h
    refine WP.iald dX0_nextOrder_77 g36 hi ?_
    refine WP.aload_n dX0_nextOrder_78 rfl ?_
    refine WP.getR fd_X0_9 dX0_nextOrder_79 g35 rfl ?_
    refine WP.iload dX0_nextOrder_82 rfl ?_
    obtain ⟨hi, h⟩ := h
    refine WP.iald dX0_nextOrder_84 g36 hi ?_
    refine WP.icmp_ge (tgt := 94) dX0_nextOrder_85 (by decide) (fun q => ?_) (fun q => ?_)
    · have h := h.1 q
      exact h
    · have h := h.2 q
      refine WP.iinc (L2 := [some (mr 35), none, none, some (mi x3), some (mi x4), some (mi (jadd x5 (-1))), none, none]) dX0_nextOrder_88 (by decide) rfl (by decide) rfl ?_
      refine WP.goto (tgt := 62) dX0_nextOrder_91 (by decide) ?_
      exact h
set_option maxRecDepth 100000 in
set_option maxHeartbeats 4000000 in
theorem b_X0_nextOrder_35_94 (x3 x4 x5 : Int) {σ : Mem} {Q : Int → Mem → Prop} (h : HT GC M_X0_swap [mr 35, mi x4, mi x5] σ (fun _ σ99 => WP GC M_X0_nextOrder 111 [some (mr 35), none, none, none, none, none, some (mi (jadd x4 1)), some (mi x3)] [] σ99 Q)) : WP GC M_X0_nextOrder 94 [some (mr 35), none, none, some (mi x3), some (mi x4), some (mi x5), none, none] [] σ Q := by
  refine WP.aload_n dX0_nextOrder_94 rfl ?_
  refine WP.iload dX0_nextOrder_95 rfl ?_
  refine WP.iload dX0_nextOrder_97 rfl ?_
  refine WP.callV M_X0_swap [mi x4, mi x5] cv_X0_swap dX0_nextOrder_99 lk_X0_42 g35 rfl ft_X0_nextOrder__X0_swap rfl (Nat.le_of_ble_eq_true rfl) (HT.mono h ?_)
  rintro _ σ99 - - h
  refine WP.iload dX0_nextOrder_102 rfl ?_
  refine WP.iconst dX0_nextOrder_104 (by decide) ?_
  refine WP.iadd dX0_nextOrder_105 ?_
  refine WP.istore (L2 := [some (mr 35), none, none, some (mi x3), some (mi x4), some (mi x5), some (mi (jadd x4 1)), none]) dX0_nextOrder_106 (by decide) rfl ?_
  refine WP.iload_n dX0_nextOrder_108 rfl ?_
  refine WP.istore (L2 := [some (mr 35), none, none, some (mi x3), some (mi x4), some (mi x5), some (mi (jadd x4 1)), some (mi x3)]) dX0_nextOrder_109 (by decide) rfl ?_
  refine WP.drop 3 (L2 := [some (mr 35), none, none, none, some (mi x4), some (mi x5), some (mi (jadd x4 1)), some (mi x3)]) rfl ?_
  refine WP.drop 4 (L2 := [some (mr 35), none, none, none, none, some (mi x5), some (mi (jadd x4 1)), some (mi x3)]) rfl ?_
  refine WP.drop 5 (L2 := [some (mr 35), none, none, none, none, none, some (mi (jadd x4 1)), some (mi x3)]) rfl ?_
  exact h
set_option maxRecDepth 100000 in
set_option maxHeartbeats 4000000 in
theorem b_X0_nextOrder_35_111 (x6 x7 : Int) {σ : Mem} {Q : Int → Mem → Prop} (h : (x7 ≤ x6 → Q 1 σ) ∧ (¬ x7 ≤ x6 → HT GC M_X0_swap [mr 35, mi x6, mi x7] σ (fun _ σ123 => WP GC M_X0_nextOrder 111 [some (mr 35), none, none, none, none, none, some (mi (jadd x6 1)), some (mi (jadd x7 (-1)))] [] σ123 Q))) : WP GC M_X0_nextOrder 111 [some (mr 35), none, none, none, none, none, some (mi x6), some (mi x7)] [] σ Q := by
  refine WP.iload dX0_nextOrder_111 rfl ?_
  refine WP.iload dX0_nextOrder_113 rfl ?_
  refine WP.icmp_ge (tgt := 135) dX0_nextOrder_115 (by decide) (fun q => ?_) (fun q => ?_)
  · have h := h.1 q
    refine WP.iconst dX0_nextOrder_135 (by decide) ?_
    exact WP.zret rfl dX0_nextOrder_136 (by decide) h
  · have h := h.2 q
    refine WP.aload_n dX0_nextOrder_118 rfl ?_
    refine WP.iload dX0_nextOrder_119 rfl ?_
    refine WP.iload dX0_nextOrder_121 rfl ?_
    refine WP.callV M_X0_swap [mi x6, mi x7] cv_X0_swap dX0_nextOrder_123 lk_X0_42 g35 rfl ft_X0_nextOrder__X0_swap rfl (Nat.le_of_ble_eq_true rfl) (HT.mono h ?_)
    rintro _ σ123 - - h
    refine WP.iinc (L2 := [some (mr 35), none, none, none, none, none, some (mi (jadd x6 1)), some (mi x7)]) dX0_nextOrder_126 (by decide) rfl (by decide) rfl ?_
    refine WP.iinc (L2 := [some (mr 35), none, none, none, none, none, some (mi (jadd x6 1)), some (mi (jadd x7 (-1)))]) dX0_nextOrder_129 (by decide) rfl (by decide) rfl ?_
    refine WP.goto (tgt := 111) dX0_nextOrder_132 (by decide) ?_
    exact h
theorem dX0_wearers_0 : decode cX0_wearers 0 = .ok (.iconst 0, 1) := by decide +kernel
theorem dX0_wearers_1 : decode cX0_wearers 1 = .ok (.istore_n 3, 1) := by decide +kernel
theorem dX0_wearers_2 : decode cX0_wearers 2 = .ok (.aload_n 0, 1) := by decide +kernel
theorem dX0_wearers_3 : decode cX0_wearers 3 = .ok (.getfield 18, 3) := by decide +kernel
theorem dX0_wearers_6 : decode cX0_wearers 6 = .ok (.iload_n 1, 1) := by decide +kernel
theorem dX0_wearers_7 : decode cX0_wearers 7 = .ok (.iaload, 1) := by decide +kernel
theorem dX0_wearers_8 : decode cX0_wearers 8 = .ok (.istore 4, 2) := by decide +kernel
theorem dX0_wearers_10 : decode cX0_wearers 10 = .ok (.iconst 0, 1) := by decide +kernel
theorem dX0_wearers_11 : decode cX0_wearers 11 = .ok (.istore 5, 2) := by decide +kernel
theorem dX0_wearers_13 : decode cX0_wearers 13 = .ok (.iload 5, 2) := by decide +kernel
theorem dX0_wearers_15 : decode cX0_wearers 15 = .ok (.iload_n 2, 1) := by decide +kernel
theorem dX0_wearers_16 : decode cX0_wearers 16 = .ok (.if_icmp .gt 47, 3) := by decide +kernel
theorem dX0_wearers_19 : decode cX0_wearers 19 = .ok (.iload_n 3, 1) := by decide +kernel
theorem dX0_wearers_20 : decode cX0_wearers 20 = .ok (.iconst 1, 1) := by decide +kernel
theorem dX0_wearers_21 : decode cX0_wearers 21 = .ok (.aload_n 0, 1) := by decide +kernel
theorem dX0_wearers_22 : decode cX0_wearers 22 = .ok (.getfield 9, 3) := by decide +kernel
theorem dX0_wearers_25 : decode cX0_wearers 25 = .ok (.iload_n 1, 1) := by decide +kernel
theorem dX0_wearers_26 : decode cX0_wearers 26 = .ok (.iconst 4, 1) := by decide +kernel
theorem dX0_wearers_27 : decode cX0_wearers 27 = .ok (.imul, 1) := by decide +kernel
theorem dX0_wearers_28 : decode cX0_wearers 28 = .ok (.iload 4, 2) := by decide +kernel
theorem dX0_wearers_30 : decode cX0_wearers 30 = .ok (.iadd, 1) := by decide +kernel
theorem dX0_wearers_31 : decode cX0_wearers 31 = .ok (.iaload, 1) := by decide +kernel
theorem dX0_wearers_32 : decode cX0_wearers 32 = .ok (.ishl, 1) := by decide +kernel
theorem dX0_wearers_33 : decode cX0_wearers 33 = .ok (.ior, 1) := by decide +kernel
theorem dX0_wearers_34 : decode cX0_wearers 34 = .ok (.istore_n 3, 1) := by decide +kernel
theorem dX0_wearers_35 : decode cX0_wearers 35 = .ok (.iload 4, 2) := by decide +kernel
theorem dX0_wearers_37 : decode cX0_wearers 37 = .ok (.ifCond .le 10, 3) := by decide +kernel
theorem dX0_wearers_40 : decode cX0_wearers 40 = .ok (.iload 4, 2) := by decide +kernel
theorem dX0_wearers_42 : decode cX0_wearers 42 = .ok (.iconst 1, 1) := by decide +kernel
theorem dX0_wearers_43 : decode cX0_wearers 43 = .ok (.isub, 1) := by decide +kernel
theorem dX0_wearers_44 : decode cX0_wearers 44 = .ok (.goto 11, 3) := by decide +kernel
theorem dX0_wearers_47 : decode cX0_wearers 47 = .ok (.aload_n 0, 1) := by decide +kernel
theorem dX0_wearers_48 : decode cX0_wearers 48 = .ok (.getfield 15, 3) := by decide +kernel
theorem dX0_wearers_51 : decode cX0_wearers 51 = .ok (.iload_n 1, 1) := by decide +kernel
theorem dX0_wearers_52 : decode cX0_wearers 52 = .ok (.iaload, 1) := by decide +kernel
theorem dX0_wearers_53 : decode cX0_wearers 53 = .ok (.iconst 1, 1) := by decide +kernel
theorem dX0_wearers_54 : decode cX0_wearers 54 = .ok (.isub, 1) := by decide +kernel
theorem dX0_wearers_55 : decode cX0_wearers 55 = .ok (.istore 4, 2) := by decide +kernel
theorem dX0_wearers_57 : decode cX0_wearers 57 = .ok (.iinc 5 1, 3) := by decide +kernel
theorem dX0_wearers_60 : decode cX0_wearers 60 = .ok (.goto (-47), 3) := by decide +kernel
theorem dX0_wearers_63 : decode cX0_wearers 63 = .ok (.iload_n 3, 1) := by decide +kernel
theorem dX0_wearers_64 : decode cX0_wearers 64 = .ok (.ireturn, 1) := by decide +kernel
set_option maxRecDepth 100000 in
set_option maxHeartbeats 4000000 in
theorem e_X0_wearers_3 (x1 x2 : Int) {σ : Mem} {Q : Int → Mem → Prop} (h : (0 ≤ x1 ∧ x1 < 4) ∧ (WP GC M_X0_wearers 13 [some (mr 3), some (mi x1), some (mi x2), some (mi 0), some (mi (σ 6 x1)), some (mi 0)] [] σ Q)) : HT GC M_X0_wearers [mr 3, mi x1, mi x2] σ Q := by
  refine HT.of pn_X0 (Nat.le_of_ble_eq_true rfl) ?_
  show WP GC M_X0_wearers 0 [some (mr 3), some (mi x1), some (mi x2), none, none, none] [] σ Q
  refine WP.iconst dX0_wearers_0 (by decide) ?_
  refine WP.istore_n (L2 := [some (mr 3), some (mi x1), some (mi x2), some (mi 0), none, none]) dX0_wearers_1 (by decide) rfl ?_
  refine WP.aload_n dX0_wearers_2 rfl ?_
  refine WP.getR fd_X0_18 dX0_wearers_3 g3 rfl ?_
  refine WP.iload_n dX0_wearers_6 rfl ?_
  obtain ⟨hi, h⟩ := h
  refine WP.iald dX0_wearers_7 g6 hi ?_
  refine WP.istore (L2 := [some (mr 3), some (mi x1), some (mi x2), some (mi 0), some (mi (σ 6 x1)), none]) dX0_wearers_8 (by decide) rfl ?_
  refine WP.iconst dX0_wearers_10 (by decide) ?_
  refine WP.istore (L2 := [some (mr 3), some (mi x1), some (mi x2), some (mi 0), some (mi (σ 6 x1)), some (mi 0)]) dX0_wearers_11 (by decide) rfl ?_
  exact h
set_option maxRecDepth 100000 in
set_option maxHeartbeats 4000000 in
theorem b_X0_wearers_3_13 (x1 x2 x3 x4 x5 : Int) {σ : Mem} {Q : Int → Mem → Prop} (h : (x2 < x5 → Q x3 σ) ∧ (¬ x2 < x5 → (0 ≤ jadd (jmul x1 4) x4 ∧ jadd (jmul x1 4) x4 < 16) ∧ ((x4 ≤ 0 → (0 ≤ x1 ∧ x1 < 4) ∧ (WP GC M_X0_wearers 55 [some (mr 3), some (mi x1), some (mi x2), some (mi (jor x3 (jshl 1 (σ 4 (jadd (jmul x1 4) x4))))), none, some (mi x5)] [mi (jsub (σ 5 x1) 1)] σ Q)) ∧ (¬ x4 ≤ 0 → WP GC M_X0_wearers 55 [some (mr 3), some (mi x1), some (mi x2), some (mi (jor x3 (jshl 1 (σ 4 (jadd (jmul x1 4) x4))))), none, some (mi x5)] [mi (jsub x4 1)] σ Q)))) : WP GC M_X0_wearers 13 [some (mr 3), some (mi x1), some (mi x2), some (mi x3), some (mi x4), some (mi x5)] [] σ Q := by
  refine WP.iload dX0_wearers_13 rfl ?_
  refine WP.iload_n dX0_wearers_15 rfl ?_
  refine WP.icmp_gt (tgt := 63) dX0_wearers_16 (by decide) (fun q => ?_) (fun q => ?_)
  · have h := h.1 q
    refine WP.iload_n dX0_wearers_63 rfl ?_
    exact WP.iret rfl dX0_wearers_64 h
  · have h := h.2 q
    refine WP.iload_n dX0_wearers_19 rfl ?_
    refine WP.iconst dX0_wearers_20 (by decide) ?_
    refine WP.aload_n dX0_wearers_21 rfl ?_
    refine WP.getR fd_X0_9 dX0_wearers_22 g3 rfl ?_
    refine WP.iload_n dX0_wearers_25 rfl ?_
    refine WP.iconst dX0_wearers_26 (by decide) ?_
    refine WP.imul dX0_wearers_27 ?_
    refine WP.iload dX0_wearers_28 rfl ?_
    refine WP.iadd dX0_wearers_30 ?_
    obtain ⟨hi, h⟩ := h
    refine WP.iald dX0_wearers_31 g4 hi ?_
    refine WP.ishl dX0_wearers_32 ?_
    refine WP.ior dX0_wearers_33 ?_
    refine WP.istore_n (L2 := [some (mr 3), some (mi x1), some (mi x2), some (mi (jor x3 (jshl 1 (σ 4 (jadd (jmul x1 4) x4))))), some (mi x4), some (mi x5)]) dX0_wearers_34 (by decide) rfl ?_
    refine WP.iload dX0_wearers_35 rfl ?_
    refine WP.if_le (tgt := 47) dX0_wearers_37 (by decide) (fun q => ?_) (fun q => ?_)
    · have h := h.1 q
      refine WP.aload_n dX0_wearers_47 rfl ?_
      refine WP.getR fd_X0_15 dX0_wearers_48 g3 rfl ?_
      refine WP.iload_n dX0_wearers_51 rfl ?_
      obtain ⟨hi, h⟩ := h
      refine WP.iald dX0_wearers_52 g5 hi ?_
      refine WP.iconst dX0_wearers_53 (by decide) ?_
      refine WP.isub dX0_wearers_54 ?_
      refine WP.drop 4 (L2 := [some (mr 3), some (mi x1), some (mi x2), some (mi (jor x3 (jshl 1 (σ 4 (jadd (jmul x1 4) x4))))), none, some (mi x5)]) rfl ?_
      exact h
    · have h := h.2 q
      refine WP.iload dX0_wearers_40 rfl ?_
      refine WP.iconst dX0_wearers_42 (by decide) ?_
      refine WP.isub dX0_wearers_43 ?_
      refine WP.goto (tgt := 55) dX0_wearers_44 (by decide) ?_
      refine WP.drop 4 (L2 := [some (mr 3), some (mi x1), some (mi x2), some (mi (jor x3 (jshl 1 (σ 4 (jadd (jmul x1 4) x4))))), none, some (mi x5)]) rfl ?_
      exact h
set_option maxRecDepth 100000 in
set_option maxHeartbeats 4000000 in
theorem b_X0_wearers_3_55 (x1 x2 x3 x5 s0 : Int) {σ : Mem} {Q : Int → Mem → Prop} (h : WP GC M_X0_wearers 13 [some (mr 3), some (mi x1), some (mi x2), some (mi x3), some (mi s0), some (mi (jadd x5 1))] [] σ Q) : WP GC M_X0_wearers 55 [some (mr 3), some (mi x1), some (mi x2), some (mi x3), none, some (mi x5)] [mi s0] σ Q := by
  refine WP.istore (L2 := [some (mr 3), some (mi x1), some (mi x2), some (mi x3), some (mi s0), some (mi x5)]) dX0_wearers_55 (by decide) rfl ?_
  refine WP.iinc (L2 := [some (mr 3), some (mi x1), some (mi x2), some (mi x3), some (mi s0), some (mi (jadd x5 1))]) dX0_wearers_57 (by decide) rfl (by decide) rfl ?_
  refine WP.goto (tgt := 13) dX0_wearers_60 (by decide) ?_
  exact h
set_option maxRecDepth 100000 in
set_option maxHeartbeats 4000000 in
theorem e_X0_become_15_3 {σ : Mem} {Q : Int → Mem → Prop} (h : Q 0 (mcpy (mcpy (mcpy (mcpy (mupd σ 15 0 (σ 3 0)) 4 0 16 0 16) 5 0 17 0 4) 6 0 18 0 4) 7 0 19 0 4)) : HT GC M_X0_become [mr 15, mr 3] σ Q := by
  refine HT.of pn_X0 (Nat.le_of_ble_eq_true rfl) ?_
  show WP GC M_X0_become 0 [some (mr 15), some (mr 3)] [] σ Q
  refine WP.aload_n dX0_become_0 rfl ?_
  refine WP.aload_n dX0_become_1 rfl ?_
  refine WP.getI (v := σ 3 0) fd_X0_24 dX0_become_2 g3 rfl rfl ?_
  refine WP.put fp_X0_24 dX0_become_5 g15 rfl rfl rfl ?_
  refine WP.aload_n dX0_become_8 rfl ?_
  refine WP.getR fd_X0_9 dX0_become_9 g3 rfl ?_
  refine WP.iconst dX0_become_12 (by decide) ?_
  refine WP.aload_n dX0_become_13 rfl ?_
  refine WP.getR fd_X0_9 dX0_become_14 g15 rfl ?_
  refine WP.iconst dX0_become_17 (by decide) ?_
  refine WP.bipush dX0_become_18 (by decide) bp_16 ?_
  refine WP.acopy ac_X0_28 dX0_become_20 g4 g16 (by decide) (by decide) (Nat.le_of_ble_eq_true rfl) ?_
  refine WP.aload_n dX0_become_23 rfl ?_
  refine WP.getR fd_X0_15 dX0_become_24 g3 rfl ?_
  refine WP.iconst dX0_become_27 (by decide) ?_
  refine WP.aload_n dX0_become_28 rfl ?_
  refine WP.getR fd_X0_15 dX0_become_29 g15 rfl ?_
  refine WP.iconst dX0_become_32 (by decide) ?_
  refine WP.iconst dX0_become_33 (by decide) ?_
  refine WP.acopy ac_X0_28 dX0_become_34 g5 g17 (by decide) (by decide) (Nat.le_of_ble_eq_true rfl) ?_
  refine WP.aload_n dX0_become_37 rfl ?_
  refine WP.getR fd_X0_18 dX0_become_38 g3 rfl ?_
  refine WP.iconst dX0_become_41 (by decide) ?_
  refine WP.aload_n dX0_become_42 rfl ?_
  refine WP.getR fd_X0_18 dX0_become_43 g15 rfl ?_
  refine WP.iconst dX0_become_46 (by decide) ?_
  refine WP.iconst dX0_become_47 (by decide) ?_
  refine WP.acopy ac_X0_28 dX0_become_48 g6 g18 (by decide) (by decide) (Nat.le_of_ble_eq_true rfl) ?_
  refine WP.aload_n dX0_become_51 rfl ?_
  refine WP.getR fd_X0_21 dX0_become_52 g3 rfl ?_
  refine WP.iconst dX0_become_55 (by decide) ?_
  refine WP.aload_n dX0_become_56 rfl ?_
  refine WP.getR fd_X0_21 dX0_become_57 g15 rfl ?_
  refine WP.iconst dX0_become_60 (by decide) ?_
  refine WP.iconst dX0_become_61 (by decide) ?_
  refine WP.acopy ac_X0_28 dX0_become_62 g7 g19 (by decide) (by decide) (Nat.le_of_ble_eq_true rfl) ?_
  exact WP.vret rfl dX0_become_65 h
theorem dX6_become_0 : decode cX6_become 0 = .ok (.aload_n 0, 1) := by decide +kernel
theorem dX6_become_1 : decode cX6_become 1 = .ok (.aload_n 1, 1) := by decide +kernel
theorem dX6_become_2 : decode cX6_become 2 = .ok (.getfield 24, 3) := by decide +kernel
theorem dX6_become_5 : decode cX6_become 5 = .ok (.putfield 24, 3) := by decide +kernel
theorem dX6_become_8 : decode cX6_become 8 = .ok (.aload_n 1, 1) := by decide +kernel
theorem dX6_become_9 : decode cX6_become 9 = .ok (.getfield 9, 3) := by decide +kernel
theorem dX6_become_12 : decode cX6_become 12 = .ok (.iconst 0, 1) := by decide +kernel
theorem dX6_become_13 : decode cX6_become 13 = .ok (.aload_n 0, 1) := by decide +kernel
theorem dX6_become_14 : decode cX6_become 14 = .ok (.getfield 9, 3) := by decide +kernel
theorem dX6_become_17 : decode cX6_become 17 = .ok (.iconst 0, 1) := by decide +kernel
theorem dX6_become_18 : decode cX6_become 18 = .ok (.bipush 8, 2) := by decide +kernel
theorem dX6_become_20 : decode cX6_become 20 = .ok (.invokestatic 28, 3) := by decide +kernel
theorem dX6_become_23 : decode cX6_become 23 = .ok (.aload_n 1, 1) := by decide +kernel
theorem dX6_become_24 : decode cX6_become 24 = .ok (.getfield 15, 3) := by decide +kernel
theorem dX6_become_27 : decode cX6_become 27 = .ok (.iconst 0, 1) := by decide +kernel
theorem dX6_become_28 : decode cX6_become 28 = .ok (.aload_n 0, 1) := by decide +kernel
theorem dX6_become_29 : decode cX6_become 29 = .ok (.getfield 15, 3) := by decide +kernel
theorem dX6_become_32 : decode cX6_become 32 = .ok (.iconst 0, 1) := by decide +kernel
theorem dX6_become_33 : decode cX6_become 33 = .ok (.bipush 8, 2) := by decide +kernel
theorem dX6_become_35 : decode cX6_become 35 = .ok (.invokestatic 28, 3) := by decide +kernel
theorem dX6_become_38 : decode cX6_become 38 = .ok (.aload_n 1, 1) := by decide +kernel
theorem dX6_become_39 : decode cX6_become 39 = .ok (.getfield 18, 3) := by decide +kernel
theorem dX6_become_42 : decode cX6_become 42 = .ok (.iconst 0, 1) := by decide +kernel
theorem dX6_become_43 : decode cX6_become 43 = .ok (.aload_n 0, 1) := by decide +kernel
theorem dX6_become_44 : decode cX6_become 44 = .ok (.getfield 18, 3) := by decide +kernel
theorem dX6_become_47 : decode cX6_become 47 = .ok (.iconst 0, 1) := by decide +kernel
theorem dX6_become_48 : decode cX6_become 48 = .ok (.bipush 8, 2) := by decide +kernel
theorem dX6_become_50 : decode cX6_become 50 = .ok (.invokestatic 28, 3) := by decide +kernel
theorem dX6_become_53 : decode cX6_become 53 = .ok (.aload_n 1, 1) := by decide +kernel
theorem dX6_become_54 : decode cX6_become 54 = .ok (.getfield 21, 3) := by decide +kernel
theorem dX6_become_57 : decode cX6_become 57 = .ok (.iconst 0, 1) := by decide +kernel
theorem dX6_become_58 : decode cX6_become 58 = .ok (.aload_n 0, 1) := by decide +kernel
theorem dX6_become_59 : decode cX6_become 59 = .ok (.getfield 21, 3) := by decide +kernel
theorem dX6_become_62 : decode cX6_become 62 = .ok (.iconst 0, 1) := by decide +kernel
theorem dX6_become_63 : decode cX6_become 63 = .ok (.bipush 8, 2) := by decide +kernel
theorem dX6_become_65 : decode cX6_become 65 = .ok (.invokestatic 28, 3) := by decide +kernel
theorem dX6_become_68 : decode cX6_become 68 = .ok (.return_, 1) := by decide +kernel
set_option maxRecDepth 100000 in
set_option maxHeartbeats 4000000 in
theorem e_X6_become_20_8 {σ : Mem} {Q : Int → Mem → Prop} (h : Q 0 (mcpy (mcpy (mcpy (mcpy (mupd σ 20 0 (σ 8 0)) 9 0 21 0 8) 10 0 22 0 8) 11 0 23 0 8) 12 0 24 0 8)) : HT GC M_X6_become [mr 20, mr 8] σ Q := by
  refine HT.of pn_X6 (Nat.le_of_ble_eq_true rfl) ?_
  show WP GC M_X6_become 0 [some (mr 20), some (mr 8)] [] σ Q
  refine WP.aload_n dX6_become_0 rfl ?_
  refine WP.aload_n dX6_become_1 rfl ?_
  refine WP.getI (v := σ 8 0) fd_X6_24 dX6_become_2 g8 rfl rfl ?_
  refine WP.put fp_X6_24 dX6_become_5 g20 rfl rfl rfl ?_
  refine WP.aload_n dX6_become_8 rfl ?_
  refine WP.getR fd_X6_9 dX6_become_9 g8 rfl ?_
  refine WP.iconst dX6_become_12 (by decide) ?_
  refine WP.aload_n dX6_become_13 rfl ?_
  refine WP.getR fd_X6_9 dX6_become_14 g20 rfl ?_
  refine WP.iconst dX6_become_17 (by decide) ?_
  refine WP.bipush dX6_become_18 (by decide) bp_8 ?_
  refine WP.acopy ac_X6_28 dX6_become_20 g9 g21 (by decide) (by decide) (Nat.le_of_ble_eq_true rfl) ?_
  refine WP.aload_n dX6_become_23 rfl ?_
  refine WP.getR fd_X6_15 dX6_become_24 g8 rfl ?_
  refine WP.iconst dX6_become_27 (by decide) ?_
  refine WP.aload_n dX6_become_28 rfl ?_
  refine WP.getR fd_X6_15 dX6_become_29 g20 rfl ?_
  refine WP.iconst dX6_become_32 (by decide) ?_
  refine WP.bipush dX6_become_33 (by decide) bp_8 ?_
  refine WP.acopy ac_X6_28 dX6_become_35 g10 g22 (by decide) (by decide) (Nat.le_of_ble_eq_true rfl) ?_
  refine WP.aload_n dX6_become_38 rfl ?_
  refine WP.getR fd_X6_18 dX6_become_39 g8 rfl ?_
  refine WP.iconst dX6_become_42 (by decide) ?_
  refine WP.aload_n dX6_become_43 rfl ?_
  refine WP.getR fd_X6_18 dX6_become_44 g20 rfl ?_
  refine WP.iconst dX6_become_47 (by decide) ?_
  refine WP.bipush dX6_become_48 (by decide) bp_8 ?_
  refine WP.acopy ac_X6_28 dX6_become_50 g11 g23 (by decide) (by decide) (Nat.le_of_ble_eq_true rfl) ?_
  refine WP.aload_n dX6_become_53 rfl ?_
  refine WP.getR fd_X6_21 dX6_become_54 g8 rfl ?_
  refine WP.iconst dX6_become_57 (by decide) ?_
  refine WP.aload_n dX6_become_58 rfl ?_
  refine WP.getR fd_X6_21 dX6_become_59 g20 rfl ?_
  refine WP.iconst dX6_become_62 (by decide) ?_
  refine WP.bipush dX6_become_63 (by decide) bp_8 ?_
  refine WP.acopy ac_X6_28 dX6_become_65 g12 g24 (by decide) (by decide) (Nat.le_of_ble_eq_true rfl) ?_
  exact WP.vret rfl dX6_become_68 h
set_option maxRecDepth 100000 in
set_option maxHeartbeats 4000000 in
theorem e_X0_become_3_15 {σ : Mem} {Q : Int → Mem → Prop} (h : Q 0 (mcpy (mcpy (mcpy (mcpy (mupd σ 3 0 (σ 15 0)) 16 0 4 0 16) 17 0 5 0 4) 18 0 6 0 4) 19 0 7 0 4)) : HT GC M_X0_become [mr 3, mr 15] σ Q := by
  refine HT.of pn_X0 (Nat.le_of_ble_eq_true rfl) ?_
  show WP GC M_X0_become 0 [some (mr 3), some (mr 15)] [] σ Q
  refine WP.aload_n dX0_become_0 rfl ?_
  refine WP.aload_n dX0_become_1 rfl ?_
  refine WP.getI (v := σ 15 0) fd_X0_24 dX0_become_2 g15 rfl rfl ?_
  refine WP.put fp_X0_24 dX0_become_5 g3 rfl rfl rfl ?_
  refine WP.aload_n dX0_become_8 rfl ?_
  refine WP.getR fd_X0_9 dX0_become_9 g15 rfl ?_
  refine WP.iconst dX0_become_12 (by decide) ?_
  refine WP.aload_n dX0_become_13 rfl ?_
  refine WP.getR fd_X0_9 dX0_become_14 g3 rfl ?_
  refine WP.iconst dX0_become_17 (by decide) ?_
  refine WP.bipush dX0_become_18 (by decide) bp_16 ?_
  refine WP.acopy ac_X0_28 dX0_become_20 g16 g4 (by decide) (by decide) (Nat.le_of_ble_eq_true rfl) ?_
  refine WP.aload_n dX0_become_23 rfl ?_
  refine WP.getR fd_X0_15 dX0_become_24 g15 rfl ?_
  refine WP.iconst dX0_become_27 (by decide) ?_
  refine WP.aload_n dX0_become_28 rfl ?_
  refine WP.getR fd_X0_15 dX0_become_29 g3 rfl ?_
  refine WP.iconst dX0_become_32 (by decide) ?_
  refine WP.iconst dX0_become_33 (by decide) ?_
  refine WP.acopy ac_X0_28 dX0_become_34 g17 g5 (by decide) (by decide) (Nat.le_of_ble_eq_true rfl) ?_
  refine WP.aload_n dX0_become_37 rfl ?_
  refine WP.getR fd_X0_18 dX0_become_38 g15 rfl ?_
  refine WP.iconst dX0_become_41 (by decide) ?_
  refine WP.aload_n dX0_become_42 rfl ?_
  refine WP.getR fd_X0_18 dX0_become_43 g3 rfl ?_
  refine WP.iconst dX0_become_46 (by decide) ?_
  refine WP.iconst dX0_become_47 (by decide) ?_
  refine WP.acopy ac_X0_28 dX0_become_48 g18 g6 (by decide) (by decide) (Nat.le_of_ble_eq_true rfl) ?_
  refine WP.aload_n dX0_become_51 rfl ?_
  refine WP.getR fd_X0_21 dX0_become_52 g15 rfl ?_
  refine WP.iconst dX0_become_55 (by decide) ?_
  refine WP.aload_n dX0_become_56 rfl ?_
  refine WP.getR fd_X0_21 dX0_become_57 g3 rfl ?_
  refine WP.iconst dX0_become_60 (by decide) ?_
  refine WP.iconst dX0_become_61 (by decide) ?_
  refine WP.acopy ac_X0_28 dX0_become_62 g19 g7 (by decide) (by decide) (Nat.le_of_ble_eq_true rfl) ?_
  exact WP.vret rfl dX0_become_65 h
set_option maxRecDepth 100000 in
set_option maxHeartbeats 4000000 in
theorem e_X6_become_8_20 {σ : Mem} {Q : Int → Mem → Prop} (h : Q 0 (mcpy (mcpy (mcpy (mcpy (mupd σ 8 0 (σ 20 0)) 21 0 9 0 8) 22 0 10 0 8) 23 0 11 0 8) 24 0 12 0 8)) : HT GC M_X6_become [mr 8, mr 20] σ Q := by
  refine HT.of pn_X6 (Nat.le_of_ble_eq_true rfl) ?_
  show WP GC M_X6_become 0 [some (mr 8), some (mr 20)] [] σ Q
  refine WP.aload_n dX6_become_0 rfl ?_
  refine WP.aload_n dX6_become_1 rfl ?_
  refine WP.getI (v := σ 20 0) fd_X6_24 dX6_become_2 g20 rfl rfl ?_
  refine WP.put fp_X6_24 dX6_become_5 g8 rfl rfl rfl ?_
  refine WP.aload_n dX6_become_8 rfl ?_
  refine WP.getR fd_X6_9 dX6_become_9 g20 rfl ?_
  refine WP.iconst dX6_become_12 (by decide) ?_
  refine WP.aload_n dX6_become_13 rfl ?_
  refine WP.getR fd_X6_9 dX6_become_14 g8 rfl ?_
  refine WP.iconst dX6_become_17 (by decide) ?_
  refine WP.bipush dX6_become_18 (by decide) bp_8 ?_
  refine WP.acopy ac_X6_28 dX6_become_20 g21 g9 (by decide) (by decide) (Nat.le_of_ble_eq_true rfl) ?_
  refine WP.aload_n dX6_become_23 rfl ?_
  refine WP.getR fd_X6_15 dX6_become_24 g20 rfl ?_
  refine WP.iconst dX6_become_27 (by decide) ?_
  refine WP.aload_n dX6_become_28 rfl ?_
  refine WP.getR fd_X6_15 dX6_become_29 g8 rfl ?_
  refine WP.iconst dX6_become_32 (by decide) ?_
  refine WP.bipush dX6_become_33 (by decide) bp_8 ?_
  refine WP.acopy ac_X6_28 dX6_become_35 g22 g10 (by decide) (by decide) (Nat.le_of_ble_eq_true rfl) ?_
  refine WP.aload_n dX6_become_38 rfl ?_
  refine WP.getR fd_X6_18 dX6_become_39 g20 rfl ?_
  refine WP.iconst dX6_become_42 (by decide) ?_
  refine WP.aload_n dX6_become_43 rfl ?_
  refine WP.getR fd_X6_18 dX6_become_44 g8 rfl ?_
  refine WP.iconst dX6_become_47 (by decide) ?_
  refine WP.bipush dX6_become_48 (by decide) bp_8 ?_
  refine WP.acopy ac_X6_28 dX6_become_50 g23 g11 (by decide) (by decide) (Nat.le_of_ble_eq_true rfl) ?_
  refine WP.aload_n dX6_become_53 rfl ?_
  refine WP.getR fd_X6_21 dX6_become_54 g20 rfl ?_
  refine WP.iconst dX6_become_57 (by decide) ?_
  refine WP.aload_n dX6_become_58 rfl ?_
  refine WP.getR fd_X6_21 dX6_become_59 g8 rfl ?_
  refine WP.iconst dX6_become_62 (by decide) ?_
  refine WP.bipush dX6_become_63 (by decide) bp_8 ?_
  refine WP.acopy ac_X6_28 dX6_become_65 g24 g12 (by decide) (by decide) (Nat.le_of_ble_eq_true rfl) ?_
  exact WP.vret rfl dX6_become_68 h
theorem dX3_find_0 : decode cX3_find 0 = .ok (.aload_n 0, 1) := by decide +kernel
theorem dX3_find_1 : decode cX3_find 1 = .ok (.getfield 9, 3) := by decide +kernel
theorem dX3_find_4 : decode cX3_find 4 = .ok (.iload_n 1, 1) := by decide +kernel
theorem dX3_find_5 : decode cX3_find 5 = .ok (.baload, 1) := by decide +kernel
theorem dX3_find_6 : decode cX3_find 6 = .ok (.ifCond .ne 6, 3) := by decide +kernel
theorem dX3_find_9 : decode cX3_find 9 = .ok (.bipush (-11), 2) := by decide +kernel
theorem dX3_find_11 : decode cX3_find 11 = .ok (.ireturn, 1) := by decide +kernel
theorem dX3_find_12 : decode cX3_find 12 = .ok (.aload_n 0, 1) := by decide +kernel
theorem dX3_find_13 : decode cX3_find 13 = .ok (.getfield 15, 3) := by decide +kernel
theorem dX3_find_16 : decode cX3_find 16 = .ok (.iload_n 1, 1) := by decide +kernel
theorem dX3_find_17 : decode cX3_find 17 = .ok (.iaload, 1) := by decide +kernel
theorem dX3_find_18 : decode cX3_find 18 = .ok (.iload_n 2, 1) := by decide +kernel
theorem dX3_find_19 : decode cX3_find 19 = .ok (.if_icmp .eq 6, 3) := by decide +kernel
theorem dX3_find_22 : decode cX3_find 22 = .ok (.bipush (-12), 2) := by decide +kernel
theorem dX3_find_24 : decode cX3_find 24 = .ok (.ireturn, 1) := by decide +kernel
theorem dX3_find_25 : decode cX3_find 25 = .ok (.iload_n 3, 1) := by decide +kernel
theorem dX3_find_26 : decode cX3_find 26 = .ok (.ifCond .lt 21, 3) := by decide +kernel
theorem dX3_find_29 : decode cX3_find 29 = .ok (.iload 4, 2) := by decide +kernel
theorem dX3_find_31 : decode cX3_find 31 = .ok (.ifCond .lt 16, 3) := by decide +kernel
theorem dX3_find_34 : decode cX3_find 34 = .ok (.iload_n 3, 1) := by decide +kernel
theorem dX3_find_35 : decode cX3_find 35 = .ok (.aload_n 0, 1) := by decide +kernel
theorem dX3_find_36 : decode cX3_find 36 = .ok (.getfield 19, 3) := by decide +kernel
theorem dX3_find_39 : decode cX3_find 39 = .ok (.iload_n 1, 1) := by decide +kernel
theorem dX3_find_40 : decode cX3_find 40 = .ok (.iaload, 1) := by decide +kernel
theorem dX3_find_41 : decode cX3_find 41 = .ok (.iload 4, 2) := by decide +kernel
theorem dX3_find_43 : decode cX3_find 43 = .ok (.isub, 1) := by decide +kernel
theorem dX3_find_44 : decode cX3_find 44 = .ok (.if_icmp .le 8, 3) := by decide +kernel
theorem dX3_find_47 : decode cX3_find 47 = .ok (.bipush (-13), 2) := by decide +kernel
theorem dX3_find_49 : decode cX3_find 49 = .ok (.goto 4, 3) := by decide +kernel
theorem dX3_find_52 : decode cX3_find 52 = .ok (.iconst 0, 1) := by decide +kernel
theorem dX3_find_53 : decode cX3_find 53 = .ok (.ireturn, 1) := by decide +kernel
set_option maxRecDepth 100000 in
set_option maxHeartbeats 4000000 in
theorem e_X3_find_45 (x1 x2 x3 x4 : Int) {σ : Mem} {Q : Int → Mem → Prop} (h : (0 ≤ x1 ∧ x1 < 4) ∧ ((¬ σ 46 x1 = 0 → (0 ≤ x1 ∧ x1 < 4) ∧ ((σ 47 x1 = x2 → (x3 < 0 → WP GC M_X3_find 47 [none, none, none, none, none] [] σ Q) ∧ (¬ x3 < 0 → (x4 < 0 → WP GC M_X3_find 47 [none, none, none, none, none] [] σ Q) ∧ (¬ x4 < 0 → (0 ≤ x1 ∧ x1 < 4) ∧ ((x3 ≤ jsub (σ 48 x1) x4 → Q 0 σ) ∧ (¬ x3 ≤ jsub (σ 48 x1) x4 → WP GC M_X3_find 47 [none, none, none, none, none] [] σ Q))))) ∧ (¬ σ 47 x1 = x2 → Q (-12) σ))) ∧ (σ 46 x1 = 0 → Q (-11) σ))) : HT GC M_X3_find [mr 45, mi x1, mi x2, mi x3, mi x4] σ Q := by
  refine HT.of pn_X3 (Nat.le_of_ble_eq_true rfl) ?_
  show WP GC M_X3_find 0 [some (mr 45), some (mi x1), some (mi x2), some (mi x3), some (mi x4)] [] σ Q
  refine WP.aload_n dX3_find_0 rfl ?_
  refine WP.getR fd_X3_9 dX3_find_1 g45 rfl ?_
  refine WP.iload_n dX3_find_4 rfl ?_
  obtain ⟨hi, h⟩ := h
  refine WP.zald dX3_find_5 g46 hi ?_
  refine WP.if_ne (tgt := 12) dX3_find_6 (by decide) (fun q => ?_) (fun q => ?_)
  · have h := h.1 q
    refine WP.aload_n dX3_find_12 rfl ?_
    refine WP.getR fd_X3_15 dX3_find_13 g45 rfl ?_
    refine WP.iload_n dX3_find_16 rfl ?_
    obtain ⟨hi, h⟩ := h
    refine WP.iald dX3_find_17 g47 hi ?_
    refine WP.iload_n dX3_find_18 rfl ?_
    refine WP.icmp_eq (tgt := 25) dX3_find_19 (by decide) (fun q => ?_) (fun q => ?_)
    · have h := h.1 q
      refine WP.iload_n dX3_find_25 rfl ?_
      refine WP.if_lt (tgt := 47) dX3_find_26 (by decide) (fun q => ?_) (fun q => ?_)
      · have h := h.1 q
        refine WP.drop 0 (L2 := [none, some (mi x1), some (mi x2), some (mi x3), some (mi x4)]) rfl ?_
        refine WP.drop 1 (L2 := [none, none, some (mi x2), some (mi x3), some (mi x4)]) rfl ?_
        refine WP.drop 2 (L2 := [none, none, none, some (mi x3), some (mi x4)]) rfl ?_
        refine WP.drop 3 (L2 := [none, none, none, none, some (mi x4)]) rfl ?_
        refine WP.drop 4 (L2 := [none, none, none, none, none]) rfl ?_
        exact h
      · have h := h.2 q
        refine WP.iload dX3_find_29 rfl ?_
        refine WP.if_lt (tgt := 47) dX3_find_31 (by decide) (fun q => ?_) (fun q => ?_)
        · have h := h.1 q
          refine WP.drop 0 (L2 := [none, some (mi x1), some (mi x2), some (mi x3), some (mi x4)]) rfl ?_
          refine WP.drop 1 (L2 := [none, none, some (mi x2), some (mi x3), some (mi x4)]) rfl ?_
          refine WP.drop 2 (L2 := [none, none, none, some (mi x3), some (mi x4)]) rfl ?_
          refine WP.drop 3 (L2 := [none, none, none, none, some (mi x4)]) rfl ?_
          refine WP.drop 4 (L2 := [none, none, none, none, none]) rfl ?_
          exact h
        · have h := h.2 q
          refine WP.iload_n dX3_find_34 rfl ?_
          refine WP.aload_n dX3_find_35 rfl ?_
          refine WP.getR fd_X3_19 dX3_find_36 g45 rfl ?_
          refine WP.iload_n dX3_find_39 rfl ?_
          obtain ⟨hi, h⟩ := h
          refine WP.iald dX3_find_40 g48 hi ?_
          refine WP.iload dX3_find_41 rfl ?_
          refine WP.isub dX3_find_43 ?_
          refine WP.icmp_le (tgt := 52) dX3_find_44 (by decide) (fun q => ?_) (fun q => ?_)
          · have h := h.1 q
            refine WP.iconst dX3_find_52 (by decide) ?_
            exact WP.iret rfl dX3_find_53 h
          · have h := h.2 q
            refine WP.drop 0 (L2 := [none, some (mi x1), some (mi x2), some (mi x3), some (mi x4)]) rfl ?_
            refine WP.drop 1 (L2 := [none, none, some (mi x2), some (mi x3), some (mi x4)]) rfl ?_
            refine WP.drop 2 (L2 := [none, none, none, some (mi x3), some (mi x4)]) rfl ?_
            refine WP.drop 3 (L2 := [none, none, none, none, some (mi x4)]) rfl ?_
            refine WP.drop 4 (L2 := [none, none, none, none, none]) rfl ?_
            exact h
    · have h := h.2 q
      refine WP.bipush dX3_find_22 (by decide) bp_m12 ?_
      exact WP.iret rfl dX3_find_24 h
  · have h := h.2 q
    refine WP.bipush dX3_find_9 (by decide) bp_m11 ?_
    exact WP.iret rfl dX3_find_11 h
set_option maxRecDepth 100000 in
set_option maxHeartbeats 4000000 in
theorem b_X3_find_45_47 {σ : Mem} {Q : Int → Mem → Prop} (h : Q (-13) σ) : WP GC M_X3_find 47 [none, none, none, none, none] [] σ Q := by
  refine WP.bipush dX3_find_47 (by decide) bp_m13 ?_
  refine WP.goto (tgt := 53) dX3_find_49 (by decide) ?_
  exact WP.iret rfl dX3_find_53 h
theorem dX3_lay_0 : decode cX3_lay 0 = .ok (.aload_n 0, 1) := by decide +kernel
theorem dX3_lay_1 : decode cX3_lay 1 = .ok (.getfield 9, 3) := by decide +kernel
theorem dX3_lay_4 : decode cX3_lay 4 = .ok (.iload_n 1, 1) := by decide +kernel
theorem dX3_lay_5 : decode cX3_lay 5 = .ok (.iconst 1, 1) := by decide +kernel
theorem dX3_lay_6 : decode cX3_lay 6 = .ok (.bastore, 1) := by decide +kernel
theorem dX3_lay_7 : decode cX3_lay 7 = .ok (.aload_n 0, 1) := by decide +kernel
theorem dX3_lay_8 : decode cX3_lay 8 = .ok (.getfield 15, 3) := by decide +kernel
theorem dX3_lay_11 : decode cX3_lay 11 = .ok (.iload_n 1, 1) := by decide +kernel
theorem dX3_lay_12 : decode cX3_lay 12 = .ok (.iload_n 2, 1) := by decide +kernel
theorem dX3_lay_13 : decode cX3_lay 13 = .ok (.iastore, 1) := by decide +kernel
theorem dX3_lay_14 : decode cX3_lay 14 = .ok (.aload_n 0, 1) := by decide +kernel
theorem dX3_lay_15 : decode cX3_lay 15 = .ok (.getfield 19, 3) := by decide +kernel
theorem dX3_lay_18 : decode cX3_lay 18 = .ok (.iload_n 1, 1) := by decide +kernel
theorem dX3_lay_19 : decode cX3_lay 19 = .ok (.iload_n 3, 1) := by decide +kernel
theorem dX3_lay_20 : decode cX3_lay 20 = .ok (.iastore, 1) := by decide +kernel
theorem dX3_lay_21 : decode cX3_lay 21 = .ok (.iconst 0, 1) := by decide +kernel
theorem dX3_lay_22 : decode cX3_lay 22 = .ok (.istore 4, 2) := by decide +kernel
theorem dX3_lay_24 : decode cX3_lay 24 = .ok (.iload 4, 2) := by decide +kernel
theorem dX3_lay_26 : decode cX3_lay 26 = .ok (.bipush 24, 2) := by decide +kernel
theorem dX3_lay_28 : decode cX3_lay 28 = .ok (.if_icmp .ge 22, 3) := by decide +kernel
theorem dX3_lay_31 : decode cX3_lay 31 = .ok (.aload_n 0, 1) := by decide +kernel
theorem dX3_lay_32 : decode cX3_lay 32 = .ok (.getfield 22, 3) := by decide +kernel
theorem dX3_lay_35 : decode cX3_lay 35 = .ok (.iload_n 1, 1) := by decide +kernel
theorem dX3_lay_36 : decode cX3_lay 36 = .ok (.bipush 24, 2) := by decide +kernel
theorem dX3_lay_38 : decode cX3_lay 38 = .ok (.imul, 1) := by decide +kernel
theorem dX3_lay_39 : decode cX3_lay 39 = .ok (.iload 4, 2) := by decide +kernel
theorem dX3_lay_41 : decode cX3_lay 41 = .ok (.iadd, 1) := by decide +kernel
theorem dX3_lay_42 : decode cX3_lay 42 = .ok (.iconst 0, 1) := by decide +kernel
theorem dX3_lay_43 : decode cX3_lay 43 = .ok (.iastore, 1) := by decide +kernel
theorem dX3_lay_44 : decode cX3_lay 44 = .ok (.iinc 4 1, 3) := by decide +kernel
theorem dX3_lay_47 : decode cX3_lay 47 = .ok (.goto (-23), 3) := by decide +kernel
theorem dX3_lay_50 : decode cX3_lay 50 = .ok (.return_, 1) := by decide +kernel
set_option maxRecDepth 100000 in
set_option maxHeartbeats 4000000 in
theorem e_X3_lay_45 (x1 x2 x3 : Int) {σ : Mem} {Q : Int → Mem → Prop} (h : (0 ≤ x1 ∧ x1 < 4) ∧ ((0 ≤ x1 ∧ x1 < 4) ∧ ((0 ≤ x1 ∧ x1 < 4) ∧ (WP GC M_X3_lay 24 [some (mr 45), some (mi x1), none, none, some (mi 0)] [] (mupd (mupd (mupd σ 46 x1 1) 47 x1 x2) 48 x1 x3) Q)))) : HT GC M_X3_lay [mr 45, mi x1, mi x2, mi x3] σ Q := by
  refine HT.of pn_X3 (Nat.le_of_ble_eq_true rfl) ?_
  show WP GC M_X3_lay 0 [some (mr 45), some (mi x1), some (mi x2), some (mi x3), none] [] σ Q
  refine WP.aload_n dX3_lay_0 rfl ?_
  refine WP.getR fd_X3_9 dX3_lay_1 g45 rfl ?_
  refine WP.iload_n dX3_lay_4 rfl ?_
  refine WP.iconst dX3_lay_5 (by decide) ?_
  obtain ⟨hi, h⟩ := h
  refine WP.zast dX3_lay_6 g46 hi (by decide) ?_
  refine WP.aload_n dX3_lay_7 rfl ?_
  refine WP.getR fd_X3_15 dX3_lay_8 g45 rfl ?_
  refine WP.iload_n dX3_lay_11 rfl ?_
  refine WP.iload_n dX3_lay_12 rfl ?_
  obtain ⟨hi, h⟩ := h
  refine WP.iast dX3_lay_13 g47 hi ?_
  refine WP.aload_n dX3_lay_14 rfl ?_
  refine WP.getR fd_X3_19 dX3_lay_15 g45 rfl ?_
  refine WP.iload_n dX3_lay_18 rfl ?_
  refine WP.iload_n dX3_lay_19 rfl ?_
  obtain ⟨hi, h⟩ := h
  refine WP.iast dX3_lay_20 g48 hi ?_
  refine WP.iconst dX3_lay_21 (by decide) ?_
  refine WP.istore (L2 := [some (mr 45), some (mi x1), some (mi x2), some (mi x3), some (mi 0)]) dX3_lay_22 (by decide) rfl ?_
  refine WP.drop 2 (L2 := [some (mr 45), some (mi x1), none, some (mi x3), some (mi 0)]) rfl ?_
  refine WP.drop 3 (L2 := [some (mr 45), some (mi x1), none, none, some (mi 0)]) rfl ?_
  exact h
set_option maxRecDepth 100000 in
set_option maxHeartbeats 4000000 in
theorem b_X3_lay_45_24 (x1 x4 : Int) {σ : Mem} {Q : Int → Mem → Prop} (h : (24 ≤ x4 → Q 0 σ) ∧ (¬ 24 ≤ x4 → (0 ≤ jadd (jmul x1 24) x4 ∧ jadd (jmul x1 24) x4 < 96) ∧ (WP GC M_X3_lay 24 [some (mr 45), some (mi x1), none, none, some (mi (jadd x4 1))] [] (mupd σ 49 (jadd (jmul x1 24) x4) 0) Q))) : WP GC M_X3_lay 24 [some (mr 45), some (mi x1), none, none, some (mi x4)] [] σ Q := by
  refine WP.iload dX3_lay_24 rfl ?_
  refine WP.bipush dX3_lay_26 (by decide) bp_24 ?_
  refine WP.icmp_ge (tgt := 50) dX3_lay_28 (by decide) (fun q => ?_) (fun q => ?_)
  · have h := h.1 q
    exact WP.vret rfl dX3_lay_50 h
  · have h := h.2 q
    refine WP.aload_n dX3_lay_31 rfl ?_
    refine WP.getR fd_X3_22 dX3_lay_32 g45 rfl ?_
    refine WP.iload_n dX3_lay_35 rfl ?_
    refine WP.bipush dX3_lay_36 (by decide) bp_24 ?_
    refine WP.imul dX3_lay_38 ?_
    refine WP.iload dX3_lay_39 rfl ?_
    refine WP.iadd dX3_lay_41 ?_
    refine WP.iconst dX3_lay_42 (by decide) ?_
    obtain ⟨hi, h⟩ := h
    refine WP.iast dX3_lay_43 g49 hi ?_
    refine WP.iinc (L2 := [some (mr 45), some (mi x1), none, none, some (mi (jadd x4 1))]) dX3_lay_44 (by decide) rfl (by decide) rfl ?_
    refine WP.goto (tgt := 24) dX3_lay_47 (by decide) ?_
    exact h
