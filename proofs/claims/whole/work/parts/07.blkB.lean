/-! what each stretch of code does, by program -/
theorem dX2_readCoat_0 : decode cX2_readCoat 0 = .ok (.aload_n 0, 1) := by decide +kernel
theorem dX2_readCoat_1 : decode cX2_readCoat 1 = .ok (.getfield 12, 3) := by decide +kernel
theorem dX2_readCoat_4 : decode cX2_readCoat 4 = .ok (.invokevirtual 43, 3) := by decide +kernel
theorem dX2_readCoat_7 : decode cX2_readCoat 7 = .ok (.iconst 0, 1) := by decide +kernel
theorem dX2_readCoat_8 : decode cX2_readCoat 8 = .ok (.istore_n 2, 1) := by decide +kernel
theorem dX2_readCoat_9 : decode cX2_readCoat 9 = .ok (.iconst 0, 1) := by decide +kernel
theorem dX2_readCoat_10 : decode cX2_readCoat 10 = .ok (.istore_n 3, 1) := by decide +kernel
theorem dX2_readCoat_11 : decode cX2_readCoat 11 = .ok (.aload_n 1, 1) := by decide +kernel
theorem dX2_readCoat_12 : decode cX2_readCoat 12 = .ok (.bipush 8, 2) := by decide +kernel
theorem dX2_readCoat_14 : decode cX2_readCoat 14 = .ok (.invokevirtual 46, 3) := by decide +kernel
theorem dX2_readCoat_17 : decode cX2_readCoat 17 = .ok (.istore 4, 2) := by decide +kernel
theorem dX2_readCoat_19 : decode cX2_readCoat 19 = .ok (.iload 4, 2) := by decide +kernel
theorem dX2_readCoat_21 : decode cX2_readCoat 21 = .ok (.bipush (-4), 2) := by decide +kernel
theorem dX2_readCoat_23 : decode cX2_readCoat 23 = .ok (.if_icmp .eq 59, 3) := by decide +kernel
theorem dX2_readCoat_26 : decode cX2_readCoat 26 = .ok (.iload_n 3, 1) := by decide +kernel
theorem dX2_readCoat_27 : decode cX2_readCoat 27 = .ok (.iconst 4, 1) := by decide +kernel
theorem dX2_readCoat_28 : decode cX2_readCoat 28 = .ok (.if_icmp .ge 54, 3) := by decide +kernel
theorem dX2_readCoat_31 : decode cX2_readCoat 31 = .ok (.iload_n 2, 1) := by decide +kernel
theorem dX2_readCoat_32 : decode cX2_readCoat 32 = .ok (.iload 4, 2) := by decide +kernel
theorem dX2_readCoat_34 : decode cX2_readCoat 34 = .ok (.ishr, 1) := by decide +kernel
theorem dX2_readCoat_35 : decode cX2_readCoat 35 = .ok (.iconst 1, 1) := by decide +kernel
theorem dX2_readCoat_36 : decode cX2_readCoat 36 = .ok (.iand, 1) := by decide +kernel
theorem dX2_readCoat_37 : decode cX2_readCoat 37 = .ok (.ifCond .eq 5, 3) := by decide +kernel
theorem dX2_readCoat_40 : decode cX2_readCoat 40 = .ok (.iconst 0, 1) := by decide +kernel
theorem dX2_readCoat_41 : decode cX2_readCoat 41 = .ok (.ireturn, 1) := by decide +kernel
theorem dX2_readCoat_42 : decode cX2_readCoat 42 = .ok (.iload_n 2, 1) := by decide +kernel
theorem dX2_readCoat_43 : decode cX2_readCoat 43 = .ok (.iconst 1, 1) := by decide +kernel
theorem dX2_readCoat_44 : decode cX2_readCoat 44 = .ok (.iload 4, 2) := by decide +kernel
theorem dX2_readCoat_46 : decode cX2_readCoat 46 = .ok (.ishl, 1) := by decide +kernel
theorem dX2_readCoat_47 : decode cX2_readCoat 47 = .ok (.ior, 1) := by decide +kernel
theorem dX2_readCoat_48 : decode cX2_readCoat 48 = .ok (.istore_n 2, 1) := by decide +kernel
theorem dX2_readCoat_49 : decode cX2_readCoat 49 = .ok (.iinc 3 1, 3) := by decide +kernel
theorem dX2_readCoat_52 : decode cX2_readCoat 52 = .ok (.aload_n 0, 1) := by decide +kernel
theorem dX2_readCoat_53 : decode cX2_readCoat 53 = .ok (.getfield 12, 3) := by decide +kernel
theorem dX2_readCoat_56 : decode cX2_readCoat 56 = .ok (.iload 4, 2) := by decide +kernel
theorem dX2_readCoat_58 : decode cX2_readCoat 58 = .ok (.invokevirtual 50, 3) := by decide +kernel
theorem dX2_readCoat_61 : decode cX2_readCoat 61 = .ok (.aload_n 1, 1) := by decide +kernel
theorem dX2_readCoat_62 : decode cX2_readCoat 62 = .ok (.dup, 1) := by decide +kernel
theorem dX2_readCoat_63 : decode cX2_readCoat 63 = .ok (.getfield 18, 3) := by decide +kernel
theorem dX2_readCoat_66 : decode cX2_readCoat 66 = .ok (.iconst 1, 1) := by decide +kernel
theorem dX2_readCoat_67 : decode cX2_readCoat 67 = .ok (.iadd, 1) := by decide +kernel
theorem dX2_readCoat_68 : decode cX2_readCoat 68 = .ok (.putfield 18, 3) := by decide +kernel
theorem dX2_readCoat_71 : decode cX2_readCoat 71 = .ok (.aload_n 1, 1) := by decide +kernel
theorem dX2_readCoat_72 : decode cX2_readCoat 72 = .ok (.bipush 8, 2) := by decide +kernel
theorem dX2_readCoat_74 : decode cX2_readCoat 74 = .ok (.invokevirtual 46, 3) := by decide +kernel
theorem dX2_readCoat_77 : decode cX2_readCoat 77 = .ok (.istore 4, 2) := by decide +kernel
theorem dX2_readCoat_79 : decode cX2_readCoat 79 = .ok (.goto (-60), 3) := by decide +kernel
theorem dX2_readCoat_82 : decode cX2_readCoat 82 = .ok (.iload_n 3, 1) := by decide +kernel
theorem dX2_readCoat_83 : decode cX2_readCoat 83 = .ok (.ifCond .ne 5, 3) := by decide +kernel
theorem dX2_readCoat_86 : decode cX2_readCoat 86 = .ok (.iconst 0, 1) := by decide +kernel
theorem dX2_readCoat_87 : decode cX2_readCoat 87 = .ok (.ireturn, 1) := by decide +kernel
theorem dX2_readCoat_88 : decode cX2_readCoat 88 = .ok (.aload_n 1, 1) := by decide +kernel
theorem dX2_readCoat_89 : decode cX2_readCoat 89 = .ok (.bipush 104, 2) := by decide +kernel
theorem dX2_readCoat_91 : decode cX2_readCoat 91 = .ok (.invokevirtual 39, 3) := by decide +kernel
theorem dX2_readCoat_94 : decode cX2_readCoat 94 = .ok (.ifCond .eq 11, 3) := by decide +kernel
theorem dX2_readCoat_97 : decode cX2_readCoat 97 = .ok (.aload_n 1, 1) := by decide +kernel
theorem dX2_readCoat_98 : decode cX2_readCoat 98 = .ok (.iconst 4, 1) := by decide +kernel
theorem dX2_readCoat_99 : decode cX2_readCoat 99 = .ok (.invokevirtual 54, 3) := by decide +kernel
theorem dX2_readCoat_102 : decode cX2_readCoat 102 = .ok (.goto 4, 3) := by decide +kernel
theorem dX2_readCoat_105 : decode cX2_readCoat 105 = .ok (.iconst 0, 1) := by decide +kernel
theorem dX2_readCoat_106 : decode cX2_readCoat 106 = .ok (.istore 5, 2) := by decide +kernel
theorem dX2_readCoat_108 : decode cX2_readCoat 108 = .ok (.iload 5, 2) := by decide +kernel
theorem dX2_readCoat_110 : decode cX2_readCoat 110 = .ok (.bipush (-4), 2) := by decide +kernel
theorem dX2_readCoat_112 : decode cX2_readCoat 112 = .ok (.if_icmp .ne 5, 3) := by decide +kernel
theorem dX2_readCoat_115 : decode cX2_readCoat 115 = .ok (.iconst 0, 1) := by decide +kernel
theorem dX2_readCoat_116 : decode cX2_readCoat 116 = .ok (.ireturn, 1) := by decide +kernel
theorem dX2_readCoat_117 : decode cX2_readCoat 117 = .ok (.aload_n 0, 1) := by decide +kernel
theorem dX2_readCoat_118 : decode cX2_readCoat 118 = .ok (.getfield 12, 3) := by decide +kernel
theorem dX2_readCoat_121 : decode cX2_readCoat 121 = .ok (.iload 5, 2) := by decide +kernel
theorem dX2_readCoat_123 : decode cX2_readCoat 123 = .ok (.invokevirtual 57, 3) := by decide +kernel
theorem dX2_readCoat_126 : decode cX2_readCoat 126 = .ok (.iconst 1, 1) := by decide +kernel
theorem dX2_readCoat_127 : decode cX2_readCoat 127 = .ok (.ireturn, 1) := by decide +kernel
set_option maxRecDepth 100000 in
set_option maxHeartbeats 4000000 in
theorem e_X2_readCoat_27_25 {σ : Mem} {Q : Int → Mem → Prop} (h : HT GC M_X0_open [mr 28] σ (fun _ σ4 => HT GC M_X5_digitBelow [mr 25, mi 8] σ4 (fun r14 σ14 => WP GC M_X2_readCoat 19 [some (mr 27), some (mr 25), some (mi 0), some (mi 0), some (mi r14), none] [] σ14 Q))) : HT GC M_X2_readCoat [mr 27, mr 25] σ Q := by
  refine HT.of pn_X2 (Nat.le_of_ble_eq_true rfl) ?_
  show WP GC M_X2_readCoat 0 [some (mr 27), some (mr 25), none, none, none, none] [] σ Q
  refine WP.aload_n dX2_readCoat_0 rfl ?_
  refine WP.getR fd_X2_12 dX2_readCoat_1 g27 rfl ?_
  refine WP.callV M_X0_open [] cv_X0_open dX2_readCoat_4 lk_X2_43 g28 rfl ft_X2_readCoat__X0_open rfl (Nat.le_of_ble_eq_true rfl) (HT.mono h ?_)
  rintro _ σ4 - - h
  refine WP.iconst dX2_readCoat_7 (by decide) ?_
  refine WP.istore_n (L2 := [some (mr 27), some (mr 25), some (mi 0), none, none, none]) dX2_readCoat_8 (by decide) rfl ?_
  refine WP.iconst dX2_readCoat_9 (by decide) ?_
  refine WP.istore_n (L2 := [some (mr 27), some (mr 25), some (mi 0), some (mi 0), none, none]) dX2_readCoat_10 (by decide) rfl ?_
  refine WP.aload_n dX2_readCoat_11 rfl ?_
  refine WP.bipush dX2_readCoat_12 (by decide) bp_8 ?_
  refine WP.callV M_X5_digitBelow [mi 8] cv_X5_digitBelow dX2_readCoat_14 lk_X2_46 g25 rfl ft_X2_readCoat__X5_digitBelow rfl (Nat.le_of_ble_eq_true rfl) (HT.mono h ?_)
  rintro r14 σ14 - - h
  refine WP.istore (L2 := [some (mr 27), some (mr 25), some (mi 0), some (mi 0), some (mi r14), none]) dX2_readCoat_17 (by decide) rfl ?_
  exact h
set_option maxRecDepth 100000 in
set_option maxHeartbeats 4000000 in
theorem b_X2_readCoat_27_25_19 (x2 x3 x4 : Int) {σ : Mem} {Q : Int → Mem → Prop} (h : (x4 = (-4) → WP GC M_X2_readCoat 82 [some (mr 27), some (mr 25), none, some (mi x3), none, none] [] σ Q) ∧ (¬ x4 = (-4) → (4 ≤ x3 → WP GC M_X2_readCoat 82 [some (mr 27), some (mr 25), none, some (mi x3), none, none] [] σ Q) ∧ (¬ 4 ≤ x3 → (jand (jshr x2 x4) 1 = 0 → HT GC M_X0_join [mr 28, mi x4] σ (fun _ σ58 => HT GC M_X5_digitBelow [mr 25, mi 8] (mupd σ58 25 2 (jadd (σ58 25 2) 1)) (fun r74 σ74 => WP GC M_X2_readCoat 19 [some (mr 27), some (mr 25), some (mi (jor x2 (jshl 1 x4))), some (mi (jadd x3 1)), some (mi r74), none] [] σ74 Q))) ∧ (¬ jand (jshr x2 x4) 1 = 0 → Q 0 σ)))) : WP GC M_X2_readCoat 19 [some (mr 27), some (mr 25), some (mi x2), some (mi x3), some (mi x4), none] [] σ Q := by
  refine WP.iload dX2_readCoat_19 rfl ?_
  refine WP.bipush dX2_readCoat_21 (by decide) bp_m4 ?_
  refine WP.icmp_eq (tgt := 82) dX2_readCoat_23 (by decide) (fun q => ?_) (fun q => ?_)
  · have h := h.1 q
    refine WP.drop 2 (L2 := [some (mr 27), some (mr 25), none, some (mi x3), some (mi x4), none]) rfl ?_
    refine WP.drop 4 (L2 := [some (mr 27), some (mr 25), none, some (mi x3), none, none]) rfl ?_
    exact h
  · have h := h.2 q
    refine WP.iload_n dX2_readCoat_26 rfl ?_
    refine WP.iconst dX2_readCoat_27 (by decide) ?_
    refine WP.icmp_ge (tgt := 82) dX2_readCoat_28 (by decide) (fun q => ?_) (fun q => ?_)
    · have h := h.1 q
      refine WP.drop 2 (L2 := [some (mr 27), some (mr 25), none, some (mi x3), some (mi x4), none]) rfl ?_
      refine WP.drop 4 (L2 := [some (mr 27), some (mr 25), none, some (mi x3), none, none]) rfl ?_
      exact h
    · have h := h.2 q
      refine WP.iload_n dX2_readCoat_31 rfl ?_
      refine WP.iload dX2_readCoat_32 rfl ?_
      refine WP.ishr dX2_readCoat_34 ?_
      refine WP.iconst dX2_readCoat_35 (by decide) ?_
      refine WP.iand dX2_readCoat_36 ?_
      refine WP.if_eq (tgt := 42) dX2_readCoat_37 (by decide) (fun q => ?_) (fun q => ?_)
      · have h := h.1 q
        refine WP.iload_n dX2_readCoat_42 rfl ?_
        refine WP.iconst dX2_readCoat_43 (by decide) ?_
        refine WP.iload dX2_readCoat_44 rfl ?_
        refine WP.ishl dX2_readCoat_46 ?_
        refine WP.ior dX2_readCoat_47 ?_
        refine WP.istore_n (L2 := [some (mr 27), some (mr 25), some (mi (jor x2 (jshl 1 x4))), some (mi x3), some (mi x4), none]) dX2_readCoat_48 (by decide) rfl ?_
        refine WP.iinc (L2 := [some (mr 27), some (mr 25), some (mi (jor x2 (jshl 1 x4))), some (mi (jadd x3 1)), some (mi x4), none]) dX2_readCoat_49 (by decide) rfl (by decide) rfl ?_
        refine WP.aload_n dX2_readCoat_52 rfl ?_
        refine WP.getR fd_X2_12 dX2_readCoat_53 g27 rfl ?_
        refine WP.iload dX2_readCoat_56 rfl ?_
        refine WP.callV M_X0_join [mi x4] cv_X0_join dX2_readCoat_58 lk_X2_50 g28 rfl ft_X2_readCoat__X0_join rfl (Nat.le_of_ble_eq_true rfl) (HT.mono h ?_)
        rintro _ σ58 - - h
        refine WP.aload_n dX2_readCoat_61 rfl ?_
        refine WP.dup dX2_readCoat_62 rfl ?_
        refine WP.getI (v := σ58 25 2) fd_X2_18 dX2_readCoat_63 g25 rfl rfl ?_
        refine WP.iconst dX2_readCoat_66 (by decide) ?_
        refine WP.iadd dX2_readCoat_67 ?_
        refine WP.put fp_X2_18 dX2_readCoat_68 g25 rfl rfl rfl ?_
        refine WP.aload_n dX2_readCoat_71 rfl ?_
        refine WP.bipush dX2_readCoat_72 (by decide) bp_8 ?_
        refine WP.callV M_X5_digitBelow [mi 8] cv_X5_digitBelow dX2_readCoat_74 lk_X2_46 g25 rfl ft_X2_readCoat__X5_digitBelow rfl (Nat.le_of_ble_eq_true rfl) (HT.mono h ?_)
        rintro r74 σ74 - - h
        refine WP.istore (L2 := [some (mr 27), some (mr 25), some (mi (jor x2 (jshl 1 x4))), some (mi (jadd x3 1)), some (mi r74), none]) dX2_readCoat_77 (by decide) rfl ?_
        refine WP.goto (tgt := 19) dX2_readCoat_79 (by decide) ?_
        exact h
      · have h := h.2 q
        refine WP.iconst dX2_readCoat_40 (by decide) ?_
        exact WP.zret rfl dX2_readCoat_41 (by decide) h
set_option maxRecDepth 100000 in
set_option maxHeartbeats 4000000 in
theorem b_X2_readCoat_27_25_82 (x3 : Int) {σ : Mem} {Q : Int → Mem → Prop} (h : (¬ x3 = 0 → HT GC M_X5_passes [mr 25, mi 104] σ (fun r91 σ91 => (r91 = 0 → WP GC M_X2_readCoat 106 [some (mr 27), none, none, none, none, none] [mi 0] σ91 Q) ∧ (¬ r91 = 0 → HT GC M_X5_passDigit [mr 25, mi 4] σ91 (fun r99 σ99 => WP GC M_X2_readCoat 106 [some (mr 27), none, none, none, none, none] [mi r99] σ99 Q)))) ∧ (x3 = 0 → Q 0 σ)) : WP GC M_X2_readCoat 82 [some (mr 27), some (mr 25), none, some (mi x3), none, none] [] σ Q := by
  refine WP.iload_n dX2_readCoat_82 rfl ?_
  refine WP.if_ne (tgt := 88) dX2_readCoat_83 (by decide) (fun q => ?_) (fun q => ?_)
  · have h := h.1 q
    refine WP.aload_n dX2_readCoat_88 rfl ?_
    refine WP.bipush dX2_readCoat_89 (by decide) bp_104 ?_
    refine WP.callV M_X5_passes [mi 104] cv_X5_passes dX2_readCoat_91 lk_X2_39 g25 rfl ft_X2_readCoat__X5_passes rfl (Nat.le_of_ble_eq_true rfl) (HT.mono h ?_)
    rintro r91 σ91 - - h
    refine WP.if_eq (tgt := 105) dX2_readCoat_94 (by decide) (fun q => ?_) (fun q => ?_)
    · have h := h.1 q
      refine WP.iconst dX2_readCoat_105 (by decide) ?_
      refine WP.drop 1 (L2 := [some (mr 27), none, none, some (mi x3), none, none]) rfl ?_
      refine WP.drop 3 (L2 := [some (mr 27), none, none, none, none, none]) rfl ?_
      exact h
    · have h := h.2 q
      refine WP.aload_n dX2_readCoat_97 rfl ?_
      refine WP.iconst dX2_readCoat_98 (by decide) ?_
      refine WP.callV M_X5_passDigit [mi 4] cv_X5_passDigit dX2_readCoat_99 lk_X2_54 g25 rfl ft_X2_readCoat__X5_passDigit rfl (Nat.le_of_ble_eq_true rfl) (HT.mono h ?_)
      rintro r99 σ99 - - h
      refine WP.goto (tgt := 106) dX2_readCoat_102 (by decide) ?_
      refine WP.drop 1 (L2 := [some (mr 27), none, none, some (mi x3), none, none]) rfl ?_
      refine WP.drop 3 (L2 := [some (mr 27), none, none, none, none, none]) rfl ?_
      exact h
  · have h := h.2 q
    refine WP.iconst dX2_readCoat_86 (by decide) ?_
    exact WP.zret rfl dX2_readCoat_87 (by decide) h
set_option maxRecDepth 100000 in
set_option maxHeartbeats 4000000 in
theorem b_X2_readCoat_27_25_106 (s0 : Int) {σ : Mem} {Q : Int → Mem → Prop} (h : (¬ s0 = (-4) → HT GC M_X0_close [mr 28, mi s0] σ (fun _ σ123 => Q 1 σ123)) ∧ (s0 = (-4) → Q 0 σ)) : WP GC M_X2_readCoat 106 [some (mr 27), none, none, none, none, none] [mi s0] σ Q := by
  refine WP.istore (L2 := [some (mr 27), none, none, none, none, some (mi s0)]) dX2_readCoat_106 (by decide) rfl ?_
  refine WP.iload dX2_readCoat_108 rfl ?_
  refine WP.bipush dX2_readCoat_110 (by decide) bp_m4 ?_
  refine WP.icmp_ne (tgt := 117) dX2_readCoat_112 (by decide) (fun q => ?_) (fun q => ?_)
  · have h := h.1 q
    refine WP.aload_n dX2_readCoat_117 rfl ?_
    refine WP.getR fd_X2_12 dX2_readCoat_118 g27 rfl ?_
    refine WP.iload dX2_readCoat_121 rfl ?_
    refine WP.callV M_X0_close [mi s0] cv_X0_close dX2_readCoat_123 lk_X2_57 g28 rfl ft_X2_readCoat__X0_close rfl (Nat.le_of_ble_eq_true rfl) (HT.mono h ?_)
    rintro _ σ123 - - h
    refine WP.iconst dX2_readCoat_126 (by decide) ?_
    exact WP.zret rfl dX2_readCoat_127 (by decide) h
  · have h := h.2 q
    refine WP.iconst dX2_readCoat_115 (by decide) ?_
    exact WP.zret rfl dX2_readCoat_116 (by decide) h
theorem dX2_readSchool_0 : decode cX2_readSchool 0 = .ok (.aload_n 1, 1) := by decide +kernel
theorem dX2_readSchool_1 : decode cX2_readSchool 1 = .ok (.iconst 0, 1) := by decide +kernel
theorem dX2_readSchool_2 : decode cX2_readSchool 2 = .ok (.putfield 18, 3) := by decide +kernel
theorem dX2_readSchool_5 : decode cX2_readSchool 5 = .ok (.aload_n 0, 1) := by decide +kernel
theorem dX2_readSchool_6 : decode cX2_readSchool 6 = .ok (.getfield 12, 3) := by decide +kernel
theorem dX2_readSchool_9 : decode cX2_readSchool 9 = .ok (.iconst 0, 1) := by decide +kernel
theorem dX2_readSchool_10 : decode cX2_readSchool 10 = .ok (.putfield 24, 3) := by decide +kernel
theorem dX2_readSchool_13 : decode cX2_readSchool 13 = .ok (.iconst 0, 1) := by decide +kernel
theorem dX2_readSchool_14 : decode cX2_readSchool 14 = .ok (.istore_n 2, 1) := by decide +kernel
theorem dX2_readSchool_15 : decode cX2_readSchool 15 = .ok (.iload_n 2, 1) := by decide +kernel
theorem dX2_readSchool_16 : decode cX2_readSchool 16 = .ok (.iconst 4, 1) := by decide +kernel
theorem dX2_readSchool_17 : decode cX2_readSchool 17 = .ok (.if_icmp .ge 50, 3) := by decide +kernel
theorem dX2_readSchool_20 : decode cX2_readSchool 20 = .ok (.aload_n 0, 1) := by decide +kernel
theorem dX2_readSchool_21 : decode cX2_readSchool 21 = .ok (.aload_n 1, 1) := by decide +kernel
theorem dX2_readSchool_22 : decode cX2_readSchool 22 = .ok (.invokevirtual 27, 3) := by decide +kernel
theorem dX2_readSchool_25 : decode cX2_readSchool 25 = .ok (.ifCond .ne 8, 3) := by decide +kernel
theorem dX2_readSchool_28 : decode cX2_readSchool 28 = .ok (.aload_n 1, 1) := by decide +kernel
theorem dX2_readSchool_29 : decode cX2_readSchool 29 = .ok (.invokevirtual 31, 3) := by decide +kernel
theorem dX2_readSchool_32 : decode cX2_readSchool 32 = .ok (.ireturn, 1) := by decide +kernel
theorem dX2_readSchool_33 : decode cX2_readSchool 33 = .ok (.aload_n 1, 1) := by decide +kernel
theorem dX2_readSchool_34 : decode cX2_readSchool 34 = .ok (.invokevirtual 35, 3) := by decide +kernel
theorem dX2_readSchool_37 : decode cX2_readSchool 37 = .ok (.ifCond .eq 5, 3) := by decide +kernel
theorem dX2_readSchool_40 : decode cX2_readSchool 40 = .ok (.iconst 0, 1) := by decide +kernel
theorem dX2_readSchool_41 : decode cX2_readSchool 41 = .ok (.ireturn, 1) := by decide +kernel
theorem dX2_readSchool_42 : decode cX2_readSchool 42 = .ok (.iload_n 2, 1) := by decide +kernel
theorem dX2_readSchool_43 : decode cX2_readSchool 43 = .ok (.iconst 3, 1) := by decide +kernel
theorem dX2_readSchool_44 : decode cX2_readSchool 44 = .ok (.if_icmp .eq 12, 3) := by decide +kernel
theorem dX2_readSchool_47 : decode cX2_readSchool 47 = .ok (.aload_n 1, 1) := by decide +kernel
theorem dX2_readSchool_48 : decode cX2_readSchool 48 = .ok (.bipush 44, 2) := by decide +kernel
theorem dX2_readSchool_50 : decode cX2_readSchool 50 = .ok (.invokevirtual 39, 3) := by decide +kernel
theorem dX2_readSchool_53 : decode cX2_readSchool 53 = .ok (.ifCond .ne 8, 3) := by decide +kernel
theorem dX2_readSchool_56 : decode cX2_readSchool 56 = .ok (.aload_n 1, 1) := by decide +kernel
theorem dX2_readSchool_57 : decode cX2_readSchool 57 = .ok (.invokevirtual 31, 3) := by decide +kernel
theorem dX2_readSchool_60 : decode cX2_readSchool 60 = .ok (.ireturn, 1) := by decide +kernel
theorem dX2_readSchool_61 : decode cX2_readSchool 61 = .ok (.iinc 2 1, 3) := by decide +kernel
theorem dX2_readSchool_64 : decode cX2_readSchool 64 = .ok (.goto (-49), 3) := by decide +kernel
theorem dX2_readSchool_67 : decode cX2_readSchool 67 = .ok (.aload_n 1, 1) := by decide +kernel
theorem dX2_readSchool_68 : decode cX2_readSchool 68 = .ok (.invokevirtual 31, 3) := by decide +kernel
theorem dX2_readSchool_71 : decode cX2_readSchool 71 = .ok (.ireturn, 1) := by decide +kernel
set_option maxRecDepth 100000 in
set_option maxHeartbeats 4000000 in
theorem e_X2_readSchool_27_25 {σ : Mem} {Q : Int → Mem → Prop} (h : WP GC M_X2_readSchool 15 [some (mr 27), some (mr 25), some (mi 0)] [] (mupd (mupd σ 25 2 0) 28 0 0) Q) : HT GC M_X2_readSchool [mr 27, mr 25] σ Q := by
  refine HT.of pn_X2 (Nat.le_of_ble_eq_true rfl) ?_
  show WP GC M_X2_readSchool 0 [some (mr 27), some (mr 25), none] [] σ Q
  refine WP.aload_n dX2_readSchool_0 rfl ?_
  refine WP.iconst dX2_readSchool_1 (by decide) ?_
  refine WP.put fp_X2_18 dX2_readSchool_2 g25 rfl rfl rfl ?_
  refine WP.aload_n dX2_readSchool_5 rfl ?_
  refine WP.getR fd_X2_12 dX2_readSchool_6 g27 rfl ?_
  refine WP.iconst dX2_readSchool_9 (by decide) ?_
  refine WP.put fp_X2_24 dX2_readSchool_10 g28 rfl rfl rfl ?_
  refine WP.iconst dX2_readSchool_13 (by decide) ?_
  refine WP.istore_n (L2 := [some (mr 27), some (mr 25), some (mi 0)]) dX2_readSchool_14 (by decide) rfl ?_
  exact h
set_option maxRecDepth 100000 in
set_option maxHeartbeats 4000000 in
theorem b_X2_readSchool_27_25_15 (x2 : Int) {σ : Mem} {Q : Int → Mem → Prop} (h : (4 ≤ x2 → HT GC M_X5_fault [mr 25] σ (fun r68 σ68 => Q r68 σ68)) ∧ (¬ 4 ≤ x2 → HT GC M_X2_readCoat [mr 27, mr 25] σ (fun r22 σ22 => (¬ r22 = 0 → HT GC M_X5_atEnd [mr 25] σ22 (fun r34 σ34 => (r34 = 0 → (x2 = 3 → WP GC M_X2_readSchool 56 [none, some (mr 25), none] [] σ34 Q) ∧ (¬ x2 = 3 → HT GC M_X5_passes [mr 25, mi 44] σ34 (fun r50 σ50 => (¬ r50 = 0 → WP GC M_X2_readSchool 15 [some (mr 27), some (mr 25), some (mi (jadd x2 1))] [] σ50 Q) ∧ (r50 = 0 → WP GC M_X2_readSchool 56 [none, some (mr 25), none] [] σ50 Q)))) ∧ (¬ r34 = 0 → Q 0 σ34))) ∧ (r22 = 0 → HT GC M_X5_fault [mr 25] σ22 (fun r29 σ29 => Q r29 σ29))))) : WP GC M_X2_readSchool 15 [some (mr 27), some (mr 25), some (mi x2)] [] σ Q := by
  refine WP.iload_n dX2_readSchool_15 rfl ?_
  refine WP.iconst dX2_readSchool_16 (by decide) ?_
  refine WP.icmp_ge (tgt := 67) dX2_readSchool_17 (by decide) (fun q => ?_) (fun q => ?_)
  · have h := h.1 q
    refine WP.aload_n dX2_readSchool_67 rfl ?_
    refine WP.callV M_X5_fault [] cv_X5_fault dX2_readSchool_68 lk_X2_31 g25 rfl ft_X2_readSchool__X5_fault rfl (Nat.le_of_ble_eq_true rfl) (HT.mono h ?_)
    rintro r68 σ68 - - h
    exact WP.iret rfl dX2_readSchool_71 h
  · have h := h.2 q
    refine WP.aload_n dX2_readSchool_20 rfl ?_
    refine WP.aload_n dX2_readSchool_21 rfl ?_
    refine WP.callV M_X2_readCoat [mr 25] cv_X2_readCoat dX2_readSchool_22 lk_X2_27 g27 rfl ft_X2_readSchool__X2_readCoat rfl (Nat.le_of_ble_eq_true rfl) (HT.mono h ?_)
    rintro r22 σ22 - - h
    refine WP.if_ne (tgt := 33) dX2_readSchool_25 (by decide) (fun q => ?_) (fun q => ?_)
    · have h := h.1 q
      refine WP.aload_n dX2_readSchool_33 rfl ?_
      refine WP.callV M_X5_atEnd [] cv_X5_atEnd dX2_readSchool_34 lk_X2_35 g25 rfl ft_X2_readSchool__X5_atEnd rfl (Nat.le_of_ble_eq_true rfl) (HT.mono h ?_)
      rintro r34 σ34 - - h
      refine WP.if_eq (tgt := 42) dX2_readSchool_37 (by decide) (fun q => ?_) (fun q => ?_)
      · have h := h.1 q
        refine WP.iload_n dX2_readSchool_42 rfl ?_
        refine WP.iconst dX2_readSchool_43 (by decide) ?_
        refine WP.icmp_eq (tgt := 56) dX2_readSchool_44 (by decide) (fun q => ?_) (fun q => ?_)
        · have h := h.1 q
          refine WP.drop 0 (L2 := [none, some (mr 25), some (mi x2)]) rfl ?_
          refine WP.drop 2 (L2 := [none, some (mr 25), none]) rfl ?_
          exact h
        · have h := h.2 q
          refine WP.aload_n dX2_readSchool_47 rfl ?_
          refine WP.bipush dX2_readSchool_48 (by decide) bp_44 ?_
          refine WP.callV M_X5_passes [mi 44] cv_X5_passes dX2_readSchool_50 lk_X2_39 g25 rfl ft_X2_readSchool__X5_passes rfl (Nat.le_of_ble_eq_true rfl) (HT.mono h ?_)
          rintro r50 σ50 - - h
          refine WP.if_ne (tgt := 61) dX2_readSchool_53 (by decide) (fun q => ?_) (fun q => ?_)
          · have h := h.1 q
            refine WP.iinc (L2 := [some (mr 27), some (mr 25), some (mi (jadd x2 1))]) dX2_readSchool_61 (by decide) rfl (by decide) rfl ?_
            refine WP.goto (tgt := 15) dX2_readSchool_64 (by decide) ?_
            exact h
          · have h := h.2 q
            refine WP.drop 0 (L2 := [none, some (mr 25), some (mi x2)]) rfl ?_
            refine WP.drop 2 (L2 := [none, some (mr 25), none]) rfl ?_
            exact h
      · have h := h.2 q
        refine WP.iconst dX2_readSchool_40 (by decide) ?_
        exact WP.iret rfl dX2_readSchool_41 h
    · have h := h.2 q
      refine WP.aload_n dX2_readSchool_28 rfl ?_
      refine WP.callV M_X5_fault [] cv_X5_fault dX2_readSchool_29 lk_X2_31 g25 rfl ft_X2_readSchool__X5_fault rfl (Nat.le_of_ble_eq_true rfl) (HT.mono h ?_)
      rintro r29 σ29 - - h
      exact WP.iret rfl dX2_readSchool_32 h
set_option maxRecDepth 100000 in
set_option maxHeartbeats 4000000 in
theorem b_X2_readSchool_27_25_56 {σ : Mem} {Q : Int → Mem → Prop} (h : HT GC M_X5_fault [mr 25] σ (fun r57 σ57 => Q r57 σ57)) : WP GC M_X2_readSchool 56 [none, some (mr 25), none] [] σ Q := by
  refine WP.aload_n dX2_readSchool_56 rfl ?_
  refine WP.callV M_X5_fault [] cv_X5_fault dX2_readSchool_57 lk_X2_31 g25 rfl ft_X2_readSchool__X5_fault rfl (Nat.le_of_ble_eq_true rfl) (HT.mono h ?_)
  rintro r57 σ57 - - h
  exact WP.iret rfl dX2_readSchool_60 h
theorem dX2_readWay_0 : decode cX2_readWay 0 = .ok (.aload_n 0, 1) := by decide +kernel
theorem dX2_readWay_1 : decode cX2_readWay 1 = .ok (.aload_n 1, 1) := by decide +kernel
theorem dX2_readWay_2 : decode cX2_readWay 2 = .ok (.aload_n 2, 1) := by decide +kernel
theorem dX2_readWay_3 : decode cX2_readWay 3 = .ok (.getfield 82, 3) := by decide +kernel
theorem dX2_readWay_6 : decode cX2_readWay 6 = .ok (.getfield 86, 3) := by decide +kernel
theorem dX2_readWay_9 : decode cX2_readWay 9 = .ok (.invokevirtual 54, 3) := by decide +kernel
theorem dX2_readWay_12 : decode cX2_readWay 12 = .ok (.putfield 89, 3) := by decide +kernel
theorem dX2_readWay_15 : decode cX2_readWay 15 = .ok (.aload_n 0, 1) := by decide +kernel
theorem dX2_readWay_16 : decode cX2_readWay 16 = .ok (.getfield 89, 3) := by decide +kernel
theorem dX2_readWay_19 : decode cX2_readWay 19 = .ok (.bipush (-4), 2) := by decide +kernel
theorem dX2_readWay_21 : decode cX2_readWay 21 = .ok (.if_icmp .eq 12, 3) := by decide +kernel
theorem dX2_readWay_24 : decode cX2_readWay 24 = .ok (.aload_n 1, 1) := by decide +kernel
theorem dX2_readWay_25 : decode cX2_readWay 25 = .ok (.bipush 62, 2) := by decide +kernel
theorem dX2_readWay_27 : decode cX2_readWay 27 = .ok (.invokevirtual 39, 3) := by decide +kernel
theorem dX2_readWay_30 : decode cX2_readWay 30 = .ok (.ifCond .ne 5, 3) := by decide +kernel
theorem dX2_readWay_33 : decode cX2_readWay 33 = .ok (.iconst 0, 1) := by decide +kernel
theorem dX2_readWay_34 : decode cX2_readWay 34 = .ok (.ireturn, 1) := by decide +kernel
theorem dX2_readWay_35 : decode cX2_readWay 35 = .ok (.aload_n 0, 1) := by decide +kernel
theorem dX2_readWay_36 : decode cX2_readWay 36 = .ok (.aload_n 1, 1) := by decide +kernel
theorem dX2_readWay_37 : decode cX2_readWay 37 = .ok (.iload_n 3, 1) := by decide +kernel
theorem dX2_readWay_38 : decode cX2_readWay 38 = .ok (.invokevirtual 54, 3) := by decide +kernel
theorem dX2_readWay_41 : decode cX2_readWay 41 = .ok (.putfield 75, 3) := by decide +kernel
theorem dX2_readWay_44 : decode cX2_readWay 44 = .ok (.aload_n 0, 1) := by decide +kernel
theorem dX2_readWay_45 : decode cX2_readWay 45 = .ok (.getfield 75, 3) := by decide +kernel
theorem dX2_readWay_48 : decode cX2_readWay 48 = .ok (.bipush (-4), 2) := by decide +kernel
theorem dX2_readWay_50 : decode cX2_readWay 50 = .ok (.if_icmp .eq 7, 3) := by decide +kernel
theorem dX2_readWay_53 : decode cX2_readWay 53 = .ok (.iconst 1, 1) := by decide +kernel
theorem dX2_readWay_54 : decode cX2_readWay 54 = .ok (.goto 4, 3) := by decide +kernel
theorem dX2_readWay_57 : decode cX2_readWay 57 = .ok (.iconst 0, 1) := by decide +kernel
theorem dX2_readWay_58 : decode cX2_readWay 58 = .ok (.ireturn, 1) := by decide +kernel
set_option maxRecDepth 100000 in
set_option maxHeartbeats 4000000 in
theorem e_X2_readWay_27_25_1 (x3 : Int) {σ : Mem} {Q : Int → Mem → Prop} (h : HT GC M_X5_passDigit [mr 25, mi (σ 8 0)] σ (fun r9 σ9 => (r9 = (-4) → Q 0 (mupd σ9 27 2 r9)) ∧ (¬ r9 = (-4) → HT GC M_X5_passes [mr 25, mi 62] (mupd σ9 27 2 r9) (fun r27 σ27 => (¬ r27 = 0 → HT GC M_X5_passDigit [mr 25, mi x3] σ27 (fun r38 σ38 => (r38 = (-4) → Q 0 (mupd σ38 27 3 r38)) ∧ (¬ r38 = (-4) → Q 1 (mupd σ38 27 3 r38)))) ∧ (r27 = 0 → Q 0 σ27))))) : HT GC M_X2_readWay [mr 27, mr 25, mr 1, mi x3] σ Q := by
  refine HT.of pn_X2 (Nat.le_of_ble_eq_true rfl) ?_
  show WP GC M_X2_readWay 0 [some (mr 27), some (mr 25), some (mr 1), some (mi x3)] [] σ Q
  refine WP.aload_n dX2_readWay_0 rfl ?_
  refine WP.aload_n dX2_readWay_1 rfl ?_
  refine WP.aload_n dX2_readWay_2 rfl ?_
  refine WP.getR fd_X2_82 dX2_readWay_3 g1 rfl ?_
  refine WP.getI (v := σ 8 0) fd_X2_86 dX2_readWay_6 g8 rfl rfl ?_
  refine WP.callV M_X5_passDigit [mi (σ 8 0)] cv_X5_passDigit dX2_readWay_9 lk_X2_54 g25 rfl ft_X2_readWay__X5_passDigit rfl (Nat.le_of_ble_eq_true rfl) (HT.mono h ?_)
  rintro r9 σ9 - - h
  refine WP.put fp_X2_89 dX2_readWay_12 g27 rfl rfl rfl ?_
  refine WP.aload_n dX2_readWay_15 rfl ?_
  refine WP.getI (v := r9) fd_X2_89 dX2_readWay_16 g27 rfl mupd_at ?_
  refine WP.bipush dX2_readWay_19 (by decide) bp_m4 ?_
  refine WP.icmp_eq (tgt := 33) dX2_readWay_21 (by decide) (fun q => ?_) (fun q => ?_)
  · have h := h.1 q
    refine WP.iconst dX2_readWay_33 (by decide) ?_
    exact WP.zret rfl dX2_readWay_34 (by decide) h
  · have h := h.2 q
    refine WP.aload_n dX2_readWay_24 rfl ?_
    refine WP.bipush dX2_readWay_25 (by decide) bp_62 ?_
    refine WP.callV M_X5_passes [mi 62] cv_X5_passes dX2_readWay_27 lk_X2_39 g25 rfl ft_X2_readWay__X5_passes rfl (Nat.le_of_ble_eq_true rfl) (HT.mono h ?_)
    rintro r27 σ27 - - h
    refine WP.if_ne (tgt := 35) dX2_readWay_30 (by decide) (fun q => ?_) (fun q => ?_)
    · have h := h.1 q
      refine WP.aload_n dX2_readWay_35 rfl ?_
      refine WP.aload_n dX2_readWay_36 rfl ?_
      refine WP.iload_n dX2_readWay_37 rfl ?_
      refine WP.callV M_X5_passDigit [mi x3] cv_X5_passDigit dX2_readWay_38 lk_X2_54 g25 rfl ft_X2_readWay__X5_passDigit rfl (Nat.le_of_ble_eq_true rfl) (HT.mono h ?_)
      rintro r38 σ38 - - h
      refine WP.put fp_X2_75 dX2_readWay_41 g27 rfl rfl rfl ?_
      refine WP.aload_n dX2_readWay_44 rfl ?_
      refine WP.getI (v := r38) fd_X2_75 dX2_readWay_45 g27 rfl mupd_at ?_
      refine WP.bipush dX2_readWay_48 (by decide) bp_m4 ?_
      refine WP.icmp_eq (tgt := 57) dX2_readWay_50 (by decide) (fun q => ?_) (fun q => ?_)
      · have h := h.1 q
        refine WP.iconst dX2_readWay_57 (by decide) ?_
        exact WP.zret rfl dX2_readWay_58 (by decide) h
      · have h := h.2 q
        refine WP.iconst dX2_readWay_53 (by decide) ?_
        refine WP.goto (tgt := 58) dX2_readWay_54 (by decide) ?_
        exact WP.zret rfl dX2_readWay_58 (by decide) h
    · have h := h.2 q
      refine WP.iconst dX2_readWay_33 (by decide) ?_
      exact WP.zret rfl dX2_readWay_34 (by decide) h
theorem dX2_readAct_0 : decode cX2_readAct 0 = .ok (.aload_n 1, 1) := by decide +kernel
theorem dX2_readAct_1 : decode cX2_readAct 1 = .ok (.bipush 98, 2) := by decide +kernel
theorem dX2_readAct_3 : decode cX2_readAct 3 = .ok (.invokevirtual 39, 3) := by decide +kernel
theorem dX2_readAct_6 : decode cX2_readAct 6 = .ok (.ifCond .eq 11, 3) := by decide +kernel
theorem dX2_readAct_9 : decode cX2_readAct 9 = .ok (.aload_n 0, 1) := by decide +kernel
theorem dX2_readAct_10 : decode cX2_readAct 10 = .ok (.bipush 98, 2) := by decide +kernel
theorem dX2_readAct_12 : decode cX2_readAct 12 = .ok (.putfield 68, 3) := by decide +kernel
theorem dX2_readAct_15 : decode cX2_readAct 15 = .ok (.iconst 1, 1) := by decide +kernel
theorem dX2_readAct_16 : decode cX2_readAct 16 = .ok (.ireturn, 1) := by decide +kernel
theorem dX2_readAct_17 : decode cX2_readAct 17 = .ok (.aload_n 1, 1) := by decide +kernel
theorem dX2_readAct_18 : decode cX2_readAct 18 = .ok (.bipush 115, 2) := by decide +kernel
theorem dX2_readAct_20 : decode cX2_readAct 20 = .ok (.invokevirtual 39, 3) := by decide +kernel
theorem dX2_readAct_23 : decode cX2_readAct 23 = .ok (.ifCond .eq 39, 3) := by decide +kernel
theorem dX2_readAct_26 : decode cX2_readAct 26 = .ok (.aload_n 0, 1) := by decide +kernel
theorem dX2_readAct_27 : decode cX2_readAct 27 = .ok (.bipush 115, 2) := by decide +kernel
theorem dX2_readAct_29 : decode cX2_readAct 29 = .ok (.putfield 68, 3) := by decide +kernel
theorem dX2_readAct_32 : decode cX2_readAct 32 = .ok (.aload_n 0, 1) := by decide +kernel
theorem dX2_readAct_33 : decode cX2_readAct 33 = .ok (.aload_n 1, 1) := by decide +kernel
theorem dX2_readAct_34 : decode cX2_readAct 34 = .ok (.aload_n 2, 1) := by decide +kernel
theorem dX2_readAct_35 : decode cX2_readAct 35 = .ok (.getfield 72, 3) := by decide +kernel
theorem dX2_readAct_38 : decode cX2_readAct 38 = .ok (.getfield 24, 3) := by decide +kernel
theorem dX2_readAct_41 : decode cX2_readAct 41 = .ok (.invokevirtual 54, 3) := by decide +kernel
theorem dX2_readAct_44 : decode cX2_readAct 44 = .ok (.putfield 75, 3) := by decide +kernel
theorem dX2_readAct_47 : decode cX2_readAct 47 = .ok (.aload_n 0, 1) := by decide +kernel
theorem dX2_readAct_48 : decode cX2_readAct 48 = .ok (.getfield 75, 3) := by decide +kernel
theorem dX2_readAct_51 : decode cX2_readAct 51 = .ok (.bipush (-4), 2) := by decide +kernel
theorem dX2_readAct_53 : decode cX2_readAct 53 = .ok (.if_icmp .eq 7, 3) := by decide +kernel
theorem dX2_readAct_56 : decode cX2_readAct 56 = .ok (.iconst 1, 1) := by decide +kernel
theorem dX2_readAct_57 : decode cX2_readAct 57 = .ok (.goto 4, 3) := by decide +kernel
theorem dX2_readAct_60 : decode cX2_readAct 60 = .ok (.iconst 0, 1) := by decide +kernel
theorem dX2_readAct_61 : decode cX2_readAct 61 = .ok (.ireturn, 1) := by decide +kernel
theorem dX2_readAct_62 : decode cX2_readAct 62 = .ok (.aload_n 1, 1) := by decide +kernel
theorem dX2_readAct_63 : decode cX2_readAct 63 = .ok (.bipush 112, 2) := by decide +kernel
theorem dX2_readAct_65 : decode cX2_readAct 65 = .ok (.invokevirtual 39, 3) := by decide +kernel
theorem dX2_readAct_68 : decode cX2_readAct 68 = .ok (.ifCond .eq 23, 3) := by decide +kernel
theorem dX2_readAct_71 : decode cX2_readAct 71 = .ok (.aload_n 0, 1) := by decide +kernel
theorem dX2_readAct_72 : decode cX2_readAct 72 = .ok (.bipush 112, 2) := by decide +kernel
theorem dX2_readAct_74 : decode cX2_readAct 74 = .ok (.putfield 68, 3) := by decide +kernel
theorem dX2_readAct_77 : decode cX2_readAct 77 = .ok (.aload_n 0, 1) := by decide +kernel
theorem dX2_readAct_78 : decode cX2_readAct 78 = .ok (.aload_n 1, 1) := by decide +kernel
theorem dX2_readAct_79 : decode cX2_readAct 79 = .ok (.aload_n 2, 1) := by decide +kernel
theorem dX2_readAct_80 : decode cX2_readAct 80 = .ok (.aload_n 2, 1) := by decide +kernel
theorem dX2_readAct_81 : decode cX2_readAct 81 = .ok (.getfield 72, 3) := by decide +kernel
theorem dX2_readAct_84 : decode cX2_readAct 84 = .ok (.getfield 24, 3) := by decide +kernel
theorem dX2_readAct_87 : decode cX2_readAct 87 = .ok (.invokevirtual 78, 3) := by decide +kernel
theorem dX2_readAct_90 : decode cX2_readAct 90 = .ok (.ireturn, 1) := by decide +kernel
theorem dX2_readAct_91 : decode cX2_readAct 91 = .ok (.aload_n 1, 1) := by decide +kernel
theorem dX2_readAct_92 : decode cX2_readAct 92 = .ok (.bipush 116, 2) := by decide +kernel
theorem dX2_readAct_94 : decode cX2_readAct 94 = .ok (.invokevirtual 39, 3) := by decide +kernel
theorem dX2_readAct_97 : decode cX2_readAct 97 = .ok (.ifCond .eq 23, 3) := by decide +kernel
theorem dX2_readAct_100 : decode cX2_readAct 100 = .ok (.aload_n 0, 1) := by decide +kernel
theorem dX2_readAct_101 : decode cX2_readAct 101 = .ok (.bipush 116, 2) := by decide +kernel
theorem dX2_readAct_103 : decode cX2_readAct 103 = .ok (.putfield 68, 3) := by decide +kernel
theorem dX2_readAct_106 : decode cX2_readAct 106 = .ok (.aload_n 0, 1) := by decide +kernel
theorem dX2_readAct_107 : decode cX2_readAct 107 = .ok (.aload_n 1, 1) := by decide +kernel
theorem dX2_readAct_108 : decode cX2_readAct 108 = .ok (.aload_n 2, 1) := by decide +kernel
theorem dX2_readAct_109 : decode cX2_readAct 109 = .ok (.aload_n 2, 1) := by decide +kernel
theorem dX2_readAct_110 : decode cX2_readAct 110 = .ok (.getfield 72, 3) := by decide +kernel
theorem dX2_readAct_113 : decode cX2_readAct 113 = .ok (.getfield 24, 3) := by decide +kernel
theorem dX2_readAct_116 : decode cX2_readAct 116 = .ok (.invokevirtual 78, 3) := by decide +kernel
theorem dX2_readAct_119 : decode cX2_readAct 119 = .ok (.ireturn, 1) := by decide +kernel
theorem dX2_readAct_120 : decode cX2_readAct 120 = .ok (.aload_n 1, 1) := by decide +kernel
theorem dX2_readAct_121 : decode cX2_readAct 121 = .ok (.bipush 103, 2) := by decide +kernel
theorem dX2_readAct_123 : decode cX2_readAct 123 = .ok (.invokevirtual 39, 3) := by decide +kernel
theorem dX2_readAct_126 : decode cX2_readAct 126 = .ok (.ifCond .eq 18, 3) := by decide +kernel
theorem dX2_readAct_129 : decode cX2_readAct 129 = .ok (.aload_n 0, 1) := by decide +kernel
theorem dX2_readAct_130 : decode cX2_readAct 130 = .ok (.bipush 103, 2) := by decide +kernel
theorem dX2_readAct_132 : decode cX2_readAct 132 = .ok (.putfield 68, 3) := by decide +kernel
theorem dX2_readAct_135 : decode cX2_readAct 135 = .ok (.aload_n 0, 1) := by decide +kernel
theorem dX2_readAct_136 : decode cX2_readAct 136 = .ok (.aload_n 1, 1) := by decide +kernel
theorem dX2_readAct_137 : decode cX2_readAct 137 = .ok (.aload_n 2, 1) := by decide +kernel
theorem dX2_readAct_138 : decode cX2_readAct 138 = .ok (.bipush 8, 2) := by decide +kernel
theorem dX2_readAct_140 : decode cX2_readAct 140 = .ok (.invokevirtual 78, 3) := by decide +kernel
theorem dX2_readAct_143 : decode cX2_readAct 143 = .ok (.ireturn, 1) := by decide +kernel
theorem dX2_readAct_144 : decode cX2_readAct 144 = .ok (.iconst 0, 1) := by decide +kernel
theorem dX2_readAct_145 : decode cX2_readAct 145 = .ok (.ireturn, 1) := by decide +kernel
set_option maxRecDepth 100000 in
set_option maxHeartbeats 4000000 in
theorem e_X2_readAct_27_25_1 {σ : Mem} {Q : Int → Mem → Prop} (h : HT GC M_X5_passes [mr 25, mi 98] σ (fun r3 σ3 => (r3 = 0 → HT GC M_X5_passes [mr 25, mi 115] σ3 (fun r20 σ20 => (r20 = 0 → HT GC M_X5_passes [mr 25, mi 112] σ20 (fun r65 σ65 => (r65 = 0 → HT GC M_X5_passes [mr 25, mi 116] σ65 (fun r94 σ94 => (r94 = 0 → HT GC M_X5_passes [mr 25, mi 103] σ94 (fun r123 σ123 => (r123 = 0 → Q 0 σ123) ∧ (¬ r123 = 0 → HT GC M_X2_readWay [mr 27, mr 25, mr 1, mi 8] (mupd σ123 27 1 103) (fun r140 σ140 => (r140 = 0 ∨ r140 = 1) ∧ Q r140 σ140)))) ∧ (¬ r94 = 0 → HT GC M_X2_readWay [mr 27, mr 25, mr 1, mi (σ94 3 0)] (mupd σ94 27 1 116) (fun r116 σ116 => (r116 = 0 ∨ r116 = 1) ∧ Q r116 σ116)))) ∧ (¬ r65 = 0 → HT GC M_X2_readWay [mr 27, mr 25, mr 1, mi (σ65 3 0)] (mupd σ65 27 1 112) (fun r87 σ87 => (r87 = 0 ∨ r87 = 1) ∧ Q r87 σ87)))) ∧ (¬ r20 = 0 → HT GC M_X5_passDigit [mr 25, mi (σ20 3 0)] (mupd σ20 27 1 115) (fun r41 σ41 => (r41 = (-4) → Q 0 (mupd σ41 27 3 r41)) ∧ (¬ r41 = (-4) → Q 1 (mupd σ41 27 3 r41)))))) ∧ (¬ r3 = 0 → Q 1 (mupd σ3 27 1 98)))) : HT GC M_X2_readAct [mr 27, mr 25, mr 1] σ Q := by
  refine HT.of pn_X2 (Nat.le_of_ble_eq_true rfl) ?_
  show WP GC M_X2_readAct 0 [some (mr 27), some (mr 25), some (mr 1)] [] σ Q
  refine WP.aload_n dX2_readAct_0 rfl ?_
  refine WP.bipush dX2_readAct_1 (by decide) bp_98 ?_
  refine WP.callV M_X5_passes [mi 98] cv_X5_passes dX2_readAct_3 lk_X2_39 g25 rfl ft_X2_readAct__X5_passes rfl (Nat.le_of_ble_eq_true rfl) (HT.mono h ?_)
  rintro r3 σ3 - - h
  refine WP.if_eq (tgt := 17) dX2_readAct_6 (by decide) (fun q => ?_) (fun q => ?_)
  · have h := h.1 q
    refine WP.aload_n dX2_readAct_17 rfl ?_
    refine WP.bipush dX2_readAct_18 (by decide) bp_115 ?_
    refine WP.callV M_X5_passes [mi 115] cv_X5_passes dX2_readAct_20 lk_X2_39 g25 rfl ft_X2_readAct__X5_passes rfl (Nat.le_of_ble_eq_true rfl) (HT.mono h ?_)
    rintro r20 σ20 - - h
    refine WP.if_eq (tgt := 62) dX2_readAct_23 (by decide) (fun q => ?_) (fun q => ?_)
    · have h := h.1 q
      refine WP.aload_n dX2_readAct_62 rfl ?_
      refine WP.bipush dX2_readAct_63 (by decide) bp_112 ?_
      refine WP.callV M_X5_passes [mi 112] cv_X5_passes dX2_readAct_65 lk_X2_39 g25 rfl ft_X2_readAct__X5_passes rfl (Nat.le_of_ble_eq_true rfl) (HT.mono h ?_)
      rintro r65 σ65 - - h
      refine WP.if_eq (tgt := 91) dX2_readAct_68 (by decide) (fun q => ?_) (fun q => ?_)
      · have h := h.1 q
        refine WP.aload_n dX2_readAct_91 rfl ?_
        refine WP.bipush dX2_readAct_92 (by decide) bp_116 ?_
        refine WP.callV M_X5_passes [mi 116] cv_X5_passes dX2_readAct_94 lk_X2_39 g25 rfl ft_X2_readAct__X5_passes rfl (Nat.le_of_ble_eq_true rfl) (HT.mono h ?_)
        rintro r94 σ94 - - h
        refine WP.if_eq (tgt := 120) dX2_readAct_97 (by decide) (fun q => ?_) (fun q => ?_)
        · have h := h.1 q
          refine WP.aload_n dX2_readAct_120 rfl ?_
          refine WP.bipush dX2_readAct_121 (by decide) bp_103 ?_
          refine WP.callV M_X5_passes [mi 103] cv_X5_passes dX2_readAct_123 lk_X2_39 g25 rfl ft_X2_readAct__X5_passes rfl (Nat.le_of_ble_eq_true rfl) (HT.mono h ?_)
          rintro r123 σ123 - - h
          refine WP.if_eq (tgt := 144) dX2_readAct_126 (by decide) (fun q => ?_) (fun q => ?_)
          · have h := h.1 q
            refine WP.iconst dX2_readAct_144 (by decide) ?_
            exact WP.zret rfl dX2_readAct_145 (by decide) h
          · have h := h.2 q
            refine WP.aload_n dX2_readAct_129 rfl ?_
            refine WP.bipush dX2_readAct_130 (by decide) bp_103 ?_
            refine WP.put fp_X2_68 dX2_readAct_132 g27 rfl (by decide) (by decide) ?_
            refine WP.aload_n dX2_readAct_135 rfl ?_
            refine WP.aload_n dX2_readAct_136 rfl ?_
            refine WP.aload_n dX2_readAct_137 rfl ?_
            refine WP.bipush dX2_readAct_138 (by decide) bp_8 ?_
            refine WP.callV M_X2_readWay [mr 25, mr 1, mi 8] cv_X2_readWay dX2_readAct_140 lk_X2_78 g27 rfl ft_X2_readAct__X2_readWay rfl (Nat.le_of_ble_eq_true rfl) (HT.mono h ?_)
            rintro r140 σ140 - - h
            exact WP.zret rfl dX2_readAct_143 h.1 h.2
        · have h := h.2 q
          refine WP.aload_n dX2_readAct_100 rfl ?_
          refine WP.bipush dX2_readAct_101 (by decide) bp_116 ?_
          refine WP.put fp_X2_68 dX2_readAct_103 g27 rfl (by decide) (by decide) ?_
          refine WP.aload_n dX2_readAct_106 rfl ?_
          refine WP.aload_n dX2_readAct_107 rfl ?_
          refine WP.aload_n dX2_readAct_108 rfl ?_
          refine WP.aload_n dX2_readAct_109 rfl ?_
          refine WP.getR fd_X2_72 dX2_readAct_110 g1 rfl ?_
          refine WP.getI (v := σ94 3 0) fd_X2_24 dX2_readAct_113 g3 rfl (mupd_rp (by decide)) ?_
          refine WP.callV M_X2_readWay [mr 25, mr 1, mi (σ94 3 0)] cv_X2_readWay dX2_readAct_116 lk_X2_78 g27 rfl ft_X2_readAct__X2_readWay rfl (Nat.le_of_ble_eq_true rfl) (HT.mono h ?_)
          rintro r116 σ116 - - h
          exact WP.zret rfl dX2_readAct_119 h.1 h.2
      · have h := h.2 q
        refine WP.aload_n dX2_readAct_71 rfl ?_
        refine WP.bipush dX2_readAct_72 (by decide) bp_112 ?_
        refine WP.put fp_X2_68 dX2_readAct_74 g27 rfl (by decide) (by decide) ?_
        refine WP.aload_n dX2_readAct_77 rfl ?_
        refine WP.aload_n dX2_readAct_78 rfl ?_
        refine WP.aload_n dX2_readAct_79 rfl ?_
        refine WP.aload_n dX2_readAct_80 rfl ?_
        refine WP.getR fd_X2_72 dX2_readAct_81 g1 rfl ?_
        refine WP.getI (v := σ65 3 0) fd_X2_24 dX2_readAct_84 g3 rfl (mupd_rp (by decide)) ?_
        refine WP.callV M_X2_readWay [mr 25, mr 1, mi (σ65 3 0)] cv_X2_readWay dX2_readAct_87 lk_X2_78 g27 rfl ft_X2_readAct__X2_readWay rfl (Nat.le_of_ble_eq_true rfl) (HT.mono h ?_)
        rintro r87 σ87 - - h
        exact WP.zret rfl dX2_readAct_90 h.1 h.2
    · have h := h.2 q
      refine WP.aload_n dX2_readAct_26 rfl ?_
      refine WP.bipush dX2_readAct_27 (by decide) bp_115 ?_
      refine WP.put fp_X2_68 dX2_readAct_29 g27 rfl (by decide) (by decide) ?_
      refine WP.aload_n dX2_readAct_32 rfl ?_
      refine WP.aload_n dX2_readAct_33 rfl ?_
      refine WP.aload_n dX2_readAct_34 rfl ?_
      refine WP.getR fd_X2_72 dX2_readAct_35 g1 rfl ?_
      refine WP.getI (v := σ20 3 0) fd_X2_24 dX2_readAct_38 g3 rfl (mupd_rp (by decide)) ?_
      refine WP.callV M_X5_passDigit [mi (σ20 3 0)] cv_X5_passDigit dX2_readAct_41 lk_X2_54 g25 rfl ft_X2_readAct__X5_passDigit rfl (Nat.le_of_ble_eq_true rfl) (HT.mono h ?_)
      rintro r41 σ41 - - h
      refine WP.put fp_X2_75 dX2_readAct_44 g27 rfl rfl rfl ?_
      refine WP.aload_n dX2_readAct_47 rfl ?_
      refine WP.getI (v := r41) fd_X2_75 dX2_readAct_48 g27 rfl mupd_at ?_
      refine WP.bipush dX2_readAct_51 (by decide) bp_m4 ?_
      refine WP.icmp_eq (tgt := 60) dX2_readAct_53 (by decide) (fun q => ?_) (fun q => ?_)
      · have h := h.1 q
        refine WP.iconst dX2_readAct_60 (by decide) ?_
        exact WP.zret rfl dX2_readAct_61 (by decide) h
      · have h := h.2 q
        refine WP.iconst dX2_readAct_56 (by decide) ?_
        refine WP.goto (tgt := 61) dX2_readAct_57 (by decide) ?_
        exact WP.zret rfl dX2_readAct_61 (by decide) h
  · have h := h.2 q
    refine WP.aload_n dX2_readAct_9 rfl ?_
    refine WP.bipush dX2_readAct_10 (by decide) bp_98 ?_
    refine WP.put fp_X2_68 dX2_readAct_12 g27 rfl (by decide) (by decide) ?_
    refine WP.iconst dX2_readAct_15 (by decide) ?_
    exact WP.zret rfl dX2_readAct_16 (by decide) h
theorem dX2_checkDay_0 : decode cX2_checkDay 0 = .ok (.aload_n 1, 1) := by decide +kernel
theorem dX2_checkDay_1 : decode cX2_checkDay 1 = .ok (.iconst 0, 1) := by decide +kernel
theorem dX2_checkDay_2 : decode cX2_checkDay 2 = .ok (.putfield 18, 3) := by decide +kernel
theorem dX2_checkDay_5 : decode cX2_checkDay 5 = .ok (.iconst 0, 1) := by decide +kernel
theorem dX2_checkDay_6 : decode cX2_checkDay 6 = .ok (.istore_n 3, 1) := by decide +kernel
theorem dX2_checkDay_7 : decode cX2_checkDay 7 = .ok (.iload_n 3, 1) := by decide +kernel
theorem dX2_checkDay_8 : decode cX2_checkDay 8 = .ok (.bipush 100, 2) := by decide +kernel
theorem dX2_checkDay_10 : decode cX2_checkDay 10 = .ok (.if_icmp .ge 46, 3) := by decide +kernel
theorem dX2_checkDay_13 : decode cX2_checkDay 13 = .ok (.aload_n 0, 1) := by decide +kernel
theorem dX2_checkDay_14 : decode cX2_checkDay 14 = .ok (.aload_n 1, 1) := by decide +kernel
theorem dX2_checkDay_15 : decode cX2_checkDay 15 = .ok (.aload_n 2, 1) := by decide +kernel
theorem dX2_checkDay_16 : decode cX2_checkDay 16 = .ok (.invokevirtual 60, 3) := by decide +kernel
theorem dX2_checkDay_19 : decode cX2_checkDay 19 = .ok (.ifCond .ne 8, 3) := by decide +kernel
theorem dX2_checkDay_22 : decode cX2_checkDay 22 = .ok (.aload_n 1, 1) := by decide +kernel
theorem dX2_checkDay_23 : decode cX2_checkDay 23 = .ok (.invokevirtual 31, 3) := by decide +kernel
theorem dX2_checkDay_26 : decode cX2_checkDay 26 = .ok (.ireturn, 1) := by decide +kernel
theorem dX2_checkDay_27 : decode cX2_checkDay 27 = .ok (.aload_n 1, 1) := by decide +kernel
theorem dX2_checkDay_28 : decode cX2_checkDay 28 = .ok (.invokevirtual 35, 3) := by decide +kernel
theorem dX2_checkDay_31 : decode cX2_checkDay 31 = .ok (.ifCond .eq 5, 3) := by decide +kernel
theorem dX2_checkDay_34 : decode cX2_checkDay 34 = .ok (.iconst 0, 1) := by decide +kernel
theorem dX2_checkDay_35 : decode cX2_checkDay 35 = .ok (.ireturn, 1) := by decide +kernel
theorem dX2_checkDay_36 : decode cX2_checkDay 36 = .ok (.aload_n 1, 1) := by decide +kernel
theorem dX2_checkDay_37 : decode cX2_checkDay 37 = .ok (.bipush 59, 2) := by decide +kernel
theorem dX2_checkDay_39 : decode cX2_checkDay 39 = .ok (.invokevirtual 39, 3) := by decide +kernel
theorem dX2_checkDay_42 : decode cX2_checkDay 42 = .ok (.ifCond .ne 8, 3) := by decide +kernel
theorem dX2_checkDay_45 : decode cX2_checkDay 45 = .ok (.aload_n 1, 1) := by decide +kernel
theorem dX2_checkDay_46 : decode cX2_checkDay 46 = .ok (.invokevirtual 31, 3) := by decide +kernel
theorem dX2_checkDay_49 : decode cX2_checkDay 49 = .ok (.ireturn, 1) := by decide +kernel
theorem dX2_checkDay_50 : decode cX2_checkDay 50 = .ok (.iinc 3 1, 3) := by decide +kernel
theorem dX2_checkDay_53 : decode cX2_checkDay 53 = .ok (.goto (-46), 3) := by decide +kernel
theorem dX2_checkDay_56 : decode cX2_checkDay 56 = .ok (.aload_n 1, 1) := by decide +kernel
theorem dX2_checkDay_57 : decode cX2_checkDay 57 = .ok (.invokevirtual 31, 3) := by decide +kernel
theorem dX2_checkDay_60 : decode cX2_checkDay 60 = .ok (.ireturn, 1) := by decide +kernel
set_option maxRecDepth 100000 in
set_option maxHeartbeats 4000000 in
theorem e_X2_checkDay_27_25_1 {σ : Mem} {Q : Int → Mem → Prop} (h : WP GC M_X2_checkDay 7 [some (mr 27), some (mr 25), some (mr 1), some (mi 0)] [] (mupd σ 25 2 0) Q) : HT GC M_X2_checkDay [mr 27, mr 25, mr 1] σ Q := by
  refine HT.of pn_X2 (Nat.le_of_ble_eq_true rfl) ?_
  show WP GC M_X2_checkDay 0 [some (mr 27), some (mr 25), some (mr 1), none] [] σ Q
  refine WP.aload_n dX2_checkDay_0 rfl ?_
  refine WP.iconst dX2_checkDay_1 (by decide) ?_
  refine WP.put fp_X2_18 dX2_checkDay_2 g25 rfl rfl rfl ?_
  refine WP.iconst dX2_checkDay_5 (by decide) ?_
  refine WP.istore_n (L2 := [some (mr 27), some (mr 25), some (mr 1), some (mi 0)]) dX2_checkDay_6 (by decide) rfl ?_
  exact h
set_option maxRecDepth 100000 in
set_option maxHeartbeats 4000000 in
theorem b_X2_checkDay_27_25_1_7 (x3 : Int) {σ : Mem} {Q : Int → Mem → Prop} (h : (100 ≤ x3 → HT GC M_X5_fault [mr 25] σ (fun r57 σ57 => Q r57 σ57)) ∧ (¬ 100 ≤ x3 → HT GC M_X2_readAct [mr 27, mr 25, mr 1] σ (fun r16 σ16 => (¬ r16 = 0 → HT GC M_X5_atEnd [mr 25] σ16 (fun r28 σ28 => (r28 = 0 → HT GC M_X5_passes [mr 25, mi 59] σ28 (fun r39 σ39 => (¬ r39 = 0 → WP GC M_X2_checkDay 7 [some (mr 27), some (mr 25), some (mr 1), some (mi (jadd x3 1))] [] σ39 Q) ∧ (r39 = 0 → HT GC M_X5_fault [mr 25] σ39 (fun r46 σ46 => Q r46 σ46)))) ∧ (¬ r28 = 0 → Q 0 σ28))) ∧ (r16 = 0 → HT GC M_X5_fault [mr 25] σ16 (fun r23 σ23 => Q r23 σ23))))) : WP GC M_X2_checkDay 7 [some (mr 27), some (mr 25), some (mr 1), some (mi x3)] [] σ Q := by
  refine WP.iload_n dX2_checkDay_7 rfl ?_
  refine WP.bipush dX2_checkDay_8 (by decide) bp_100 ?_
  refine WP.icmp_ge (tgt := 56) dX2_checkDay_10 (by decide) (fun q => ?_) (fun q => ?_)
  · have h := h.1 q
    refine WP.aload_n dX2_checkDay_56 rfl ?_
    refine WP.callV M_X5_fault [] cv_X5_fault dX2_checkDay_57 lk_X2_31 g25 rfl ft_X2_checkDay__X5_fault rfl (Nat.le_of_ble_eq_true rfl) (HT.mono h ?_)
    rintro r57 σ57 - - h
    exact WP.iret rfl dX2_checkDay_60 h
  · have h := h.2 q
    refine WP.aload_n dX2_checkDay_13 rfl ?_
    refine WP.aload_n dX2_checkDay_14 rfl ?_
    refine WP.aload_n dX2_checkDay_15 rfl ?_
    refine WP.callV M_X2_readAct [mr 25, mr 1] cv_X2_readAct dX2_checkDay_16 lk_X2_60 g27 rfl ft_X2_checkDay__X2_readAct rfl (Nat.le_of_ble_eq_true rfl) (HT.mono h ?_)
    rintro r16 σ16 - - h
    refine WP.if_ne (tgt := 27) dX2_checkDay_19 (by decide) (fun q => ?_) (fun q => ?_)
    · have h := h.1 q
      refine WP.aload_n dX2_checkDay_27 rfl ?_
      refine WP.callV M_X5_atEnd [] cv_X5_atEnd dX2_checkDay_28 lk_X2_35 g25 rfl ft_X2_checkDay__X5_atEnd rfl (Nat.le_of_ble_eq_true rfl) (HT.mono h ?_)
      rintro r28 σ28 - - h
      refine WP.if_eq (tgt := 36) dX2_checkDay_31 (by decide) (fun q => ?_) (fun q => ?_)
      · have h := h.1 q
        refine WP.aload_n dX2_checkDay_36 rfl ?_
        refine WP.bipush dX2_checkDay_37 (by decide) bp_59 ?_
        refine WP.callV M_X5_passes [mi 59] cv_X5_passes dX2_checkDay_39 lk_X2_39 g25 rfl ft_X2_checkDay__X5_passes rfl (Nat.le_of_ble_eq_true rfl) (HT.mono h ?_)
        rintro r39 σ39 - - h
        refine WP.if_ne (tgt := 50) dX2_checkDay_42 (by decide) (fun q => ?_) (fun q => ?_)
        · have h := h.1 q
          refine WP.iinc (L2 := [some (mr 27), some (mr 25), some (mr 1), some (mi (jadd x3 1))]) dX2_checkDay_50 (by decide) rfl (by decide) rfl ?_
          refine WP.goto (tgt := 7) dX2_checkDay_53 (by decide) ?_
          exact h
        · have h := h.2 q
          refine WP.aload_n dX2_checkDay_45 rfl ?_
          refine WP.callV M_X5_fault [] cv_X5_fault dX2_checkDay_46 lk_X2_31 g25 rfl ft_X2_checkDay__X5_fault rfl (Nat.le_of_ble_eq_true rfl) (HT.mono h ?_)
          rintro r46 σ46 - - h
          exact WP.iret rfl dX2_checkDay_49 h
      · have h := h.2 q
        refine WP.iconst dX2_checkDay_34 (by decide) ?_
        exact WP.iret rfl dX2_checkDay_35 h
    · have h := h.2 q
      refine WP.aload_n dX2_checkDay_22 rfl ?_
      refine WP.callV M_X5_fault [] cv_X5_fault dX2_checkDay_23 lk_X2_31 g25 rfl ft_X2_checkDay__X5_fault rfl (Nat.le_of_ble_eq_true rfl) (HT.mono h ?_)
      rintro r23 σ23 - - h
      exact WP.iret rfl dX2_checkDay_26 h
theorem dX4_handOver_0 : decode cX4_handOver 0 = .ok (.aload_n 0, 1) := by decide +kernel
theorem dX4_handOver_1 : decode cX4_handOver 1 = .ok (.getfield 21, 3) := by decide +kernel
theorem dX4_handOver_4 : decode cX4_handOver 4 = .ok (.getfield 53, 3) := by decide +kernel
theorem dX4_handOver_7 : decode cX4_handOver 7 = .ok (.iload_n 1, 1) := by decide +kernel
theorem dX4_handOver_8 : decode cX4_handOver 8 = .ok (.iaload, 1) := by decide +kernel
theorem dX4_handOver_9 : decode cX4_handOver 9 = .ok (.istore_n 3, 1) := by decide +kernel
theorem dX4_handOver_10 : decode cX4_handOver 10 = .ok (.iload_n 3, 1) := by decide +kernel
theorem dX4_handOver_11 : decode cX4_handOver 11 = .ok (.bipush 8, 2) := by decide +kernel
theorem dX4_handOver_13 : decode cX4_handOver 13 = .ok (.if_icmp .ge 30, 3) := by decide +kernel
theorem dX4_handOver_16 : decode cX4_handOver 16 = .ok (.iload_n 3, 1) := by decide +kernel
theorem dX4_handOver_17 : decode cX4_handOver 17 = .ok (.iload_n 2, 1) := by decide +kernel
theorem dX4_handOver_18 : decode cX4_handOver 18 = .ok (.if_icmp .eq 25, 3) := by decide +kernel
theorem dX4_handOver_21 : decode cX4_handOver 21 = .ok (.aload_n 0, 1) := by decide +kernel
theorem dX4_handOver_22 : decode cX4_handOver 22 = .ok (.getfield 12, 3) := by decide +kernel
theorem dX4_handOver_25 : decode cX4_handOver 25 = .ok (.iload_n 3, 1) := by decide +kernel
theorem dX4_handOver_26 : decode cX4_handOver 26 = .ok (.invokevirtual 63, 3) := by decide +kernel
theorem dX4_handOver_29 : decode cX4_handOver 29 = .ok (.ifCond .eq 14, 3) := by decide +kernel
theorem dX4_handOver_32 : decode cX4_handOver 32 = .ok (.aload_n 0, 1) := by decide +kernel
theorem dX4_handOver_33 : decode cX4_handOver 33 = .ok (.getfield 12, 3) := by decide +kernel
theorem dX4_handOver_36 : decode cX4_handOver 36 = .ok (.iload_n 2, 1) := by decide +kernel
theorem dX4_handOver_37 : decode cX4_handOver 37 = .ok (.invokevirtual 63, 3) := by decide +kernel
theorem dX4_handOver_40 : decode cX4_handOver 40 = .ok (.ifCond .ne 6, 3) := by decide +kernel
theorem dX4_handOver_43 : decode cX4_handOver 43 = .ok (.bipush (-2), 2) := by decide +kernel
theorem dX4_handOver_45 : decode cX4_handOver 45 = .ok (.ireturn, 1) := by decide +kernel
theorem dX4_handOver_46 : decode cX4_handOver 46 = .ok (.aload_n 0, 1) := by decide +kernel
theorem dX4_handOver_47 : decode cX4_handOver 47 = .ok (.getfield 21, 3) := by decide +kernel
theorem dX4_handOver_50 : decode cX4_handOver 50 = .ok (.getfield 53, 3) := by decide +kernel
theorem dX4_handOver_53 : decode cX4_handOver 53 = .ok (.iload_n 1, 1) := by decide +kernel
theorem dX4_handOver_54 : decode cX4_handOver 54 = .ok (.iload_n 2, 1) := by decide +kernel
theorem dX4_handOver_55 : decode cX4_handOver 55 = .ok (.iastore, 1) := by decide +kernel
theorem dX4_handOver_56 : decode cX4_handOver 56 = .ok (.iload_n 3, 1) := by decide +kernel
theorem dX4_handOver_57 : decode cX4_handOver 57 = .ok (.ireturn, 1) := by decide +kernel
set_option maxRecDepth 100000 in
set_option maxHeartbeats 4000000 in
theorem e_X4_handOver_1 (x1 x2 : Int) {σ : Mem} {Q : Int → Mem → Prop} (h : (0 ≤ x1 ∧ x1 < 8) ∧ ((8 ≤ σ 10 x1 → Q (-2) σ) ∧ (¬ 8 ≤ σ 10 x1 → (σ 10 x1 = x2 → Q (-2) σ) ∧ (¬ σ 10 x1 = x2 → HT GC M_X0_anyOn [mr 3, mi (σ 10 x1)] σ (fun r26 σ26 => (r26 = 0 → Q (-2) σ26) ∧ (¬ r26 = 0 → HT GC M_X0_anyOn [mr 3, mi x2] σ26 (fun r37 σ37 => (¬ r37 = 0 → (0 ≤ x1 ∧ x1 < 8) ∧ (Q (σ 10 x1) (mupd σ37 10 x1 x2))) ∧ (r37 = 0 → Q (-2) σ37)))))))) : HT GC M_X4_handOver [mr 1, mi x1, mi x2] σ Q := by
  refine HT.of pn_X4 (Nat.le_of_ble_eq_true rfl) ?_
  show WP GC M_X4_handOver 0 [some (mr 1), some (mi x1), some (mi x2), none] [] σ Q
  refine WP.aload_n dX4_handOver_0 rfl ?_
  refine WP.getR fd_X4_21 dX4_handOver_1 g1 rfl ?_
  refine WP.getR fd_X4_53 dX4_handOver_4 g8 rfl ?_
  refine WP.iload_n dX4_handOver_7 rfl ?_
  obtain ⟨hi, h⟩ := h
  refine WP.iald dX4_handOver_8 g10 hi ?_
  refine WP.istore_n (L2 := [some (mr 1), some (mi x1), some (mi x2), some (mi (σ 10 x1))]) dX4_handOver_9 (by decide) rfl ?_
  refine WP.iload_n dX4_handOver_10 rfl ?_
  refine WP.bipush dX4_handOver_11 (by decide) bp_8 ?_
  refine WP.icmp_ge (tgt := 43) dX4_handOver_13 (by decide) (fun q => ?_) (fun q => ?_)
  · have h := h.1 q
    refine WP.bipush dX4_handOver_43 (by decide) bp_m2 ?_
    exact WP.iret rfl dX4_handOver_45 h
  · have h := h.2 q
    refine WP.iload_n dX4_handOver_16 rfl ?_
    refine WP.iload_n dX4_handOver_17 rfl ?_
    refine WP.icmp_eq (tgt := 43) dX4_handOver_18 (by decide) (fun q => ?_) (fun q => ?_)
    · have h := h.1 q
      refine WP.bipush dX4_handOver_43 (by decide) bp_m2 ?_
      exact WP.iret rfl dX4_handOver_45 h
    · have h := h.2 q
      refine WP.aload_n dX4_handOver_21 rfl ?_
      refine WP.getR fd_X4_12 dX4_handOver_22 g1 rfl ?_
      refine WP.iload_n dX4_handOver_25 rfl ?_
      refine WP.callV M_X0_anyOn [mi (σ 10 x1)] cv_X0_anyOn dX4_handOver_26 lk_X4_63 g3 rfl ft_X4_handOver__X0_anyOn rfl (Nat.le_of_ble_eq_true rfl) (HT.mono h ?_)
      rintro r26 σ26 - - h
      refine WP.if_eq (tgt := 43) dX4_handOver_29 (by decide) (fun q => ?_) (fun q => ?_)
      · have h := h.1 q
        refine WP.bipush dX4_handOver_43 (by decide) bp_m2 ?_
        exact WP.iret rfl dX4_handOver_45 h
      · have h := h.2 q
        refine WP.aload_n dX4_handOver_32 rfl ?_
        refine WP.getR fd_X4_12 dX4_handOver_33 g1 rfl ?_
        refine WP.iload_n dX4_handOver_36 rfl ?_
        refine WP.callV M_X0_anyOn [mi x2] cv_X0_anyOn dX4_handOver_37 lk_X4_63 g3 rfl ft_X4_handOver__X0_anyOn rfl (Nat.le_of_ble_eq_true rfl) (HT.mono h ?_)
        rintro r37 σ37 - - h
        refine WP.if_ne (tgt := 46) dX4_handOver_40 (by decide) (fun q => ?_) (fun q => ?_)
        · have h := h.1 q
          refine WP.aload_n dX4_handOver_46 rfl ?_
          refine WP.getR fd_X4_21 dX4_handOver_47 g1 rfl ?_
          refine WP.getR fd_X4_53 dX4_handOver_50 g8 rfl ?_
          refine WP.iload_n dX4_handOver_53 rfl ?_
          refine WP.iload_n dX4_handOver_54 rfl ?_
          obtain ⟨hi, h⟩ := h
          refine WP.iast dX4_handOver_55 g10 hi ?_
          refine WP.iload_n dX4_handOver_56 rfl ?_
          exact WP.iret rfl dX4_handOver_57 h
        · have h := h.2 q
          refine WP.bipush dX4_handOver_43 (by decide) bp_m2 ?_
          exact WP.iret rfl dX4_handOver_45 h
theorem dX4_putIn_0 : decode cX4_putIn 0 = .ok (.aload_n 0, 1) := by decide +kernel
theorem dX4_putIn_1 : decode cX4_putIn 1 = .ok (.getfield 12, 3) := by decide +kernel
theorem dX4_putIn_4 : decode cX4_putIn 4 = .ok (.iload_n 2, 1) := by decide +kernel
theorem dX4_putIn_5 : decode cX4_putIn 5 = .ok (.invokevirtual 49, 3) := by decide +kernel
theorem dX4_putIn_8 : decode cX4_putIn 8 = .ok (.istore_n 3, 1) := by decide +kernel
theorem dX4_putIn_9 : decode cX4_putIn 9 = .ok (.aload_n 0, 1) := by decide +kernel
theorem dX4_putIn_10 : decode cX4_putIn 10 = .ok (.getfield 21, 3) := by decide +kernel
theorem dX4_putIn_13 : decode cX4_putIn 13 = .ok (.getfield 53, 3) := by decide +kernel
theorem dX4_putIn_16 : decode cX4_putIn 16 = .ok (.iload_n 1, 1) := by decide +kernel
theorem dX4_putIn_17 : decode cX4_putIn 17 = .ok (.iaload, 1) := by decide +kernel
theorem dX4_putIn_18 : decode cX4_putIn 18 = .ok (.iload_n 3, 1) := by decide +kernel
theorem dX4_putIn_19 : decode cX4_putIn 19 = .ok (.if_icmp .eq 6, 3) := by decide +kernel
theorem dX4_putIn_22 : decode cX4_putIn 22 = .ok (.bipush (-2), 2) := by decide +kernel
theorem dX4_putIn_24 : decode cX4_putIn 24 = .ok (.ireturn, 1) := by decide +kernel
theorem dX4_putIn_25 : decode cX4_putIn 25 = .ok (.aload_n 0, 1) := by decide +kernel
theorem dX4_putIn_26 : decode cX4_putIn 26 = .ok (.getfield 21, 3) := by decide +kernel
theorem dX4_putIn_29 : decode cX4_putIn 29 = .ok (.getfield 53, 3) := by decide +kernel
theorem dX4_putIn_32 : decode cX4_putIn 32 = .ok (.iload_n 1, 1) := by decide +kernel
theorem dX4_putIn_33 : decode cX4_putIn 33 = .ok (.bipush 10, 2) := by decide +kernel
theorem dX4_putIn_35 : decode cX4_putIn 35 = .ok (.iload_n 2, 1) := by decide +kernel
theorem dX4_putIn_36 : decode cX4_putIn 36 = .ok (.iadd, 1) := by decide +kernel
theorem dX4_putIn_37 : decode cX4_putIn 37 = .ok (.iastore, 1) := by decide +kernel
theorem dX4_putIn_38 : decode cX4_putIn 38 = .ok (.aload_n 0, 1) := by decide +kernel
theorem dX4_putIn_39 : decode cX4_putIn 39 = .ok (.getfield 21, 3) := by decide +kernel
theorem dX4_putIn_42 : decode cX4_putIn 42 = .ok (.iload_n 1, 1) := by decide +kernel
theorem dX4_putIn_43 : decode cX4_putIn 43 = .ok (.iload_n 3, 1) := by decide +kernel
theorem dX4_putIn_44 : decode cX4_putIn 44 = .ok (.invokevirtual 56, 3) := by decide +kernel
theorem dX4_putIn_47 : decode cX4_putIn 47 = .ok (.iload_n 3, 1) := by decide +kernel
theorem dX4_putIn_48 : decode cX4_putIn 48 = .ok (.ireturn, 1) := by decide +kernel
set_option maxRecDepth 100000 in
set_option maxHeartbeats 4000000 in
theorem e_X4_putIn_1 (x1 x2 : Int) {σ : Mem} {Q : Int → Mem → Prop} (h : HT GC M_X0_wearer [mr 3, mi x2] σ (fun r5 σ5 => (0 ≤ x1 ∧ x1 < 8) ∧ ((σ5 10 x1 = r5 → (0 ≤ x1 ∧ x1 < 8) ∧ (HT GC M_X6_readBy [mr 8, mi x1, mi r5] (mupd σ5 10 x1 (jadd 10 x2)) (fun _ σ44 => Q r5 σ44))) ∧ (¬ σ5 10 x1 = r5 → Q (-2) σ5)))) : HT GC M_X4_putIn [mr 1, mi x1, mi x2] σ Q := by
  refine HT.of pn_X4 (Nat.le_of_ble_eq_true rfl) ?_
  show WP GC M_X4_putIn 0 [some (mr 1), some (mi x1), some (mi x2), none] [] σ Q
  refine WP.aload_n dX4_putIn_0 rfl ?_
  refine WP.getR fd_X4_12 dX4_putIn_1 g1 rfl ?_
  refine WP.iload_n dX4_putIn_4 rfl ?_
  refine WP.callV M_X0_wearer [mi x2] cv_X0_wearer dX4_putIn_5 lk_X4_49 g3 rfl ft_X4_putIn__X0_wearer rfl (Nat.le_of_ble_eq_true rfl) (HT.mono h ?_)
  rintro r5 σ5 - - h
  refine WP.istore_n (L2 := [some (mr 1), some (mi x1), some (mi x2), some (mi r5)]) dX4_putIn_8 (by decide) rfl ?_
  refine WP.aload_n dX4_putIn_9 rfl ?_
  refine WP.getR fd_X4_21 dX4_putIn_10 g1 rfl ?_
  refine WP.getR fd_X4_53 dX4_putIn_13 g8 rfl ?_
  refine WP.iload_n dX4_putIn_16 rfl ?_
  obtain ⟨hi, h⟩ := h
  refine WP.iald dX4_putIn_17 g10 hi ?_
  refine WP.iload_n dX4_putIn_18 rfl ?_
  refine WP.icmp_eq (tgt := 25) dX4_putIn_19 (by decide) (fun q => ?_) (fun q => ?_)
  · have h := h.1 q
    refine WP.aload_n dX4_putIn_25 rfl ?_
    refine WP.getR fd_X4_21 dX4_putIn_26 g1 rfl ?_
    refine WP.getR fd_X4_53 dX4_putIn_29 g8 rfl ?_
    refine WP.iload_n dX4_putIn_32 rfl ?_
    refine WP.bipush dX4_putIn_33 (by decide) bp_10 ?_
    refine WP.iload_n dX4_putIn_35 rfl ?_
    refine WP.iadd dX4_putIn_36 ?_
    obtain ⟨hi, h⟩ := h
    refine WP.iast dX4_putIn_37 g10 hi ?_
    refine WP.aload_n dX4_putIn_38 rfl ?_
    refine WP.getR fd_X4_21 dX4_putIn_39 g1 rfl ?_
    refine WP.iload_n dX4_putIn_42 rfl ?_
    refine WP.iload_n dX4_putIn_43 rfl ?_
    refine WP.callV M_X6_readBy [mi x1, mi r5] cv_X6_readBy dX4_putIn_44 lk_X4_56 g8 rfl ft_X4_putIn__X6_readBy rfl (Nat.le_of_ble_eq_true rfl) (HT.mono h ?_)
    rintro _ σ44 - - h
    refine WP.iload_n dX4_putIn_47 rfl ?_
    exact WP.iret rfl dX4_putIn_48 h
  · have h := h.2 q
    refine WP.bipush dX4_putIn_22 (by decide) bp_m2 ?_
    exact WP.iret rfl dX4_putIn_24 h
theorem dX4_searchLining_0 : decode cX4_searchLining 0 = .ok (.iconst 0, 1) := by decide +kernel
theorem dX4_searchLining_1 : decode cX4_searchLining 1 = .ok (.istore_n 2, 1) := by decide +kernel
theorem dX4_searchLining_2 : decode cX4_searchLining 2 = .ok (.iconst 0, 1) := by decide +kernel
theorem dX4_searchLining_3 : decode cX4_searchLining 3 = .ok (.istore_n 3, 1) := by decide +kernel
theorem dX4_searchLining_4 : decode cX4_searchLining 4 = .ok (.iload_n 3, 1) := by decide +kernel
theorem dX4_searchLining_5 : decode cX4_searchLining 5 = .ok (.aload_n 0, 1) := by decide +kernel
theorem dX4_searchLining_6 : decode cX4_searchLining 6 = .ok (.getfield 21, 3) := by decide +kernel
theorem dX4_searchLining_9 : decode cX4_searchLining 9 = .ok (.getfield 60, 3) := by decide +kernel
theorem dX4_searchLining_12 : decode cX4_searchLining 12 = .ok (.if_icmp .ge 57, 3) := by decide +kernel
theorem dX4_searchLining_15 : decode cX4_searchLining 15 = .ok (.aload_n 0, 1) := by decide +kernel
theorem dX4_searchLining_16 : decode cX4_searchLining 16 = .ok (.getfield 21, 3) := by decide +kernel
theorem dX4_searchLining_19 : decode cX4_searchLining 19 = .ok (.getfield 53, 3) := by decide +kernel
theorem dX4_searchLining_22 : decode cX4_searchLining 22 = .ok (.iload_n 3, 1) := by decide +kernel
theorem dX4_searchLining_23 : decode cX4_searchLining 23 = .ok (.iaload, 1) := by decide +kernel
theorem dX4_searchLining_24 : decode cX4_searchLining 24 = .ok (.bipush 20, 2) := by decide +kernel
theorem dX4_searchLining_26 : decode cX4_searchLining 26 = .ok (.iload_n 1, 1) := by decide +kernel
theorem dX4_searchLining_27 : decode cX4_searchLining 27 = .ok (.iadd, 1) := by decide +kernel
theorem dX4_searchLining_28 : decode cX4_searchLining 28 = .ok (.if_icmp .ne 35, 3) := by decide +kernel
theorem dX4_searchLining_31 : decode cX4_searchLining 31 = .ok (.aload_n 0, 1) := by decide +kernel
theorem dX4_searchLining_32 : decode cX4_searchLining 32 = .ok (.getfield 21, 3) := by decide +kernel
theorem dX4_searchLining_35 : decode cX4_searchLining 35 = .ok (.getfield 53, 3) := by decide +kernel
theorem dX4_searchLining_38 : decode cX4_searchLining 38 = .ok (.iload_n 3, 1) := by decide +kernel
theorem dX4_searchLining_39 : decode cX4_searchLining 39 = .ok (.bipush 10, 2) := by decide +kernel
theorem dX4_searchLining_41 : decode cX4_searchLining 41 = .ok (.iload_n 1, 1) := by decide +kernel
theorem dX4_searchLining_42 : decode cX4_searchLining 42 = .ok (.iadd, 1) := by decide +kernel
theorem dX4_searchLining_43 : decode cX4_searchLining 43 = .ok (.iastore, 1) := by decide +kernel
theorem dX4_searchLining_44 : decode cX4_searchLining 44 = .ok (.aload_n 0, 1) := by decide +kernel
theorem dX4_searchLining_45 : decode cX4_searchLining 45 = .ok (.getfield 21, 3) := by decide +kernel
theorem dX4_searchLining_48 : decode cX4_searchLining 48 = .ok (.iload_n 3, 1) := by decide +kernel
theorem dX4_searchLining_49 : decode cX4_searchLining 49 = .ok (.aload_n 0, 1) := by decide +kernel
theorem dX4_searchLining_50 : decode cX4_searchLining 50 = .ok (.getfield 12, 3) := by decide +kernel
theorem dX4_searchLining_53 : decode cX4_searchLining 53 = .ok (.iload_n 1, 1) := by decide +kernel
theorem dX4_searchLining_54 : decode cX4_searchLining 54 = .ok (.invokevirtual 49, 3) := by decide +kernel
theorem dX4_searchLining_57 : decode cX4_searchLining 57 = .ok (.invokevirtual 56, 3) := by decide +kernel
theorem dX4_searchLining_60 : decode cX4_searchLining 60 = .ok (.iinc 2 1, 3) := by decide +kernel
theorem dX4_searchLining_63 : decode cX4_searchLining 63 = .ok (.iinc 3 1, 3) := by decide +kernel
theorem dX4_searchLining_66 : decode cX4_searchLining 66 = .ok (.goto (-62), 3) := by decide +kernel
theorem dX4_searchLining_69 : decode cX4_searchLining 69 = .ok (.iload_n 2, 1) := by decide +kernel
theorem dX4_searchLining_70 : decode cX4_searchLining 70 = .ok (.ireturn, 1) := by decide +kernel
set_option maxRecDepth 100000 in
set_option maxHeartbeats 4000000 in
theorem e_X4_searchLining_1 (x1 : Int) {σ : Mem} {Q : Int → Mem → Prop} (h : WP GC M_X4_searchLining 4 [some (mr 1), some (mi x1), some (mi 0), some (mi 0)] [] σ Q) : HT GC M_X4_searchLining [mr 1, mi x1] σ Q := by
  refine HT.of pn_X4 (Nat.le_of_ble_eq_true rfl) ?_
  show WP GC M_X4_searchLining 0 [some (mr 1), some (mi x1), none, none] [] σ Q
  refine WP.iconst dX4_searchLining_0 (by decide) ?_
  refine WP.istore_n (L2 := [some (mr 1), some (mi x1), some (mi 0), none]) dX4_searchLining_1 (by decide) rfl ?_
  refine WP.iconst dX4_searchLining_2 (by decide) ?_
  refine WP.istore_n (L2 := [some (mr 1), some (mi x1), some (mi 0), some (mi 0)]) dX4_searchLining_3 (by decide) rfl ?_
  exact h
set_option maxRecDepth 100000 in
set_option maxHeartbeats 4000000 in
theorem b_X4_searchLining_1_4 (x1 x2 x3 : Int) {σ : Mem} {Q : Int → Mem → Prop} (h : (σ 8 0 ≤ x3 → Q x2 σ) ∧ (¬ σ 8 0 ≤ x3 → (0 ≤ x3 ∧ x3 < 8) ∧ ((¬ σ 10 x3 = jadd 20 x1 → WP GC M_X4_searchLining 63 [some (mr 1), some (mi x1), some (mi x2), some (mi x3)] [] σ Q) ∧ (σ 10 x3 = jadd 20 x1 → (0 ≤ x3 ∧ x3 < 8) ∧ (HT GC M_X0_wearer [mr 3, mi x1] (mupd σ 10 x3 (jadd 10 x1)) (fun r54 σ54 => HT GC M_X6_readBy [mr 8, mi x3, mi r54] σ54 (fun _ σ57 => WP GC M_X4_searchLining 63 [some (mr 1), some (mi x1), some (mi (jadd x2 1)), some (mi x3)] [] σ57 Q))))))) : WP GC M_X4_searchLining 4 [some (mr 1), some (mi x1), some (mi x2), some (mi x3)] [] σ Q := by
  refine WP.iload_n dX4_searchLining_4 rfl ?_
  refine WP.aload_n dX4_searchLining_5 rfl ?_
  refine WP.getR fd_X4_21 dX4_searchLining_6 g1 rfl ?_
  refine WP.getI (v := σ 8 0) fd_X4_60 dX4_searchLining_9 g8 rfl rfl ?_
  refine WP.icmp_ge (tgt := 69) dX4_searchLining_12 (by decide) (fun q => ?_) (fun q => ?_)
  · have h := h.1 q
    refine WP.iload_n dX4_searchLining_69 rfl ?_
    exact WP.iret rfl dX4_searchLining_70 h
  · have h := h.2 q
    refine WP.aload_n dX4_searchLining_15 rfl ?_
    refine WP.getR fd_X4_21 dX4_searchLining_16 g1 rfl ?_
    refine WP.getR fd_X4_53 dX4_searchLining_19 g8 rfl ?_
    refine WP.iload_n dX4_searchLining_22 rfl ?_
    obtain ⟨hi, h⟩ := h
    refine WP.iald dX4_searchLining_23 g10 hi ?_
    refine WP.bipush dX4_searchLining_24 (by decide) bp_20 ?_
    refine WP.iload_n dX4_searchLining_26 rfl ?_
    refine WP.iadd dX4_searchLining_27 ?_
    refine WP.icmp_ne (tgt := 63) dX4_searchLining_28 (by decide) (fun q => ?_) (fun q => ?_)
    · have h := h.1 q
      exact h
    · have h := h.2 q
      refine WP.aload_n dX4_searchLining_31 rfl ?_
      refine WP.getR fd_X4_21 dX4_searchLining_32 g1 rfl ?_
      refine WP.getR fd_X4_53 dX4_searchLining_35 g8 rfl ?_
      refine WP.iload_n dX4_searchLining_38 rfl ?_
      refine WP.bipush dX4_searchLining_39 (by decide) bp_10 ?_
      refine WP.iload_n dX4_searchLining_41 rfl ?_
      refine WP.iadd dX4_searchLining_42 ?_
      obtain ⟨hi, h⟩ := h
      refine WP.iast dX4_searchLining_43 g10 hi ?_
      refine WP.aload_n dX4_searchLining_44 rfl ?_
      refine WP.getR fd_X4_21 dX4_searchLining_45 g1 rfl ?_
      refine WP.iload_n dX4_searchLining_48 rfl ?_
      refine WP.aload_n dX4_searchLining_49 rfl ?_
      refine WP.getR fd_X4_12 dX4_searchLining_50 g1 rfl ?_
      refine WP.iload_n dX4_searchLining_53 rfl ?_
      refine WP.callV M_X0_wearer [mi x1] cv_X0_wearer dX4_searchLining_54 lk_X4_49 g3 rfl ft_X4_searchLining__X0_wearer rfl (Nat.le_of_ble_eq_true rfl) (HT.mono h ?_)
      rintro r54 σ54 - - h
      refine WP.callV M_X6_readBy [mi x3, mi r54] cv_X6_readBy dX4_searchLining_57 lk_X4_56 g8 rfl ft_X4_searchLining__X6_readBy rfl (Nat.le_of_ble_eq_true rfl) (HT.mono h ?_)
      rintro _ σ57 - - h
      refine WP.iinc (L2 := [some (mr 1), some (mi x1), some (mi (jadd x2 1)), some (mi x3)]) dX4_searchLining_60 (by decide) rfl (by decide) rfl ?_
      exact h
set_option maxRecDepth 100000 in
set_option maxHeartbeats 4000000 in
theorem b_X4_searchLining_1_63 (x1 x2 x3 : Int) {σ : Mem} {Q : Int → Mem → Prop} (h : WP GC M_X4_searchLining 4 [some (mr 1), some (mi x1), some (mi x2), some (mi (jadd x3 1))] [] σ Q) : WP GC M_X4_searchLining 63 [some (mr 1), some (mi x1), some (mi x2), some (mi x3)] [] σ Q := by
  refine WP.iinc (L2 := [some (mr 1), some (mi x1), some (mi x2), some (mi (jadd x3 1))]) dX4_searchLining_63 (by decide) rfl (by decide) rfl ?_
  refine WP.goto (tgt := 4) dX4_searchLining_66 (by decide) ?_
  exact h
theorem dX4_takeOut_0 : decode cX4_takeOut 0 = .ok (.aload_n 0, 1) := by decide +kernel
theorem dX4_takeOut_1 : decode cX4_takeOut 1 = .ok (.getfield 21, 3) := by decide +kernel
theorem dX4_takeOut_4 : decode cX4_takeOut 4 = .ok (.getfield 53, 3) := by decide +kernel
theorem dX4_takeOut_7 : decode cX4_takeOut 7 = .ok (.iload_n 1, 1) := by decide +kernel
theorem dX4_takeOut_8 : decode cX4_takeOut 8 = .ok (.iaload, 1) := by decide +kernel
theorem dX4_takeOut_9 : decode cX4_takeOut 9 = .ok (.bipush 10, 2) := by decide +kernel
theorem dX4_takeOut_11 : decode cX4_takeOut 11 = .ok (.iload_n 2, 1) := by decide +kernel
theorem dX4_takeOut_12 : decode cX4_takeOut 12 = .ok (.iadd, 1) := by decide +kernel
theorem dX4_takeOut_13 : decode cX4_takeOut 13 = .ok (.if_icmp .eq 6, 3) := by decide +kernel
theorem dX4_takeOut_16 : decode cX4_takeOut 16 = .ok (.bipush (-2), 2) := by decide +kernel
theorem dX4_takeOut_18 : decode cX4_takeOut 18 = .ok (.ireturn, 1) := by decide +kernel
theorem dX4_takeOut_19 : decode cX4_takeOut 19 = .ok (.aload_n 0, 1) := by decide +kernel
theorem dX4_takeOut_20 : decode cX4_takeOut 20 = .ok (.getfield 21, 3) := by decide +kernel
theorem dX4_takeOut_23 : decode cX4_takeOut 23 = .ok (.getfield 53, 3) := by decide +kernel
theorem dX4_takeOut_26 : decode cX4_takeOut 26 = .ok (.iload_n 1, 1) := by decide +kernel
theorem dX4_takeOut_27 : decode cX4_takeOut 27 = .ok (.aload_n 0, 1) := by decide +kernel
theorem dX4_takeOut_28 : decode cX4_takeOut 28 = .ok (.getfield 12, 3) := by decide +kernel
theorem dX4_takeOut_31 : decode cX4_takeOut 31 = .ok (.iload_n 2, 1) := by decide +kernel
theorem dX4_takeOut_32 : decode cX4_takeOut 32 = .ok (.invokevirtual 49, 3) := by decide +kernel
theorem dX4_takeOut_35 : decode cX4_takeOut 35 = .ok (.iastore, 1) := by decide +kernel
theorem dX4_takeOut_36 : decode cX4_takeOut 36 = .ok (.aload_n 0, 1) := by decide +kernel
theorem dX4_takeOut_37 : decode cX4_takeOut 37 = .ok (.getfield 21, 3) := by decide +kernel
theorem dX4_takeOut_40 : decode cX4_takeOut 40 = .ok (.getfield 53, 3) := by decide +kernel
theorem dX4_takeOut_43 : decode cX4_takeOut 43 = .ok (.iload_n 1, 1) := by decide +kernel
theorem dX4_takeOut_44 : decode cX4_takeOut 44 = .ok (.iaload, 1) := by decide +kernel
theorem dX4_takeOut_45 : decode cX4_takeOut 45 = .ok (.ireturn, 1) := by decide +kernel
set_option maxRecDepth 100000 in
set_option maxHeartbeats 4000000 in
theorem e_X4_takeOut_1 (x1 x2 : Int) {σ : Mem} {Q : Int → Mem → Prop} (h : (0 ≤ x1 ∧ x1 < 8) ∧ ((σ 10 x1 = jadd 10 x2 → HT GC M_X0_wearer [mr 3, mi x2] σ (fun r32 σ32 => (0 ≤ x1 ∧ x1 < 8) ∧ ((0 ≤ x1 ∧ x1 < 8) ∧ (Q r32 (mupd σ32 10 x1 r32))))) ∧ (¬ σ 10 x1 = jadd 10 x2 → Q (-2) σ))) : HT GC M_X4_takeOut [mr 1, mi x1, mi x2] σ Q := by
  refine HT.of pn_X4 (Nat.le_of_ble_eq_true rfl) ?_
  show WP GC M_X4_takeOut 0 [some (mr 1), some (mi x1), some (mi x2)] [] σ Q
  refine WP.aload_n dX4_takeOut_0 rfl ?_
  refine WP.getR fd_X4_21 dX4_takeOut_1 g1 rfl ?_
  refine WP.getR fd_X4_53 dX4_takeOut_4 g8 rfl ?_
  refine WP.iload_n dX4_takeOut_7 rfl ?_
  obtain ⟨hi, h⟩ := h
  refine WP.iald dX4_takeOut_8 g10 hi ?_
  refine WP.bipush dX4_takeOut_9 (by decide) bp_10 ?_
  refine WP.iload_n dX4_takeOut_11 rfl ?_
  refine WP.iadd dX4_takeOut_12 ?_
  refine WP.icmp_eq (tgt := 19) dX4_takeOut_13 (by decide) (fun q => ?_) (fun q => ?_)
  · have h := h.1 q
    refine WP.aload_n dX4_takeOut_19 rfl ?_
    refine WP.getR fd_X4_21 dX4_takeOut_20 g1 rfl ?_
    refine WP.getR fd_X4_53 dX4_takeOut_23 g8 rfl ?_
    refine WP.iload_n dX4_takeOut_26 rfl ?_
    refine WP.aload_n dX4_takeOut_27 rfl ?_
    refine WP.getR fd_X4_12 dX4_takeOut_28 g1 rfl ?_
    refine WP.iload_n dX4_takeOut_31 rfl ?_
    refine WP.callV M_X0_wearer [mi x2] cv_X0_wearer dX4_takeOut_32 lk_X4_49 g3 rfl ft_X4_takeOut__X0_wearer rfl (Nat.le_of_ble_eq_true rfl) (HT.mono h ?_)
    rintro r32 σ32 - - h
    obtain ⟨hi, h⟩ := h
    refine WP.iast dX4_takeOut_35 g10 hi ?_
    refine WP.aload_n dX4_takeOut_36 rfl ?_
    refine WP.getR fd_X4_21 dX4_takeOut_37 g1 rfl ?_
    refine WP.getR fd_X4_53 dX4_takeOut_40 g8 rfl ?_
    refine WP.iload_n dX4_takeOut_43 rfl ?_
    obtain ⟨hi, h⟩ := h
    refine WP.iald dX4_takeOut_44 g10 hi ?_
    refine WP.topI (y := r32) mupd_at ?_
    exact WP.iret rfl dX4_takeOut_45 h
  · have h := h.2 q
    refine WP.bipush dX4_takeOut_16 (by decide) bp_m2 ?_
    exact WP.iret rfl dX4_takeOut_18 h
theorem dX4_drawsBelow_0 : decode cX4_drawsBelow 0 = .ok (.aload_n 0, 1) := by decide +kernel
theorem dX4_drawsBelow_1 : decode cX4_drawsBelow 1 = .ok (.aload_n 0, 1) := by decide +kernel
theorem dX4_drawsBelow_2 : decode cX4_drawsBelow 2 = .ok (.getfield 29, 3) := by decide +kernel
theorem dX4_drawsBelow_5 : decode cX4_drawsBelow 5 = .ok (.ldc 90, 2) := by decide +kernel
theorem dX4_drawsBelow_7 : decode cX4_drawsBelow 7 = .ok (.imul, 1) := by decide +kernel
theorem dX4_drawsBelow_8 : decode cX4_drawsBelow 8 = .ok (.sipush 12345, 3) := by decide +kernel
theorem dX4_drawsBelow_11 : decode cX4_drawsBelow 11 = .ok (.iadd, 1) := by decide +kernel
theorem dX4_drawsBelow_12 : decode cX4_drawsBelow 12 = .ok (.ldc 91, 2) := by decide +kernel
theorem dX4_drawsBelow_14 : decode cX4_drawsBelow 14 = .ok (.iand, 1) := by decide +kernel
theorem dX4_drawsBelow_15 : decode cX4_drawsBelow 15 = .ok (.putfield 29, 3) := by decide +kernel
theorem dX4_drawsBelow_18 : decode cX4_drawsBelow 18 = .ok (.aload_n 0, 1) := by decide +kernel
theorem dX4_drawsBelow_19 : decode cX4_drawsBelow 19 = .ok (.getfield 29, 3) := by decide +kernel
theorem dX4_drawsBelow_22 : decode cX4_drawsBelow 22 = .ok (.ldc 92, 2) := by decide +kernel
theorem dX4_drawsBelow_24 : decode cX4_drawsBelow 24 = .ok (.idiv, 1) := by decide +kernel
theorem dX4_drawsBelow_25 : decode cX4_drawsBelow 25 = .ok (.iconst 4, 1) := by decide +kernel
theorem dX4_drawsBelow_26 : decode cX4_drawsBelow 26 = .ok (.irem, 1) := by decide +kernel
theorem dX4_drawsBelow_27 : decode cX4_drawsBelow 27 = .ok (.iload_n 1, 1) := by decide +kernel
theorem dX4_drawsBelow_28 : decode cX4_drawsBelow 28 = .ok (.if_icmp .ge 7, 3) := by decide +kernel
theorem dX4_drawsBelow_31 : decode cX4_drawsBelow 31 = .ok (.iconst 1, 1) := by decide +kernel
theorem dX4_drawsBelow_32 : decode cX4_drawsBelow 32 = .ok (.goto 4, 3) := by decide +kernel
theorem dX4_drawsBelow_35 : decode cX4_drawsBelow 35 = .ok (.iconst 0, 1) := by decide +kernel
theorem dX4_drawsBelow_36 : decode cX4_drawsBelow 36 = .ok (.ireturn, 1) := by decide +kernel
set_option maxRecDepth 100000 in
set_option maxHeartbeats 4000000 in
theorem e_X4_drawsBelow_1 (x1 : Int) {σ : Mem} {Q : Int → Mem → Prop} (h : (x1 ≤ jrem (jdiv (jand (jadd (jmul (σ 1 4) 1103515245) 12345) 2147483647) 65536) 4 → Q 0 (mupd σ 1 4 (jand (jadd (jmul (σ 1 4) 1103515245) 12345) 2147483647))) ∧ (¬ x1 ≤ jrem (jdiv (jand (jadd (jmul (σ 1 4) 1103515245) 12345) 2147483647) 65536) 4 → Q 1 (mupd σ 1 4 (jand (jadd (jmul (σ 1 4) 1103515245) 12345) 2147483647)))) : HT GC M_X4_drawsBelow [mr 1, mi x1] σ Q := by
  refine HT.of pn_X4 (Nat.le_of_ble_eq_true rfl) ?_
  show WP GC M_X4_drawsBelow 0 [some (mr 1), some (mi x1)] [] σ Q
  refine WP.aload_n dX4_drawsBelow_0 rfl ?_
  refine WP.aload_n dX4_drawsBelow_1 rfl ?_
  refine WP.getI (v := σ 1 4) fd_X4_29 dX4_drawsBelow_2 g1 rfl rfl ?_
  refine WP.ldc (x := 1103515245) dX4_drawsBelow_5 ct_X4_90 (by decide) (by decide) ?_
  refine WP.imul dX4_drawsBelow_7 ?_
  refine WP.sipush dX4_drawsBelow_8 (by decide) sp_12345 ?_
  refine WP.iadd dX4_drawsBelow_11 ?_
  refine WP.ldc (x := 2147483647) dX4_drawsBelow_12 ct_X4_91 (by decide) (by decide) ?_
  refine WP.iand dX4_drawsBelow_14 ?_
  refine WP.put fp_X4_29 dX4_drawsBelow_15 g1 rfl rfl rfl ?_
  refine WP.aload_n dX4_drawsBelow_18 rfl ?_
  refine WP.getI (v := jand (jadd (jmul (σ 1 4) 1103515245) 12345) 2147483647) fd_X4_29 dX4_drawsBelow_19 g1 rfl mupd_at ?_
  refine WP.ldc (x := 65536) dX4_drawsBelow_22 ct_X4_92 (by decide) (by decide) ?_
  refine WP.idiv dX4_drawsBelow_24 (by decide) ?_
  refine WP.iconst dX4_drawsBelow_25 (by decide) ?_
  refine WP.irem dX4_drawsBelow_26 (by decide) ?_
  refine WP.iload_n dX4_drawsBelow_27 rfl ?_
  refine WP.icmp_ge (tgt := 35) dX4_drawsBelow_28 (by decide) (fun q => ?_) (fun q => ?_)
  · have h := h.1 q
    refine WP.iconst dX4_drawsBelow_35 (by decide) ?_
    exact WP.zret rfl dX4_drawsBelow_36 (by decide) h
  · have h := h.2 q
    refine WP.iconst dX4_drawsBelow_31 (by decide) ?_
    refine WP.goto (tgt := 36) dX4_drawsBelow_32 (by decide) ?_
    exact WP.zret rfl dX4_drawsBelow_36 (by decide) h
theorem dX4_change_0 : decode cX4_change 0 = .ok (.aload_n 0, 1) := by decide +kernel
theorem dX4_change_1 : decode cX4_change 1 = .ok (.getfield 21, 3) := by decide +kernel
theorem dX4_change_4 : decode cX4_change 4 = .ok (.getfield 77, 3) := by decide +kernel
theorem dX4_change_7 : decode cX4_change 7 = .ok (.iload_n 1, 1) := by decide +kernel
theorem dX4_change_8 : decode cX4_change 8 = .ok (.iaload, 1) := by decide +kernel
theorem dX4_change_9 : decode cX4_change 9 = .ok (.iconst 1, 1) := by decide +kernel
theorem dX4_change_10 : decode cX4_change 10 = .ok (.if_icmp .ne 33, 3) := by decide +kernel
theorem dX4_change_13 : decode cX4_change 13 = .ok (.aload_n 0, 1) := by decide +kernel
theorem dX4_change_14 : decode cX4_change 14 = .ok (.getfield 21, 3) := by decide +kernel
theorem dX4_change_17 : decode cX4_change 17 = .ok (.getfield 53, 3) := by decide +kernel
theorem dX4_change_20 : decode cX4_change 20 = .ok (.iload_n 1, 1) := by decide +kernel
theorem dX4_change_21 : decode cX4_change 21 = .ok (.bipush 30, 2) := by decide +kernel
theorem dX4_change_23 : decode cX4_change 23 = .ok (.iastore, 1) := by decide +kernel
theorem dX4_change_24 : decode cX4_change 24 = .ok (.aload_n 0, 1) := by decide +kernel
theorem dX4_change_25 : decode cX4_change 25 = .ok (.getfield 21, 3) := by decide +kernel
theorem dX4_change_28 : decode cX4_change 28 = .ok (.getfield 80, 3) := by decide +kernel
theorem dX4_change_31 : decode cX4_change 31 = .ok (.iload_n 1, 1) := by decide +kernel
theorem dX4_change_32 : decode cX4_change 32 = .ok (.aload_n 0, 1) := by decide +kernel
theorem dX4_change_33 : decode cX4_change 33 = .ok (.getfield 12, 3) := by decide +kernel
theorem dX4_change_36 : decode cX4_change 36 = .ok (.iload_n 2, 1) := by decide +kernel
theorem dX4_change_37 : decode cX4_change 37 = .ok (.invokevirtual 49, 3) := by decide +kernel
theorem dX4_change_40 : decode cX4_change 40 = .ok (.iastore, 1) := by decide +kernel
theorem dX4_change_41 : decode cX4_change 41 = .ok (.iconst 0, 1) := by decide +kernel
theorem dX4_change_42 : decode cX4_change 42 = .ok (.ireturn, 1) := by decide +kernel
theorem dX4_change_43 : decode cX4_change 43 = .ok (.aload_n 0, 1) := by decide +kernel
theorem dX4_change_44 : decode cX4_change 44 = .ok (.getfield 21, 3) := by decide +kernel
theorem dX4_change_47 : decode cX4_change 47 = .ok (.getfield 77, 3) := by decide +kernel
theorem dX4_change_50 : decode cX4_change 50 = .ok (.iload_n 1, 1) := by decide +kernel
theorem dX4_change_51 : decode cX4_change 51 = .ok (.iaload, 1) := by decide +kernel
theorem dX4_change_52 : decode cX4_change 52 = .ok (.iconst 3, 1) := by decide +kernel
theorem dX4_change_53 : decode cX4_change 53 = .ok (.if_icmp .ne 37, 3) := by decide +kernel
theorem dX4_change_56 : decode cX4_change 56 = .ok (.aload_n 0, 1) := by decide +kernel
theorem dX4_change_57 : decode cX4_change 57 = .ok (.getfield 21, 3) := by decide +kernel
theorem dX4_change_60 : decode cX4_change 60 = .ok (.getfield 53, 3) := by decide +kernel
theorem dX4_change_63 : decode cX4_change 63 = .ok (.iload_n 1, 1) := by decide +kernel
theorem dX4_change_64 : decode cX4_change 64 = .ok (.bipush 10, 2) := by decide +kernel
theorem dX4_change_66 : decode cX4_change 66 = .ok (.iload_n 2, 1) := by decide +kernel
theorem dX4_change_67 : decode cX4_change 67 = .ok (.iconst 1, 1) := by decide +kernel
theorem dX4_change_68 : decode cX4_change 68 = .ok (.iadd, 1) := by decide +kernel
theorem dX4_change_69 : decode cX4_change 69 = .ok (.aload_n 0, 1) := by decide +kernel
theorem dX4_change_70 : decode cX4_change 70 = .ok (.getfield 12, 3) := by decide +kernel
theorem dX4_change_73 : decode cX4_change 73 = .ok (.getfield 83, 3) := by decide +kernel
theorem dX4_change_76 : decode cX4_change 76 = .ok (.if_icmp .ge 9, 3) := by decide +kernel
theorem dX4_change_79 : decode cX4_change 79 = .ok (.iload_n 2, 1) := by decide +kernel
theorem dX4_change_80 : decode cX4_change 80 = .ok (.iconst 1, 1) := by decide +kernel
theorem dX4_change_81 : decode cX4_change 81 = .ok (.iadd, 1) := by decide +kernel
theorem dX4_change_82 : decode cX4_change 82 = .ok (.goto 4, 3) := by decide +kernel
theorem dX4_change_85 : decode cX4_change 85 = .ok (.iconst 0, 1) := by decide +kernel
theorem dX4_change_86 : decode cX4_change 86 = .ok (.iadd, 1) := by decide +kernel
theorem dX4_change_87 : decode cX4_change 87 = .ok (.iastore, 1) := by decide +kernel
theorem dX4_change_88 : decode cX4_change 88 = .ok (.iconst 0, 1) := by decide +kernel
theorem dX4_change_89 : decode cX4_change 89 = .ok (.ireturn, 1) := by decide +kernel
theorem dX4_change_90 : decode cX4_change 90 = .ok (.aload_n 0, 1) := by decide +kernel
theorem dX4_change_91 : decode cX4_change 91 = .ok (.getfield 12, 3) := by decide +kernel
theorem dX4_change_94 : decode cX4_change 94 = .ok (.getfield 84, 3) := by decide +kernel
theorem dX4_change_97 : decode cX4_change 97 = .ok (.iload_n 2, 1) := by decide +kernel
theorem dX4_change_98 : decode cX4_change 98 = .ok (.iaload, 1) := by decide +kernel
theorem dX4_change_99 : decode cX4_change 99 = .ok (.ifCond .eq 19, 3) := by decide +kernel
theorem dX4_change_102 : decode cX4_change 102 = .ok (.aload_n 0, 1) := by decide +kernel
theorem dX4_change_103 : decode cX4_change 103 = .ok (.aload_n 0, 1) := by decide +kernel
theorem dX4_change_104 : decode cX4_change 104 = .ok (.getfield 12, 3) := by decide +kernel
theorem dX4_change_107 : decode cX4_change 107 = .ok (.getfield 84, 3) := by decide +kernel
theorem dX4_change_110 : decode cX4_change 110 = .ok (.iload_n 2, 1) := by decide +kernel
theorem dX4_change_111 : decode cX4_change 111 = .ok (.iaload, 1) := by decide +kernel
theorem dX4_change_112 : decode cX4_change 112 = .ok (.invokevirtual 87, 3) := by decide +kernel
theorem dX4_change_115 : decode cX4_change 115 = .ok (.ifCond .ne 5, 3) := by decide +kernel
theorem dX4_change_118 : decode cX4_change 118 = .ok (.iconst 0, 1) := by decide +kernel
theorem dX4_change_119 : decode cX4_change 119 = .ok (.ireturn, 1) := by decide +kernel
theorem dX4_change_120 : decode cX4_change 120 = .ok (.aload_n 0, 1) := by decide +kernel
theorem dX4_change_121 : decode cX4_change 121 = .ok (.getfield 21, 3) := by decide +kernel
theorem dX4_change_124 : decode cX4_change 124 = .ok (.getfield 53, 3) := by decide +kernel
theorem dX4_change_127 : decode cX4_change 127 = .ok (.iload_n 1, 1) := by decide +kernel
theorem dX4_change_128 : decode cX4_change 128 = .ok (.bipush 20, 2) := by decide +kernel
theorem dX4_change_130 : decode cX4_change 130 = .ok (.iload_n 2, 1) := by decide +kernel
theorem dX4_change_131 : decode cX4_change 131 = .ok (.iadd, 1) := by decide +kernel
theorem dX4_change_132 : decode cX4_change 132 = .ok (.iastore, 1) := by decide +kernel
theorem dX4_change_133 : decode cX4_change 133 = .ok (.iconst 1, 1) := by decide +kernel
theorem dX4_change_134 : decode cX4_change 134 = .ok (.ireturn, 1) := by decide +kernel
set_option maxRecDepth 100000 in
set_option maxHeartbeats 4000000 in
theorem e_X4_change_1 (x1 x2 : Int) {σ : Mem} {Q : Int → Mem → Prop} (h : (0 ≤ x1 ∧ x1 < 8) ∧ ((¬ σ 9 x1 = 1 → (0 ≤ x1 ∧ x1 < 8) ∧ ((¬ σ 9 x1 = 3 → (0 ≤ x2 ∧ x2 < 4) ∧ ((σ 7 x2 = 0 → Q 0 σ) ∧ (¬ σ 7 x2 = 0 → (0 ≤ x2 ∧ x2 < 4) ∧ (HT GC M_X4_drawsBelow [mr 1, mi (σ 7 x2)] σ (fun r112 σ112 => (¬ r112 = 0 → (0 ≤ x1 ∧ x1 < 8) ∧ (Q 1 (mupd σ112 10 x1 (jadd 20 x2)))) ∧ (r112 = 0 → Q 0 σ112)))))) ∧ (σ 9 x1 = 3 → (σ 3 0 ≤ jadd x2 1 → WP GC M_X4_change 86 [none, none, none] [mi 0, mi 10, mi x1, mr 10] σ Q) ∧ (¬ σ 3 0 ≤ jadd x2 1 → WP GC M_X4_change 86 [none, none, none] [mi (jadd x2 1), mi 10, mi x1, mr 10] σ Q)))) ∧ (σ 9 x1 = 1 → (0 ≤ x1 ∧ x1 < 8) ∧ (HT GC M_X0_wearer [mr 3, mi x2] (mupd σ 10 x1 30) (fun r37 σ37 => (0 ≤ x1 ∧ x1 < 8) ∧ (Q 0 (mupd σ37 12 x1 r37))))))) : HT GC M_X4_change [mr 1, mi x1, mi x2] σ Q := by
  refine HT.of pn_X4 (Nat.le_of_ble_eq_true rfl) ?_
  show WP GC M_X4_change 0 [some (mr 1), some (mi x1), some (mi x2)] [] σ Q
  refine WP.aload_n dX4_change_0 rfl ?_
  refine WP.getR fd_X4_21 dX4_change_1 g1 rfl ?_
  refine WP.getR fd_X4_77 dX4_change_4 g8 rfl ?_
  refine WP.iload_n dX4_change_7 rfl ?_
  obtain ⟨hi, h⟩ := h
  refine WP.iald dX4_change_8 g9 hi ?_
  refine WP.iconst dX4_change_9 (by decide) ?_
  refine WP.icmp_ne (tgt := 43) dX4_change_10 (by decide) (fun q => ?_) (fun q => ?_)
  · have h := h.1 q
    refine WP.aload_n dX4_change_43 rfl ?_
    refine WP.getR fd_X4_21 dX4_change_44 g1 rfl ?_
    refine WP.getR fd_X4_77 dX4_change_47 g8 rfl ?_
    refine WP.iload_n dX4_change_50 rfl ?_
    obtain ⟨hi, h⟩ := h
    refine WP.iald dX4_change_51 g9 hi ?_
    refine WP.iconst dX4_change_52 (by decide) ?_
    refine WP.icmp_ne (tgt := 90) dX4_change_53 (by decide) (fun q => ?_) (fun q => ?_)
    · have h := h.1 q
      refine WP.aload_n dX4_change_90 rfl ?_
      refine WP.getR fd_X4_12 dX4_change_91 g1 rfl ?_
      refine WP.getR fd_X4_84 dX4_change_94 g3 rfl ?_
      refine WP.iload_n dX4_change_97 rfl ?_
      obtain ⟨hi, h⟩ := h
      refine WP.iald dX4_change_98 g7 hi ?_
      refine WP.if_eq (tgt := 118) dX4_change_99 (by decide) (fun q => ?_) (fun q => ?_)
      · have h := h.1 q
        refine WP.iconst dX4_change_118 (by decide) ?_
        exact WP.iret rfl dX4_change_119 h
      · have h := h.2 q
        refine WP.aload_n dX4_change_102 rfl ?_
        refine WP.aload_n dX4_change_103 rfl ?_
        refine WP.getR fd_X4_12 dX4_change_104 g1 rfl ?_
        refine WP.getR fd_X4_84 dX4_change_107 g3 rfl ?_
        refine WP.iload_n dX4_change_110 rfl ?_
        obtain ⟨hi, h⟩ := h
        refine WP.iald dX4_change_111 g7 hi ?_
        refine WP.callV M_X4_drawsBelow [mi (σ 7 x2)] cv_X4_drawsBelow dX4_change_112 lk_X4_87 g1 rfl ft_X4_change__X4_drawsBelow rfl (Nat.le_of_ble_eq_true rfl) (HT.mono h ?_)
        rintro r112 σ112 - - h
        refine WP.if_ne (tgt := 120) dX4_change_115 (by decide) (fun q => ?_) (fun q => ?_)
        · have h := h.1 q
          refine WP.aload_n dX4_change_120 rfl ?_
          refine WP.getR fd_X4_21 dX4_change_121 g1 rfl ?_
          refine WP.getR fd_X4_53 dX4_change_124 g8 rfl ?_
          refine WP.iload_n dX4_change_127 rfl ?_
          refine WP.bipush dX4_change_128 (by decide) bp_20 ?_
          refine WP.iload_n dX4_change_130 rfl ?_
          refine WP.iadd dX4_change_131 ?_
          obtain ⟨hi, h⟩ := h
          refine WP.iast dX4_change_132 g10 hi ?_
          refine WP.iconst dX4_change_133 (by decide) ?_
          exact WP.iret rfl dX4_change_134 h
        · have h := h.2 q
          refine WP.iconst dX4_change_118 (by decide) ?_
          exact WP.iret rfl dX4_change_119 h
    · have h := h.2 q
      refine WP.aload_n dX4_change_56 rfl ?_
      refine WP.getR fd_X4_21 dX4_change_57 g1 rfl ?_
      refine WP.getR fd_X4_53 dX4_change_60 g8 rfl ?_
      refine WP.iload_n dX4_change_63 rfl ?_
      refine WP.bipush dX4_change_64 (by decide) bp_10 ?_
      refine WP.iload_n dX4_change_66 rfl ?_
      refine WP.iconst dX4_change_67 (by decide) ?_
      refine WP.iadd dX4_change_68 ?_
      refine WP.aload_n dX4_change_69 rfl ?_
      refine WP.getR fd_X4_12 dX4_change_70 g1 rfl ?_
      refine WP.getI (v := σ 3 0) fd_X4_83 dX4_change_73 g3 rfl rfl ?_
      refine WP.icmp_ge (tgt := 85) dX4_change_76 (by decide) (fun q => ?_) (fun q => ?_)
      · have h := h.1 q
        refine WP.iconst dX4_change_85 (by decide) ?_
        refine WP.drop 0 (L2 := [none, some (mi x1), some (mi x2)]) rfl ?_
        refine WP.drop 1 (L2 := [none, none, some (mi x2)]) rfl ?_
        refine WP.drop 2 (L2 := [none, none, none]) rfl ?_
        exact h
      · have h := h.2 q
        refine WP.iload_n dX4_change_79 rfl ?_
        refine WP.iconst dX4_change_80 (by decide) ?_
        refine WP.iadd dX4_change_81 ?_
        refine WP.goto (tgt := 86) dX4_change_82 (by decide) ?_
        refine WP.drop 0 (L2 := [none, some (mi x1), some (mi x2)]) rfl ?_
        refine WP.drop 1 (L2 := [none, none, some (mi x2)]) rfl ?_
        refine WP.drop 2 (L2 := [none, none, none]) rfl ?_
        exact h
  · have h := h.2 q
    refine WP.aload_n dX4_change_13 rfl ?_
    refine WP.getR fd_X4_21 dX4_change_14 g1 rfl ?_
    refine WP.getR fd_X4_53 dX4_change_17 g8 rfl ?_
    refine WP.iload_n dX4_change_20 rfl ?_
    refine WP.bipush dX4_change_21 (by decide) bp_30 ?_
    obtain ⟨hi, h⟩ := h
    refine WP.iast dX4_change_23 g10 hi ?_
    refine WP.aload_n dX4_change_24 rfl ?_
    refine WP.getR fd_X4_21 dX4_change_25 g1 rfl ?_
    refine WP.getR fd_X4_80 dX4_change_28 g8 rfl ?_
    refine WP.iload_n dX4_change_31 rfl ?_
    refine WP.aload_n dX4_change_32 rfl ?_
    refine WP.getR fd_X4_12 dX4_change_33 g1 rfl ?_
    refine WP.iload_n dX4_change_36 rfl ?_
    refine WP.callV M_X0_wearer [mi x2] cv_X0_wearer dX4_change_37 lk_X4_49 g3 rfl ft_X4_change__X0_wearer rfl (Nat.le_of_ble_eq_true rfl) (HT.mono h ?_)
    rintro r37 σ37 - - h
    obtain ⟨hi, h⟩ := h
    refine WP.iast dX4_change_40 g12 hi ?_
    refine WP.iconst dX4_change_41 (by decide) ?_
    exact WP.iret rfl dX4_change_42 h
set_option maxRecDepth 100000 in
set_option maxHeartbeats 4000000 in
theorem b_X4_change_1_86 (s0 s1 s2 : Int) {σ : Mem} {Q : Int → Mem → Prop} (h : (0 ≤ s2 ∧ s2 < 8) ∧ (Q 0 (mupd σ 10 s2 (jadd s1 s0)))) : WP GC M_X4_change 86 [none, none, none] [mi s0, mi s1, mi s2, mr 10] σ Q := by
  refine WP.iadd dX4_change_86 ?_
  obtain ⟨hi, h⟩ := h
  refine WP.iast dX4_change_87 g10 hi ?_
  refine WP.iconst dX4_change_88 (by decide) ?_
  exact WP.iret rfl dX4_change_89 h
theorem dX4_ring_0 : decode cX4_ring 0 = .ok (.aload_n 0, 1) := by decide +kernel
theorem dX4_ring_1 : decode cX4_ring 1 = .ok (.getfield 46, 3) := by decide +kernel
theorem dX4_ring_4 : decode cX4_ring 4 = .ok (.sipush 9999, 3) := by decide +kernel
theorem dX4_ring_7 : decode cX4_ring 7 = .ok (.if_icmp .lt 6, 3) := by decide +kernel
theorem dX4_ring_10 : decode cX4_ring 10 = .ok (.bipush (-3), 2) := by decide +kernel
theorem dX4_ring_12 : decode cX4_ring 12 = .ok (.ireturn, 1) := by decide +kernel
theorem dX4_ring_13 : decode cX4_ring 13 = .ok (.iconst 0, 1) := by decide +kernel
theorem dX4_ring_14 : decode cX4_ring 14 = .ok (.istore_n 1, 1) := by decide +kernel
theorem dX4_ring_15 : decode cX4_ring 15 = .ok (.iconst 0, 1) := by decide +kernel
theorem dX4_ring_16 : decode cX4_ring 16 = .ok (.istore_n 2, 1) := by decide +kernel
theorem dX4_ring_17 : decode cX4_ring 17 = .ok (.iload_n 2, 1) := by decide +kernel
theorem dX4_ring_18 : decode cX4_ring 18 = .ok (.aload_n 0, 1) := by decide +kernel
theorem dX4_ring_19 : decode cX4_ring 19 = .ok (.getfield 21, 3) := by decide +kernel
theorem dX4_ring_22 : decode cX4_ring 22 = .ok (.getfield 60, 3) := by decide +kernel
theorem dX4_ring_25 : decode cX4_ring 25 = .ok (.if_icmp .ge 40, 3) := by decide +kernel
theorem dX4_ring_28 : decode cX4_ring 28 = .ok (.aload_n 0, 1) := by decide +kernel
theorem dX4_ring_29 : decode cX4_ring 29 = .ok (.getfield 21, 3) := by decide +kernel
theorem dX4_ring_32 : decode cX4_ring 32 = .ok (.iload_n 2, 1) := by decide +kernel
theorem dX4_ring_33 : decode cX4_ring 33 = .ok (.invokevirtual 67, 3) := by decide +kernel
theorem dX4_ring_36 : decode cX4_ring 36 = .ok (.ifCond .eq 23, 3) := by decide +kernel
theorem dX4_ring_39 : decode cX4_ring 39 = .ok (.iload_n 1, 1) := by decide +kernel
theorem dX4_ring_40 : decode cX4_ring 40 = .ok (.aload_n 0, 1) := by decide +kernel
theorem dX4_ring_41 : decode cX4_ring 41 = .ok (.iload_n 2, 1) := by decide +kernel
theorem dX4_ring_42 : decode cX4_ring 42 = .ok (.aload_n 0, 1) := by decide +kernel
theorem dX4_ring_43 : decode cX4_ring 43 = .ok (.getfield 21, 3) := by decide +kernel
theorem dX4_ring_46 : decode cX4_ring 46 = .ok (.getfield 53, 3) := by decide +kernel
theorem dX4_ring_49 : decode cX4_ring 49 = .ok (.iload_n 2, 1) := by decide +kernel
theorem dX4_ring_50 : decode cX4_ring 50 = .ok (.iaload, 1) := by decide +kernel
theorem dX4_ring_51 : decode cX4_ring 51 = .ok (.bipush 10, 2) := by decide +kernel
theorem dX4_ring_53 : decode cX4_ring 53 = .ok (.isub, 1) := by decide +kernel
theorem dX4_ring_54 : decode cX4_ring 54 = .ok (.invokevirtual 70, 3) := by decide +kernel
theorem dX4_ring_57 : decode cX4_ring 57 = .ok (.iadd, 1) := by decide +kernel
theorem dX4_ring_58 : decode cX4_ring 58 = .ok (.istore_n 1, 1) := by decide +kernel
theorem dX4_ring_59 : decode cX4_ring 59 = .ok (.iinc 2 1, 3) := by decide +kernel
theorem dX4_ring_62 : decode cX4_ring 62 = .ok (.goto (-45), 3) := by decide +kernel
theorem dX4_ring_65 : decode cX4_ring 65 = .ok (.aload_n 0, 1) := by decide +kernel
theorem dX4_ring_66 : decode cX4_ring 66 = .ok (.getfield 12, 3) := by decide +kernel
theorem dX4_ring_69 : decode cX4_ring 69 = .ok (.invokevirtual 74, 3) := by decide +kernel
theorem dX4_ring_72 : decode cX4_ring 72 = .ok (.iconst 0, 1) := by decide +kernel
theorem dX4_ring_73 : decode cX4_ring 73 = .ok (.istore_n 2, 1) := by decide +kernel
theorem dX4_ring_74 : decode cX4_ring 74 = .ok (.iload_n 2, 1) := by decide +kernel
theorem dX4_ring_75 : decode cX4_ring 75 = .ok (.aload_n 0, 1) := by decide +kernel
theorem dX4_ring_76 : decode cX4_ring 76 = .ok (.getfield 21, 3) := by decide +kernel
theorem dX4_ring_79 : decode cX4_ring 79 = .ok (.getfield 60, 3) := by decide +kernel
theorem dX4_ring_82 : decode cX4_ring 82 = .ok (.if_icmp .ge 47, 3) := by decide +kernel
theorem dX4_ring_85 : decode cX4_ring 85 = .ok (.aload_n 0, 1) := by decide +kernel
theorem dX4_ring_86 : decode cX4_ring 86 = .ok (.getfield 21, 3) := by decide +kernel
theorem dX4_ring_89 : decode cX4_ring 89 = .ok (.iload_n 2, 1) := by decide +kernel
theorem dX4_ring_90 : decode cX4_ring 90 = .ok (.invokevirtual 67, 3) := by decide +kernel
theorem dX4_ring_93 : decode cX4_ring 93 = .ok (.ifCond .eq 30, 3) := by decide +kernel
theorem dX4_ring_96 : decode cX4_ring 96 = .ok (.aload_n 0, 1) := by decide +kernel
theorem dX4_ring_97 : decode cX4_ring 97 = .ok (.getfield 21, 3) := by decide +kernel
theorem dX4_ring_100 : decode cX4_ring 100 = .ok (.iload_n 2, 1) := by decide +kernel
theorem dX4_ring_101 : decode cX4_ring 101 = .ok (.aload_n 0, 1) := by decide +kernel
theorem dX4_ring_102 : decode cX4_ring 102 = .ok (.getfield 12, 3) := by decide +kernel
theorem dX4_ring_105 : decode cX4_ring 105 = .ok (.aload_n 0, 1) := by decide +kernel
theorem dX4_ring_106 : decode cX4_ring 106 = .ok (.getfield 21, 3) := by decide +kernel
theorem dX4_ring_109 : decode cX4_ring 109 = .ok (.getfield 53, 3) := by decide +kernel
theorem dX4_ring_112 : decode cX4_ring 112 = .ok (.iload_n 2, 1) := by decide +kernel
theorem dX4_ring_113 : decode cX4_ring 113 = .ok (.iaload, 1) := by decide +kernel
theorem dX4_ring_114 : decode cX4_ring 114 = .ok (.bipush 10, 2) := by decide +kernel
theorem dX4_ring_116 : decode cX4_ring 116 = .ok (.isub, 1) := by decide +kernel
theorem dX4_ring_117 : decode cX4_ring 117 = .ok (.invokevirtual 49, 3) := by decide +kernel
theorem dX4_ring_120 : decode cX4_ring 120 = .ok (.invokevirtual 56, 3) := by decide +kernel
theorem dX4_ring_123 : decode cX4_ring 123 = .ok (.iinc 2 1, 3) := by decide +kernel
theorem dX4_ring_126 : decode cX4_ring 126 = .ok (.goto (-52), 3) := by decide +kernel
theorem dX4_ring_129 : decode cX4_ring 129 = .ok (.aload_n 0, 1) := by decide +kernel
theorem dX4_ring_130 : decode cX4_ring 130 = .ok (.dup, 1) := by decide +kernel
theorem dX4_ring_131 : decode cX4_ring 131 = .ok (.getfield 46, 3) := by decide +kernel
theorem dX4_ring_134 : decode cX4_ring 134 = .ok (.iconst 1, 1) := by decide +kernel
theorem dX4_ring_135 : decode cX4_ring 135 = .ok (.iadd, 1) := by decide +kernel
theorem dX4_ring_136 : decode cX4_ring 136 = .ok (.putfield 46, 3) := by decide +kernel
theorem dX4_ring_139 : decode cX4_ring 139 = .ok (.iload_n 1, 1) := by decide +kernel
theorem dX4_ring_140 : decode cX4_ring 140 = .ok (.ireturn, 1) := by decide +kernel
set_option maxRecDepth 100000 in
set_option maxHeartbeats 4000000 in
theorem e_X4_ring_1 {σ : Mem} {Q : Int → Mem → Prop} (h : (σ 1 3 < 9999 → WP GC M_X4_ring 17 [some (mr 1), some (mi 0), some (mi 0)] [] σ Q) ∧ (¬ σ 1 3 < 9999 → Q (-3) σ)) : HT GC M_X4_ring [mr 1] σ Q := by
  refine HT.of pn_X4 (Nat.le_of_ble_eq_true rfl) ?_
  show WP GC M_X4_ring 0 [some (mr 1), none, none] [] σ Q
  refine WP.aload_n dX4_ring_0 rfl ?_
  refine WP.getI (v := σ 1 3) fd_X4_46 dX4_ring_1 g1 rfl rfl ?_
  refine WP.sipush dX4_ring_4 (by decide) sp_9999 ?_
  refine WP.icmp_lt (tgt := 13) dX4_ring_7 (by decide) (fun q => ?_) (fun q => ?_)
  · have h := h.1 q
    refine WP.iconst dX4_ring_13 (by decide) ?_
    refine WP.istore_n (L2 := [some (mr 1), some (mi 0), none]) dX4_ring_14 (by decide) rfl ?_
    refine WP.iconst dX4_ring_15 (by decide) ?_
    refine WP.istore_n (L2 := [some (mr 1), some (mi 0), some (mi 0)]) dX4_ring_16 (by decide) rfl ?_
    exact h
  · have h := h.2 q
    refine WP.bipush dX4_ring_10 (by decide) bp_m3 ?_
    exact WP.iret rfl dX4_ring_12 h
set_option maxRecDepth 100000 in
set_option maxHeartbeats 4000000 in
theorem b_X4_ring_1_17 (x1 x2 : Int) {σ : Mem} {Q : Int → Mem → Prop} (h : (σ 8 0 ≤ x2 → HT GC M_X0_turnAll [mr 3] σ (fun _ σ69 => WP GC M_X4_ring 74 [some (mr 1), some (mi x1), some (mi 0)] [] σ69 Q)) ∧ (¬ σ 8 0 ≤ x2 → HT GC M_X6_inPocket [mr 8, mi x2] σ (fun r33 σ33 => (r33 = 0 → WP GC M_X4_ring 59 [some (mr 1), some (mi x1), some (mi x2)] [] σ33 Q) ∧ (¬ r33 = 0 → (0 ≤ x2 ∧ x2 < 8) ∧ (HT GC M_X4_change [mr 1, mi x2, mi (jsub (σ33 10 x2) 10)] σ33 (fun r54 σ54 => WP GC M_X4_ring 59 [some (mr 1), some (mi (jadd x1 r54)), some (mi x2)] [] σ54 Q)))))) : WP GC M_X4_ring 17 [some (mr 1), some (mi x1), some (mi x2)] [] σ Q := by
  refine WP.iload_n dX4_ring_17 rfl ?_
  refine WP.aload_n dX4_ring_18 rfl ?_
  refine WP.getR fd_X4_21 dX4_ring_19 g1 rfl ?_
  refine WP.getI (v := σ 8 0) fd_X4_60 dX4_ring_22 g8 rfl rfl ?_
  refine WP.icmp_ge (tgt := 65) dX4_ring_25 (by decide) (fun q => ?_) (fun q => ?_)
  · have h := h.1 q
    refine WP.aload_n dX4_ring_65 rfl ?_
    refine WP.getR fd_X4_12 dX4_ring_66 g1 rfl ?_
    refine WP.callV M_X0_turnAll [] cv_X0_turnAll dX4_ring_69 lk_X4_74 g3 rfl ft_X4_ring__X0_turnAll rfl (Nat.le_of_ble_eq_true rfl) (HT.mono h ?_)
    rintro _ σ69 - - h
    refine WP.iconst dX4_ring_72 (by decide) ?_
    refine WP.istore_n (L2 := [some (mr 1), some (mi x1), some (mi 0)]) dX4_ring_73 (by decide) rfl ?_
    exact h
  · have h := h.2 q
    refine WP.aload_n dX4_ring_28 rfl ?_
    refine WP.getR fd_X4_21 dX4_ring_29 g1 rfl ?_
    refine WP.iload_n dX4_ring_32 rfl ?_
    refine WP.callV M_X6_inPocket [mi x2] cv_X6_inPocket dX4_ring_33 lk_X4_67 g8 rfl ft_X4_ring__X6_inPocket rfl (Nat.le_of_ble_eq_true rfl) (HT.mono h ?_)
    rintro r33 σ33 - - h
    refine WP.if_eq (tgt := 59) dX4_ring_36 (by decide) (fun q => ?_) (fun q => ?_)
    · have h := h.1 q
      exact h
    · have h := h.2 q
      refine WP.iload_n dX4_ring_39 rfl ?_
      refine WP.aload_n dX4_ring_40 rfl ?_
      refine WP.iload_n dX4_ring_41 rfl ?_
      refine WP.aload_n dX4_ring_42 rfl ?_
      refine WP.getR fd_X4_21 dX4_ring_43 g1 rfl ?_
      refine WP.getR fd_X4_53 dX4_ring_46 g8 rfl ?_
      refine WP.iload_n dX4_ring_49 rfl ?_
      obtain ⟨hi, h⟩ := h
      refine WP.iald dX4_ring_50 g10 hi ?_
      refine WP.bipush dX4_ring_51 (by decide) bp_10 ?_
      refine WP.isub dX4_ring_53 ?_
      refine WP.callV M_X4_change [mi x2, mi (jsub (σ33 10 x2) 10)] cv_X4_change dX4_ring_54 lk_X4_70 g1 rfl ft_X4_ring__X4_change rfl (Nat.le_of_ble_eq_true rfl) (HT.mono h ?_)
      rintro r54 σ54 - - h
      refine WP.iadd dX4_ring_57 ?_
      refine WP.istore_n (L2 := [some (mr 1), some (mi (jadd x1 r54)), some (mi x2)]) dX4_ring_58 (by decide) rfl ?_
      exact h
set_option maxRecDepth 100000 in
set_option maxHeartbeats 4000000 in
theorem b_X4_ring_1_59 (x1 x2 : Int) {σ : Mem} {Q : Int → Mem → Prop} (h : WP GC M_X4_ring 17 [some (mr 1), some (mi x1), some (mi (jadd x2 1))] [] σ Q) : WP GC M_X4_ring 59 [some (mr 1), some (mi x1), some (mi x2)] [] σ Q := by
  refine WP.iinc (L2 := [some (mr 1), some (mi x1), some (mi (jadd x2 1))]) dX4_ring_59 (by decide) rfl (by decide) rfl ?_
  refine WP.goto (tgt := 17) dX4_ring_62 (by decide) ?_
  exact h
set_option maxRecDepth 100000 in
set_option maxHeartbeats 4000000 in
theorem b_X4_ring_1_74 (x1 x2 : Int) {σ : Mem} {Q : Int → Mem → Prop} (h : (σ 8 0 ≤ x2 → Q x1 (mupd σ 1 3 (jadd (σ 1 3) 1))) ∧ (¬ σ 8 0 ≤ x2 → HT GC M_X6_inPocket [mr 8, mi x2] σ (fun r90 σ90 => (r90 = 0 → WP GC M_X4_ring 123 [some (mr 1), some (mi x1), some (mi x2)] [] σ90 Q) ∧ (¬ r90 = 0 → (0 ≤ x2 ∧ x2 < 8) ∧ (HT GC M_X0_wearer [mr 3, mi (jsub (σ90 10 x2) 10)] σ90 (fun r117 σ117 => HT GC M_X6_readBy [mr 8, mi x2, mi r117] σ117 (fun _ σ120 => WP GC M_X4_ring 123 [some (mr 1), some (mi x1), some (mi x2)] [] σ120 Q))))))) : WP GC M_X4_ring 74 [some (mr 1), some (mi x1), some (mi x2)] [] σ Q := by
  refine WP.iload_n dX4_ring_74 rfl ?_
  refine WP.aload_n dX4_ring_75 rfl ?_
  refine WP.getR fd_X4_21 dX4_ring_76 g1 rfl ?_
  refine WP.getI (v := σ 8 0) fd_X4_60 dX4_ring_79 g8 rfl rfl ?_
  refine WP.icmp_ge (tgt := 129) dX4_ring_82 (by decide) (fun q => ?_) (fun q => ?_)
  · have h := h.1 q
    refine WP.aload_n dX4_ring_129 rfl ?_
    refine WP.dup dX4_ring_130 rfl ?_
    refine WP.getI (v := σ 1 3) fd_X4_46 dX4_ring_131 g1 rfl rfl ?_
    refine WP.iconst dX4_ring_134 (by decide) ?_
    refine WP.iadd dX4_ring_135 ?_
    refine WP.put fp_X4_46 dX4_ring_136 g1 rfl rfl rfl ?_
    refine WP.iload_n dX4_ring_139 rfl ?_
    exact WP.iret rfl dX4_ring_140 h
  · have h := h.2 q
    refine WP.aload_n dX4_ring_85 rfl ?_
    refine WP.getR fd_X4_21 dX4_ring_86 g1 rfl ?_
    refine WP.iload_n dX4_ring_89 rfl ?_
    refine WP.callV M_X6_inPocket [mi x2] cv_X6_inPocket dX4_ring_90 lk_X4_67 g8 rfl ft_X4_ring__X6_inPocket rfl (Nat.le_of_ble_eq_true rfl) (HT.mono h ?_)
    rintro r90 σ90 - - h
    refine WP.if_eq (tgt := 123) dX4_ring_93 (by decide) (fun q => ?_) (fun q => ?_)
    · have h := h.1 q
      exact h
    · have h := h.2 q
      refine WP.aload_n dX4_ring_96 rfl ?_
      refine WP.getR fd_X4_21 dX4_ring_97 g1 rfl ?_
      refine WP.iload_n dX4_ring_100 rfl ?_
      refine WP.aload_n dX4_ring_101 rfl ?_
      refine WP.getR fd_X4_12 dX4_ring_102 g1 rfl ?_
      refine WP.aload_n dX4_ring_105 rfl ?_
      refine WP.getR fd_X4_21 dX4_ring_106 g1 rfl ?_
      refine WP.getR fd_X4_53 dX4_ring_109 g8 rfl ?_
      refine WP.iload_n dX4_ring_112 rfl ?_
      obtain ⟨hi, h⟩ := h
      refine WP.iald dX4_ring_113 g10 hi ?_
      refine WP.bipush dX4_ring_114 (by decide) bp_10 ?_
      refine WP.isub dX4_ring_116 ?_
      refine WP.callV M_X0_wearer [mi (jsub (σ90 10 x2) 10)] cv_X0_wearer dX4_ring_117 lk_X4_49 g3 rfl ft_X4_ring__X0_wearer rfl (Nat.le_of_ble_eq_true rfl) (HT.mono h ?_)
      rintro r117 σ117 - - h
      refine WP.callV M_X6_readBy [mi x2, mi r117] cv_X6_readBy dX4_ring_120 lk_X4_56 g8 rfl ft_X4_ring__X6_readBy rfl (Nat.le_of_ble_eq_true rfl) (HT.mono h ?_)
      rintro _ σ120 - - h
      exact h
set_option maxRecDepth 100000 in
set_option maxHeartbeats 4000000 in
theorem b_X4_ring_1_123 (x1 x2 : Int) {σ : Mem} {Q : Int → Mem → Prop} (h : WP GC M_X4_ring 74 [some (mr 1), some (mi x1), some (mi (jadd x2 1))] [] σ Q) : WP GC M_X4_ring 123 [some (mr 1), some (mi x1), some (mi x2)] [] σ Q := by
  refine WP.iinc (L2 := [some (mr 1), some (mi x1), some (mi (jadd x2 1))]) dX4_ring_123 (by decide) rfl (by decide) rfl ?_
  refine WP.goto (tgt := 74) dX4_ring_126 (by decide) ?_
  exact h
theorem dX2_doAct_0 : decode cX2_doAct 0 = .ok (.aload_n 0, 1) := by decide +kernel
theorem dX2_doAct_1 : decode cX2_doAct 1 = .ok (.getfield 68, 3) := by decide +kernel
theorem dX2_doAct_4 : decode cX2_doAct 4 = .ok (.lookupswitch 92 #[(103, 79), (112, 44), (115, 70), (116, 57)], 44) := by decide +kernel
theorem dX2_doAct_48 : decode cX2_doAct 48 = .ok (.aload_n 1, 1) := by decide +kernel
theorem dX2_doAct_49 : decode cX2_doAct 49 = .ok (.aload_n 0, 1) := by decide +kernel
theorem dX2_doAct_50 : decode cX2_doAct 50 = .ok (.getfield 89, 3) := by decide +kernel
theorem dX2_doAct_53 : decode cX2_doAct 53 = .ok (.aload_n 0, 1) := by decide +kernel
theorem dX2_doAct_54 : decode cX2_doAct 54 = .ok (.getfield 75, 3) := by decide +kernel
theorem dX2_doAct_57 : decode cX2_doAct 57 = .ok (.invokevirtual 92, 3) := by decide +kernel
theorem dX2_doAct_60 : decode cX2_doAct 60 = .ok (.ireturn, 1) := by decide +kernel
theorem dX2_doAct_61 : decode cX2_doAct 61 = .ok (.aload_n 1, 1) := by decide +kernel
theorem dX2_doAct_62 : decode cX2_doAct 62 = .ok (.aload_n 0, 1) := by decide +kernel
theorem dX2_doAct_63 : decode cX2_doAct 63 = .ok (.getfield 89, 3) := by decide +kernel
theorem dX2_doAct_66 : decode cX2_doAct 66 = .ok (.aload_n 0, 1) := by decide +kernel
theorem dX2_doAct_67 : decode cX2_doAct 67 = .ok (.getfield 75, 3) := by decide +kernel
theorem dX2_doAct_70 : decode cX2_doAct 70 = .ok (.invokevirtual 96, 3) := by decide +kernel
theorem dX2_doAct_73 : decode cX2_doAct 73 = .ok (.ireturn, 1) := by decide +kernel
theorem dX2_doAct_74 : decode cX2_doAct 74 = .ok (.aload_n 1, 1) := by decide +kernel
theorem dX2_doAct_75 : decode cX2_doAct 75 = .ok (.aload_n 0, 1) := by decide +kernel
theorem dX2_doAct_76 : decode cX2_doAct 76 = .ok (.getfield 75, 3) := by decide +kernel
theorem dX2_doAct_79 : decode cX2_doAct 79 = .ok (.invokevirtual 99, 3) := by decide +kernel
theorem dX2_doAct_82 : decode cX2_doAct 82 = .ok (.ireturn, 1) := by decide +kernel
theorem dX2_doAct_83 : decode cX2_doAct 83 = .ok (.aload_n 1, 1) := by decide +kernel
theorem dX2_doAct_84 : decode cX2_doAct 84 = .ok (.aload_n 0, 1) := by decide +kernel
theorem dX2_doAct_85 : decode cX2_doAct 85 = .ok (.getfield 89, 3) := by decide +kernel
theorem dX2_doAct_88 : decode cX2_doAct 88 = .ok (.aload_n 0, 1) := by decide +kernel
theorem dX2_doAct_89 : decode cX2_doAct 89 = .ok (.getfield 75, 3) := by decide +kernel
theorem dX2_doAct_92 : decode cX2_doAct 92 = .ok (.invokevirtual 102, 3) := by decide +kernel
theorem dX2_doAct_95 : decode cX2_doAct 95 = .ok (.ireturn, 1) := by decide +kernel
theorem dX2_doAct_96 : decode cX2_doAct 96 = .ok (.aload_n 1, 1) := by decide +kernel
theorem dX2_doAct_97 : decode cX2_doAct 97 = .ok (.invokevirtual 105, 3) := by decide +kernel
theorem dX2_doAct_100 : decode cX2_doAct 100 = .ok (.ireturn, 1) := by decide +kernel
set_option maxRecDepth 100000 in
set_option maxHeartbeats 4000000 in
theorem e_X2_doAct_27_1 {σ : Mem} {Q : Int → Mem → Prop} (h : (σ 27 1 = 103 → HT GC M_X4_handOver [mr 1, mi (σ 27 2), mi (σ 27 3)] σ (fun r92 σ92 => Q r92 σ92)) ∧ (σ 27 1 = 112 → HT GC M_X4_putIn [mr 1, mi (σ 27 2), mi (σ 27 3)] σ (fun r57 σ57 => Q r57 σ57)) ∧ (σ 27 1 = 115 → HT GC M_X4_searchLining [mr 1, mi (σ 27 3)] σ (fun r79 σ79 => Q r79 σ79)) ∧ (σ 27 1 = 116 → HT GC M_X4_takeOut [mr 1, mi (σ 27 2), mi (σ 27 3)] σ (fun r70 σ70 => Q r70 σ70)) ∧ (¬ σ 27 1 = 103 → ¬ σ 27 1 = 112 → ¬ σ 27 1 = 115 → ¬ σ 27 1 = 116 → HT GC M_X4_ring [mr 1] σ (fun r97 σ97 => Q r97 σ97))) : HT GC M_X2_doAct [mr 27, mr 1] σ Q := by
  refine HT.of pn_X2 (Nat.le_of_ble_eq_true rfl) ?_
  show WP GC M_X2_doAct 0 [some (mr 27), some (mr 1)] [] σ Q
  refine WP.aload_n dX2_doAct_0 rfl ?_
  refine WP.getI (v := σ 27 1) fd_X2_68 dX2_doAct_1 g27 rfl rfl ?_
  by_cases q0 : σ 27 1 = 103
  · have h := h.1 q0
    refine WP.lsw (tgt := 83) (off := 79) dX2_doAct_4 rfl (by rw [q0]; rfl) (by decide) ?_
    refine WP.aload_n dX2_doAct_83 rfl ?_
    refine WP.aload_n dX2_doAct_84 rfl ?_
    refine WP.getI (v := σ 27 2) fd_X2_89 dX2_doAct_85 g27 rfl rfl ?_
    refine WP.aload_n dX2_doAct_88 rfl ?_
    refine WP.getI (v := σ 27 3) fd_X2_75 dX2_doAct_89 g27 rfl rfl ?_
    refine WP.callV M_X4_handOver [mi (σ 27 2), mi (σ 27 3)] cv_X4_handOver dX2_doAct_92 lk_X2_102 g1 rfl ft_X2_doAct__X4_handOver rfl (Nat.le_of_ble_eq_true rfl) (HT.mono h ?_)
    rintro r92 σ92 - - h
    exact WP.iret rfl dX2_doAct_95 h
  by_cases q1 : σ 27 1 = 112
  · have h := h.2.1 q1
    refine WP.lsw (tgt := 48) (off := 44) dX2_doAct_4 rfl (by rw [q1]; rfl) (by decide) ?_
    refine WP.aload_n dX2_doAct_48 rfl ?_
    refine WP.aload_n dX2_doAct_49 rfl ?_
    refine WP.getI (v := σ 27 2) fd_X2_89 dX2_doAct_50 g27 rfl rfl ?_
    refine WP.aload_n dX2_doAct_53 rfl ?_
    refine WP.getI (v := σ 27 3) fd_X2_75 dX2_doAct_54 g27 rfl rfl ?_
    refine WP.callV M_X4_putIn [mi (σ 27 2), mi (σ 27 3)] cv_X4_putIn dX2_doAct_57 lk_X2_92 g1 rfl ft_X2_doAct__X4_putIn rfl (Nat.le_of_ble_eq_true rfl) (HT.mono h ?_)
    rintro r57 σ57 - - h
    exact WP.iret rfl dX2_doAct_60 h
  by_cases q2 : σ 27 1 = 115
  · have h := h.2.2.1 q2
    refine WP.lsw (tgt := 74) (off := 70) dX2_doAct_4 rfl (by rw [q2]; rfl) (by decide) ?_
    refine WP.aload_n dX2_doAct_74 rfl ?_
    refine WP.aload_n dX2_doAct_75 rfl ?_
    refine WP.getI (v := σ 27 3) fd_X2_75 dX2_doAct_76 g27 rfl rfl ?_
    refine WP.callV M_X4_searchLining [mi (σ 27 3)] cv_X4_searchLining dX2_doAct_79 lk_X2_99 g1 rfl ft_X2_doAct__X4_searchLining rfl (Nat.le_of_ble_eq_true rfl) (HT.mono h ?_)
    rintro r79 σ79 - - h
    exact WP.iret rfl dX2_doAct_82 h
  by_cases q3 : σ 27 1 = 116
  · have h := h.2.2.2.1 q3
    refine WP.lsw (tgt := 61) (off := 57) dX2_doAct_4 rfl (by rw [q3]; rfl) (by decide) ?_
    refine WP.aload_n dX2_doAct_61 rfl ?_
    refine WP.aload_n dX2_doAct_62 rfl ?_
    refine WP.getI (v := σ 27 2) fd_X2_89 dX2_doAct_63 g27 rfl rfl ?_
    refine WP.aload_n dX2_doAct_66 rfl ?_
    refine WP.getI (v := σ 27 3) fd_X2_75 dX2_doAct_67 g27 rfl rfl ?_
    refine WP.callV M_X4_takeOut [mi (σ 27 2), mi (σ 27 3)] cv_X4_takeOut dX2_doAct_70 lk_X2_96 g1 rfl ft_X2_doAct__X4_takeOut rfl (Nat.le_of_ble_eq_true rfl) (HT.mono h ?_)
    rintro r70 σ70 - - h
    exact WP.iret rfl dX2_doAct_73 h
  have h := h.2.2.2.2 q0 q1 q2 q3
  refine WP.lsw (tgt := 96) (off := 92) dX2_doAct_4 rfl (by simp only [Op.lookupswitch.offset_cons, Op.lookupswitch.offset_nil, if_neg (Ne.symm q0), if_neg (Ne.symm q1), if_neg (Ne.symm q2), if_neg (Ne.symm q3)]) (by decide) ?_
  refine WP.aload_n dX2_doAct_96 rfl ?_
  refine WP.callV M_X4_ring [] cv_X4_ring dX2_doAct_97 lk_X2_105 g1 rfl ft_X2_doAct__X4_ring rfl (Nat.le_of_ble_eq_true rfl) (HT.mono h ?_)
  rintro r97 σ97 - - h
  exact WP.iret rfl dX2_doAct_100 h
theorem dX2_runDay_0 : decode cX2_runDay 0 = .ok (.aload_n 1, 1) := by decide +kernel
theorem dX2_runDay_1 : decode cX2_runDay 1 = .ok (.iconst 0, 1) := by decide +kernel
theorem dX2_runDay_2 : decode cX2_runDay 2 = .ok (.putfield 18, 3) := by decide +kernel
theorem dX2_runDay_5 : decode cX2_runDay 5 = .ok (.iconst 0, 1) := by decide +kernel
theorem dX2_runDay_6 : decode cX2_runDay 6 = .ok (.istore_n 3, 1) := by decide +kernel
theorem dX2_runDay_7 : decode cX2_runDay 7 = .ok (.iload_n 3, 1) := by decide +kernel
theorem dX2_runDay_8 : decode cX2_runDay 8 = .ok (.bipush 100, 2) := by decide +kernel
theorem dX2_runDay_10 : decode cX2_runDay 10 = .ok (.if_icmp .ge 41, 3) := by decide +kernel
theorem dX2_runDay_13 : decode cX2_runDay 13 = .ok (.aload_n 0, 1) := by decide +kernel
theorem dX2_runDay_14 : decode cX2_runDay 14 = .ok (.aload_n 1, 1) := by decide +kernel
theorem dX2_runDay_15 : decode cX2_runDay 15 = .ok (.aload_n 2, 1) := by decide +kernel
theorem dX2_runDay_16 : decode cX2_runDay 16 = .ok (.invokevirtual 60, 3) := by decide +kernel
theorem dX2_runDay_19 : decode cX2_runDay 19 = .ok (.ifCond .eq 11, 3) := by decide +kernel
theorem dX2_runDay_22 : decode cX2_runDay 22 = .ok (.aload_n 0, 1) := by decide +kernel
theorem dX2_runDay_23 : decode cX2_runDay 23 = .ok (.aload_n 2, 1) := by decide +kernel
theorem dX2_runDay_24 : decode cX2_runDay 24 = .ok (.invokevirtual 64, 3) := by decide +kernel
theorem dX2_runDay_27 : decode cX2_runDay 27 = .ok (.ifCond .ge 5, 3) := by decide +kernel
theorem dX2_runDay_30 : decode cX2_runDay 30 = .ok (.iload_n 3, 1) := by decide +kernel
theorem dX2_runDay_31 : decode cX2_runDay 31 = .ok (.ireturn, 1) := by decide +kernel
theorem dX2_runDay_32 : decode cX2_runDay 32 = .ok (.aload_n 1, 1) := by decide +kernel
theorem dX2_runDay_33 : decode cX2_runDay 33 = .ok (.bipush 59, 2) := by decide +kernel
theorem dX2_runDay_35 : decode cX2_runDay 35 = .ok (.invokevirtual 39, 3) := by decide +kernel
theorem dX2_runDay_38 : decode cX2_runDay 38 = .ok (.ifCond .ne 7, 3) := by decide +kernel
theorem dX2_runDay_41 : decode cX2_runDay 41 = .ok (.iload_n 3, 1) := by decide +kernel
theorem dX2_runDay_42 : decode cX2_runDay 42 = .ok (.iconst 1, 1) := by decide +kernel
theorem dX2_runDay_43 : decode cX2_runDay 43 = .ok (.iadd, 1) := by decide +kernel
theorem dX2_runDay_44 : decode cX2_runDay 44 = .ok (.ireturn, 1) := by decide +kernel
theorem dX2_runDay_45 : decode cX2_runDay 45 = .ok (.iinc 3 1, 3) := by decide +kernel
theorem dX2_runDay_48 : decode cX2_runDay 48 = .ok (.goto (-41), 3) := by decide +kernel
theorem dX2_runDay_51 : decode cX2_runDay 51 = .ok (.bipush 100, 2) := by decide +kernel
theorem dX2_runDay_53 : decode cX2_runDay 53 = .ok (.ireturn, 1) := by decide +kernel
set_option maxRecDepth 100000 in
set_option maxHeartbeats 4000000 in
theorem e_X2_runDay_27_25_1 {σ : Mem} {Q : Int → Mem → Prop} (h : WP GC M_X2_runDay 7 [some (mr 27), some (mr 25), some (mr 1), some (mi 0)] [] (mupd σ 25 2 0) Q) : HT GC M_X2_runDay [mr 27, mr 25, mr 1] σ Q := by
  refine HT.of pn_X2 (Nat.le_of_ble_eq_true rfl) ?_
  show WP GC M_X2_runDay 0 [some (mr 27), some (mr 25), some (mr 1), none] [] σ Q
  refine WP.aload_n dX2_runDay_0 rfl ?_
  refine WP.iconst dX2_runDay_1 (by decide) ?_
  refine WP.put fp_X2_18 dX2_runDay_2 g25 rfl rfl rfl ?_
  refine WP.iconst dX2_runDay_5 (by decide) ?_
  refine WP.istore_n (L2 := [some (mr 27), some (mr 25), some (mr 1), some (mi 0)]) dX2_runDay_6 (by decide) rfl ?_
  exact h
set_option maxRecDepth 100000 in
set_option maxHeartbeats 4000000 in
theorem b_X2_runDay_27_25_1_7 (x3 : Int) {σ : Mem} {Q : Int → Mem → Prop} (h : (100 ≤ x3 → Q 100 σ) ∧ (¬ 100 ≤ x3 → HT GC M_X2_readAct [mr 27, mr 25, mr 1] σ (fun r16 σ16 => (r16 = 0 → Q x3 σ16) ∧ (¬ r16 = 0 → HT GC M_X2_doAct [mr 27, mr 1] σ16 (fun r24 σ24 => (0 ≤ r24 → HT GC M_X5_passes [mr 25, mi 59] σ24 (fun r35 σ35 => (¬ r35 = 0 → WP GC M_X2_runDay 7 [some (mr 27), some (mr 25), some (mr 1), some (mi (jadd x3 1))] [] σ35 Q) ∧ (r35 = 0 → Q (jadd x3 1) σ35))) ∧ (¬ 0 ≤ r24 → Q x3 σ24)))))) : WP GC M_X2_runDay 7 [some (mr 27), some (mr 25), some (mr 1), some (mi x3)] [] σ Q := by
  refine WP.iload_n dX2_runDay_7 rfl ?_
  refine WP.bipush dX2_runDay_8 (by decide) bp_100 ?_
  refine WP.icmp_ge (tgt := 51) dX2_runDay_10 (by decide) (fun q => ?_) (fun q => ?_)
  · have h := h.1 q
    refine WP.bipush dX2_runDay_51 (by decide) bp_100 ?_
    exact WP.iret rfl dX2_runDay_53 h
  · have h := h.2 q
    refine WP.aload_n dX2_runDay_13 rfl ?_
    refine WP.aload_n dX2_runDay_14 rfl ?_
    refine WP.aload_n dX2_runDay_15 rfl ?_
    refine WP.callV M_X2_readAct [mr 25, mr 1] cv_X2_readAct dX2_runDay_16 lk_X2_60 g27 rfl ft_X2_runDay__X2_readAct rfl (Nat.le_of_ble_eq_true rfl) (HT.mono h ?_)
    rintro r16 σ16 - - h
    refine WP.if_eq (tgt := 30) dX2_runDay_19 (by decide) (fun q => ?_) (fun q => ?_)
    · have h := h.1 q
      refine WP.iload_n dX2_runDay_30 rfl ?_
      exact WP.iret rfl dX2_runDay_31 h
    · have h := h.2 q
      refine WP.aload_n dX2_runDay_22 rfl ?_
      refine WP.aload_n dX2_runDay_23 rfl ?_
      refine WP.callV M_X2_doAct [mr 1] cv_X2_doAct dX2_runDay_24 lk_X2_64 g27 rfl ft_X2_runDay__X2_doAct rfl (Nat.le_of_ble_eq_true rfl) (HT.mono h ?_)
      rintro r24 σ24 - - h
      refine WP.if_ge (tgt := 32) dX2_runDay_27 (by decide) (fun q => ?_) (fun q => ?_)
      · have h := h.1 q
        refine WP.aload_n dX2_runDay_32 rfl ?_
        refine WP.bipush dX2_runDay_33 (by decide) bp_59 ?_
        refine WP.callV M_X5_passes [mi 59] cv_X5_passes dX2_runDay_35 lk_X2_39 g25 rfl ft_X2_runDay__X5_passes rfl (Nat.le_of_ble_eq_true rfl) (HT.mono h ?_)
        rintro r35 σ35 - - h
        refine WP.if_ne (tgt := 45) dX2_runDay_38 (by decide) (fun q => ?_) (fun q => ?_)
        · have h := h.1 q
          refine WP.iinc (L2 := [some (mr 27), some (mr 25), some (mr 1), some (mi (jadd x3 1))]) dX2_runDay_45 (by decide) rfl (by decide) rfl ?_
          refine WP.goto (tgt := 7) dX2_runDay_48 (by decide) ?_
          exact h
        · have h := h.2 q
          refine WP.iload_n dX2_runDay_41 rfl ?_
          refine WP.iconst dX2_runDay_42 (by decide) ?_
          refine WP.iadd dX2_runDay_43 ?_
          exact WP.iret rfl dX2_runDay_44 h
      · have h := h.2 q
        refine WP.iload_n dX2_runDay_30 rfl ?_
        exact WP.iret rfl dX2_runDay_31 h
theorem dX7_spread_0 : decode cX7_spread 0 = .ok (.iconst 0, 1) := by decide +kernel
theorem dX7_spread_1 : decode cX7_spread 1 = .ok (.istore_n 1, 1) := by decide +kernel
theorem dX7_spread_2 : decode cX7_spread 2 = .ok (.iload_n 1, 1) := by decide +kernel
theorem dX7_spread_3 : decode cX7_spread 3 = .ok (.aload_n 0, 1) := by decide +kernel
theorem dX7_spread_4 : decode cX7_spread 4 = .ok (.getfield 12, 3) := by decide +kernel
theorem dX7_spread_7 : decode cX7_spread 7 = .ok (.getfield 41, 3) := by decide +kernel
theorem dX7_spread_10 : decode cX7_spread 10 = .ok (.if_icmp .ge 39, 3) := by decide +kernel
theorem dX7_spread_13 : decode cX7_spread 13 = .ok (.aload_n 0, 1) := by decide +kernel
theorem dX7_spread_14 : decode cX7_spread 14 = .ok (.getfield 74, 3) := by decide +kernel
theorem dX7_spread_17 : decode cX7_spread 17 = .ok (.iload_n 1, 1) := by decide +kernel
theorem dX7_spread_18 : decode cX7_spread 18 = .ok (.ishr, 1) := by decide +kernel
theorem dX7_spread_19 : decode cX7_spread 19 = .ok (.iconst 1, 1) := by decide +kernel
theorem dX7_spread_20 : decode cX7_spread 20 = .ok (.iand, 1) := by decide +kernel
theorem dX7_spread_21 : decode cX7_spread 21 = .ok (.ifCond .eq 22, 3) := by decide +kernel
theorem dX7_spread_24 : decode cX7_spread 24 = .ok (.aload_n 0, 1) := by decide +kernel
theorem dX7_spread_25 : decode cX7_spread 25 = .ok (.dup, 1) := by decide +kernel
theorem dX7_spread_26 : decode cX7_spread 26 = .ok (.getfield 33, 3) := by decide +kernel
theorem dX7_spread_29 : decode cX7_spread 29 = .ok (.iconst 1, 1) := by decide +kernel
theorem dX7_spread_30 : decode cX7_spread 30 = .ok (.aload_n 0, 1) := by decide +kernel
theorem dX7_spread_31 : decode cX7_spread 31 = .ok (.getfield 12, 3) := by decide +kernel
theorem dX7_spread_34 : decode cX7_spread 34 = .ok (.iload_n 1, 1) := by decide +kernel
theorem dX7_spread_35 : decode cX7_spread 35 = .ok (.invokevirtual 47, 3) := by decide +kernel
theorem dX7_spread_38 : decode cX7_spread 38 = .ok (.ishl, 1) := by decide +kernel
theorem dX7_spread_39 : decode cX7_spread 39 = .ok (.ior, 1) := by decide +kernel
theorem dX7_spread_40 : decode cX7_spread 40 = .ok (.putfield 33, 3) := by decide +kernel
theorem dX7_spread_43 : decode cX7_spread 43 = .ok (.iinc 1 1, 3) := by decide +kernel
theorem dX7_spread_46 : decode cX7_spread 46 = .ok (.goto (-44), 3) := by decide +kernel
theorem dX7_spread_49 : decode cX7_spread 49 = .ok (.iconst 0, 1) := by decide +kernel
theorem dX7_spread_50 : decode cX7_spread 50 = .ok (.istore_n 1, 1) := by decide +kernel
theorem dX7_spread_51 : decode cX7_spread 51 = .ok (.iload_n 1, 1) := by decide +kernel
theorem dX7_spread_52 : decode cX7_spread 52 = .ok (.aload_n 0, 1) := by decide +kernel
theorem dX7_spread_53 : decode cX7_spread 53 = .ok (.getfield 12, 3) := by decide +kernel
theorem dX7_spread_56 : decode cX7_spread 56 = .ok (.getfield 41, 3) := by decide +kernel
theorem dX7_spread_59 : decode cX7_spread 59 = .ok (.if_icmp .ge 51, 3) := by decide +kernel
theorem dX7_spread_62 : decode cX7_spread 62 = .ok (.aload_n 0, 1) := by decide +kernel
theorem dX7_spread_63 : decode cX7_spread 63 = .ok (.getfield 12, 3) := by decide +kernel
theorem dX7_spread_66 : decode cX7_spread 66 = .ok (.getfield 83, 3) := by decide +kernel
theorem dX7_spread_69 : decode cX7_spread 69 = .ok (.iload_n 1, 1) := by decide +kernel
theorem dX7_spread_70 : decode cX7_spread 70 = .ok (.iaload, 1) := by decide +kernel
theorem dX7_spread_71 : decode cX7_spread 71 = .ok (.ifCond .ne 33, 3) := by decide +kernel
theorem dX7_spread_74 : decode cX7_spread 74 = .ok (.aload_n 0, 1) := by decide +kernel
theorem dX7_spread_75 : decode cX7_spread 75 = .ok (.getfield 33, 3) := by decide +kernel
theorem dX7_spread_78 : decode cX7_spread 78 = .ok (.aload_n 0, 1) := by decide +kernel
theorem dX7_spread_79 : decode cX7_spread 79 = .ok (.getfield 12, 3) := by decide +kernel
theorem dX7_spread_82 : decode cX7_spread 82 = .ok (.iload_n 1, 1) := by decide +kernel
theorem dX7_spread_83 : decode cX7_spread 83 = .ok (.invokevirtual 47, 3) := by decide +kernel
theorem dX7_spread_86 : decode cX7_spread 86 = .ok (.ishr, 1) := by decide +kernel
theorem dX7_spread_87 : decode cX7_spread 87 = .ok (.iconst 1, 1) := by decide +kernel
theorem dX7_spread_88 : decode cX7_spread 88 = .ok (.iand, 1) := by decide +kernel
theorem dX7_spread_89 : decode cX7_spread 89 = .ok (.ifCond .eq 15, 3) := by decide +kernel
theorem dX7_spread_92 : decode cX7_spread 92 = .ok (.aload_n 0, 1) := by decide +kernel
theorem dX7_spread_93 : decode cX7_spread 93 = .ok (.dup, 1) := by decide +kernel
theorem dX7_spread_94 : decode cX7_spread 94 = .ok (.getfield 74, 3) := by decide +kernel
theorem dX7_spread_97 : decode cX7_spread 97 = .ok (.iconst 1, 1) := by decide +kernel
theorem dX7_spread_98 : decode cX7_spread 98 = .ok (.iload_n 1, 1) := by decide +kernel
theorem dX7_spread_99 : decode cX7_spread 99 = .ok (.ishl, 1) := by decide +kernel
theorem dX7_spread_100 : decode cX7_spread 100 = .ok (.ior, 1) := by decide +kernel
theorem dX7_spread_101 : decode cX7_spread 101 = .ok (.putfield 74, 3) := by decide +kernel
theorem dX7_spread_104 : decode cX7_spread 104 = .ok (.iinc 1 1, 3) := by decide +kernel
theorem dX7_spread_107 : decode cX7_spread 107 = .ok (.goto (-56), 3) := by decide +kernel
theorem dX7_spread_110 : decode cX7_spread 110 = .ok (.return_, 1) := by decide +kernel
set_option maxRecDepth 100000 in
set_option maxHeartbeats 4000000 in
theorem e_X7_spread_33 {σ : Mem} {Q : Int → Mem → Prop} (h : WP GC M_X7_spread 2 [some (mr 33), some (mi 0)] [] σ Q) : HT GC M_X7_spread [mr 33] σ Q := by
  refine HT.of pn_X7 (Nat.le_of_ble_eq_true rfl) ?_
  show WP GC M_X7_spread 0 [some (mr 33), none] [] σ Q
  refine WP.iconst dX7_spread_0 (by decide) ?_
  refine WP.istore_n (L2 := [some (mr 33), some (mi 0)]) dX7_spread_1 (by decide) rfl ?_
  exact h
set_option maxRecDepth 100000 in
set_option maxHeartbeats 4000000 in
theorem b_X7_spread_33_2 (x1 : Int) {σ : Mem} {Q : Int → Mem → Prop} (h : (σ 35 0 ≤ x1 → WP GC M_X7_spread 51 [some (mr 33), some (mi 0)] [] σ Q) ∧ (¬ σ 35 0 ≤ x1 → (jand (jshr (σ 33 4) x1) 1 = 0 → WP GC M_X7_spread 43 [some (mr 33), some (mi x1)] [] σ Q) ∧ (¬ jand (jshr (σ 33 4) x1) 1 = 0 → HT GC M_X0_wearer [mr 35, mi x1] σ (fun r35 σ35 => WP GC M_X7_spread 43 [some (mr 33), some (mi x1)] [] (mupd σ35 33 3 (jor (σ 33 3) (jshl 1 r35))) Q)))) : WP GC M_X7_spread 2 [some (mr 33), some (mi x1)] [] σ Q := by
  refine WP.iload_n dX7_spread_2 rfl ?_
  refine WP.aload_n dX7_spread_3 rfl ?_
  refine WP.getR fd_X7_12 dX7_spread_4 g33 rfl ?_
  refine WP.getI (v := σ 35 0) fd_X7_41 dX7_spread_7 g35 rfl rfl ?_
  refine WP.icmp_ge (tgt := 49) dX7_spread_10 (by decide) (fun q => ?_) (fun q => ?_)
  · have h := h.1 q
    refine WP.iconst dX7_spread_49 (by decide) ?_
    refine WP.istore_n (L2 := [some (mr 33), some (mi 0)]) dX7_spread_50 (by decide) rfl ?_
    exact h
  · have h := h.2 q
    refine WP.aload_n dX7_spread_13 rfl ?_
    refine WP.getI (v := σ 33 4) fd_X7_74 dX7_spread_14 g33 rfl rfl ?_
    refine WP.iload_n dX7_spread_17 rfl ?_
    refine WP.ishr dX7_spread_18 ?_
    refine WP.iconst dX7_spread_19 (by decide) ?_
    refine WP.iand dX7_spread_20 ?_
    refine WP.if_eq (tgt := 43) dX7_spread_21 (by decide) (fun q => ?_) (fun q => ?_)
    · have h := h.1 q
      exact h
    · have h := h.2 q
      refine WP.aload_n dX7_spread_24 rfl ?_
      refine WP.dup dX7_spread_25 rfl ?_
      refine WP.getI (v := σ 33 3) fd_X7_33 dX7_spread_26 g33 rfl rfl ?_
      refine WP.iconst dX7_spread_29 (by decide) ?_
      refine WP.aload_n dX7_spread_30 rfl ?_
      refine WP.getR fd_X7_12 dX7_spread_31 g33 rfl ?_
      refine WP.iload_n dX7_spread_34 rfl ?_
      refine WP.callV M_X0_wearer [mi x1] cv_X0_wearer dX7_spread_35 lk_X7_47 g35 rfl ft_X7_spread__X0_wearer rfl (Nat.le_of_ble_eq_true rfl) (HT.mono h ?_)
      rintro r35 σ35 - - h
      refine WP.ishl dX7_spread_38 ?_
      refine WP.ior dX7_spread_39 ?_
      refine WP.put fp_X7_33 dX7_spread_40 g33 rfl rfl rfl ?_
      exact h
set_option maxRecDepth 100000 in
set_option maxHeartbeats 4000000 in
theorem b_X7_spread_33_43 (x1 : Int) {σ : Mem} {Q : Int → Mem → Prop} (h : WP GC M_X7_spread 2 [some (mr 33), some (mi (jadd x1 1))] [] σ Q) : WP GC M_X7_spread 43 [some (mr 33), some (mi x1)] [] σ Q := by
  refine WP.iinc (L2 := [some (mr 33), some (mi (jadd x1 1))]) dX7_spread_43 (by decide) rfl (by decide) rfl ?_
  refine WP.goto (tgt := 2) dX7_spread_46 (by decide) ?_
  exact h
set_option maxRecDepth 100000 in
set_option maxHeartbeats 4000000 in
theorem b_X7_spread_33_51 (x1 : Int) {σ : Mem} {Q : Int → Mem → Prop} (h : (σ 35 0 ≤ x1 → Q 0 σ) ∧ (¬ σ 35 0 ≤ x1 → (0 ≤ x1 ∧ x1 < 4) ∧ ((¬ σ 39 x1 = 0 → WP GC M_X7_spread 104 [some (mr 33), some (mi x1)] [] σ Q) ∧ (σ 39 x1 = 0 → HT GC M_X0_wearer [mr 35, mi x1] σ (fun r83 σ83 => (jand (jshr (σ 33 3) r83) 1 = 0 → WP GC M_X7_spread 104 [some (mr 33), some (mi x1)] [] σ83 Q) ∧ (¬ jand (jshr (σ 33 3) r83) 1 = 0 → WP GC M_X7_spread 104 [some (mr 33), some (mi x1)] [] (mupd σ83 33 4 (jor (σ83 33 4) (jshl 1 x1))) Q)))))) : WP GC M_X7_spread 51 [some (mr 33), some (mi x1)] [] σ Q := by
  refine WP.iload_n dX7_spread_51 rfl ?_
  refine WP.aload_n dX7_spread_52 rfl ?_
  refine WP.getR fd_X7_12 dX7_spread_53 g33 rfl ?_
  refine WP.getI (v := σ 35 0) fd_X7_41 dX7_spread_56 g35 rfl rfl ?_
  refine WP.icmp_ge (tgt := 110) dX7_spread_59 (by decide) (fun q => ?_) (fun q => ?_)
  · have h := h.1 q
    exact WP.vret rfl dX7_spread_110 h
  · have h := h.2 q
    refine WP.aload_n dX7_spread_62 rfl ?_
    refine WP.getR fd_X7_12 dX7_spread_63 g33 rfl ?_
    refine WP.getR fd_X7_83 dX7_spread_66 g35 rfl ?_
    refine WP.iload_n dX7_spread_69 rfl ?_
    obtain ⟨hi, h⟩ := h
    refine WP.iald dX7_spread_70 g39 hi ?_
    refine WP.if_ne (tgt := 104) dX7_spread_71 (by decide) (fun q => ?_) (fun q => ?_)
    · have h := h.1 q
      exact h
    · have h := h.2 q
      refine WP.aload_n dX7_spread_74 rfl ?_
      refine WP.getI (v := σ 33 3) fd_X7_33 dX7_spread_75 g33 rfl rfl ?_
      refine WP.aload_n dX7_spread_78 rfl ?_
      refine WP.getR fd_X7_12 dX7_spread_79 g33 rfl ?_
      refine WP.iload_n dX7_spread_82 rfl ?_
      refine WP.callV M_X0_wearer [mi x1] cv_X0_wearer dX7_spread_83 lk_X7_47 g35 rfl ft_X7_spread__X0_wearer rfl (Nat.le_of_ble_eq_true rfl) (HT.mono h ?_)
      rintro r83 σ83 - - h
      refine WP.ishr dX7_spread_86 ?_
      refine WP.iconst dX7_spread_87 (by decide) ?_
      refine WP.iand dX7_spread_88 ?_
      refine WP.if_eq (tgt := 104) dX7_spread_89 (by decide) (fun q => ?_) (fun q => ?_)
      · have h := h.1 q
        exact h
      · have h := h.2 q
        refine WP.aload_n dX7_spread_92 rfl ?_
        refine WP.dup dX7_spread_93 rfl ?_
        refine WP.getI (v := σ83 33 4) fd_X7_74 dX7_spread_94 g33 rfl rfl ?_
        refine WP.iconst dX7_spread_97 (by decide) ?_
        refine WP.iload_n dX7_spread_98 rfl ?_
        refine WP.ishl dX7_spread_99 ?_
        refine WP.ior dX7_spread_100 ?_
        refine WP.put fp_X7_74 dX7_spread_101 g33 rfl rfl rfl ?_
        exact h
set_option maxRecDepth 100000 in
set_option maxHeartbeats 4000000 in
theorem b_X7_spread_33_104 (x1 : Int) {σ : Mem} {Q : Int → Mem → Prop} (h : WP GC M_X7_spread 51 [some (mr 33), some (mi (jadd x1 1))] [] σ Q) : WP GC M_X7_spread 104 [some (mr 33), some (mi x1)] [] σ Q := by
  refine WP.iinc (L2 := [some (mr 33), some (mi (jadd x1 1))]) dX7_spread_104 (by decide) rfl (by decide) rfl ?_
  refine WP.goto (tgt := 51) dX7_spread_107 (by decide) ?_
  exact h
theorem dX7_start_0 : decode cX7_start 0 = .ok (.aload_n 0, 1) := by decide +kernel
theorem dX7_start_1 : decode cX7_start 1 = .ok (.iload_n 2, 1) := by decide +kernel
theorem dX7_start_2 : decode cX7_start 2 = .ok (.iconst 1, 1) := by decide +kernel
theorem dX7_start_3 : decode cX7_start 3 = .ok (.iload_n 1, 1) := by decide +kernel
theorem dX7_start_4 : decode cX7_start 4 = .ok (.ishl, 1) := by decide +kernel
theorem dX7_start_5 : decode cX7_start 5 = .ok (.iconst (-1), 1) := by decide +kernel
theorem dX7_start_6 : decode cX7_start 6 = .ok (.ixor, 1) := by decide +kernel
theorem dX7_start_7 : decode cX7_start 7 = .ok (.iand, 1) := by decide +kernel
theorem dX7_start_8 : decode cX7_start 8 = .ok (.putfield 71, 3) := by decide +kernel
theorem dX7_start_11 : decode cX7_start 11 = .ok (.aload_n 0, 1) := by decide +kernel
theorem dX7_start_12 : decode cX7_start 12 = .ok (.iconst 1, 1) := by decide +kernel
theorem dX7_start_13 : decode cX7_start 13 = .ok (.iload_n 1, 1) := by decide +kernel
theorem dX7_start_14 : decode cX7_start 14 = .ok (.ishl, 1) := by decide +kernel
theorem dX7_start_15 : decode cX7_start 15 = .ok (.putfield 33, 3) := by decide +kernel
theorem dX7_start_18 : decode cX7_start 18 = .ok (.aload_n 0, 1) := by decide +kernel
theorem dX7_start_19 : decode cX7_start 19 = .ok (.iconst 0, 1) := by decide +kernel
theorem dX7_start_20 : decode cX7_start 20 = .ok (.putfield 74, 3) := by decide +kernel
theorem dX7_start_23 : decode cX7_start 23 = .ok (.aload_n 0, 1) := by decide +kernel
theorem dX7_start_24 : decode cX7_start 24 = .ok (.iconst 0, 1) := by decide +kernel
theorem dX7_start_25 : decode cX7_start 25 = .ok (.putfield 44, 3) := by decide +kernel
theorem dX7_start_28 : decode cX7_start 28 = .ok (.aload_n 0, 1) := by decide +kernel
theorem dX7_start_29 : decode cX7_start 29 = .ok (.invokevirtual 77, 3) := by decide +kernel
theorem dX7_start_32 : decode cX7_start 32 = .ok (.return_, 1) := by decide +kernel
set_option maxRecDepth 100000 in
set_option maxHeartbeats 4000000 in
theorem e_X7_start_33 (x1 x2 : Int) {σ : Mem} {Q : Int → Mem → Prop} (h : HT GC M_X7_spread [mr 33] (mupd (mupd (mupd (mupd σ 33 2 (jand x2 (jxor (jshl 1 x1) (-1)))) 33 3 (jshl 1 x1)) 33 4 0) 33 5 0) (fun _ σ29 => Q 0 σ29)) : HT GC M_X7_start [mr 33, mi x1, mi x2] σ Q := by
  refine HT.of pn_X7 (Nat.le_of_ble_eq_true rfl) ?_
  show WP GC M_X7_start 0 [some (mr 33), some (mi x1), some (mi x2)] [] σ Q
  refine WP.aload_n dX7_start_0 rfl ?_
  refine WP.iload_n dX7_start_1 rfl ?_
  refine WP.iconst dX7_start_2 (by decide) ?_
  refine WP.iload_n dX7_start_3 rfl ?_
  refine WP.ishl dX7_start_4 ?_
  refine WP.iconst dX7_start_5 (by decide) ?_
  refine WP.ixor dX7_start_6 ?_
  refine WP.iand dX7_start_7 ?_
  refine WP.put fp_X7_71 dX7_start_8 g33 rfl rfl rfl ?_
  refine WP.aload_n dX7_start_11 rfl ?_
  refine WP.iconst dX7_start_12 (by decide) ?_
  refine WP.iload_n dX7_start_13 rfl ?_
  refine WP.ishl dX7_start_14 ?_
  refine WP.put fp_X7_33 dX7_start_15 g33 rfl rfl rfl ?_
  refine WP.aload_n dX7_start_18 rfl ?_
  refine WP.iconst dX7_start_19 (by decide) ?_
  refine WP.put fp_X7_74 dX7_start_20 g33 rfl rfl rfl ?_
  refine WP.aload_n dX7_start_23 rfl ?_
  refine WP.iconst dX7_start_24 (by decide) ?_
  refine WP.put fp_X7_44 dX7_start_25 g33 rfl rfl rfl ?_
  refine WP.aload_n dX7_start_28 rfl ?_
  refine WP.callV M_X7_spread [] cv_X7_spread dX7_start_29 lk_X7_77 g33 rfl ft_X7_start__X7_spread rfl (Nat.le_of_ble_eq_true rfl) (HT.mono h ?_)
  rintro _ σ29 - - h
  exact WP.vret rfl dX7_start_32 h
theorem dX7_ring_0 : decode cX7_ring 0 = .ok (.aload_n 0, 1) := by decide +kernel
theorem dX7_ring_1 : decode cX7_ring 1 = .ok (.getfield 12, 3) := by decide +kernel
theorem dX7_ring_4 : decode cX7_ring 4 = .ok (.invokevirtual 80, 3) := by decide +kernel
theorem dX7_ring_7 : decode cX7_ring 7 = .ok (.iconst 0, 1) := by decide +kernel
theorem dX7_ring_8 : decode cX7_ring 8 = .ok (.istore_n 1, 1) := by decide +kernel
theorem dX7_ring_9 : decode cX7_ring 9 = .ok (.iload_n 1, 1) := by decide +kernel
theorem dX7_ring_10 : decode cX7_ring 10 = .ok (.aload_n 0, 1) := by decide +kernel
theorem dX7_ring_11 : decode cX7_ring 11 = .ok (.getfield 12, 3) := by decide +kernel
theorem dX7_ring_14 : decode cX7_ring 14 = .ok (.getfield 41, 3) := by decide +kernel
theorem dX7_ring_17 : decode cX7_ring 17 = .ok (.if_icmp .ge 41, 3) := by decide +kernel
theorem dX7_ring_20 : decode cX7_ring 20 = .ok (.aload_n 0, 1) := by decide +kernel
theorem dX7_ring_21 : decode cX7_ring 21 = .ok (.getfield 71, 3) := by decide +kernel
theorem dX7_ring_24 : decode cX7_ring 24 = .ok (.aload_n 0, 1) := by decide +kernel
theorem dX7_ring_25 : decode cX7_ring 25 = .ok (.getfield 12, 3) := by decide +kernel
theorem dX7_ring_28 : decode cX7_ring 28 = .ok (.iload_n 1, 1) := by decide +kernel
theorem dX7_ring_29 : decode cX7_ring 29 = .ok (.invokevirtual 47, 3) := by decide +kernel
theorem dX7_ring_32 : decode cX7_ring 32 = .ok (.ishr, 1) := by decide +kernel
theorem dX7_ring_33 : decode cX7_ring 33 = .ok (.iconst 1, 1) := by decide +kernel
theorem dX7_ring_34 : decode cX7_ring 34 = .ok (.iand, 1) := by decide +kernel
theorem dX7_ring_35 : decode cX7_ring 35 = .ok (.ifCond .eq 17, 3) := by decide +kernel
theorem dX7_ring_38 : decode cX7_ring 38 = .ok (.aload_n 0, 1) := by decide +kernel
theorem dX7_ring_39 : decode cX7_ring 39 = .ok (.dup, 1) := by decide +kernel
theorem dX7_ring_40 : decode cX7_ring 40 = .ok (.getfield 74, 3) := by decide +kernel
theorem dX7_ring_43 : decode cX7_ring 43 = .ok (.iconst 1, 1) := by decide +kernel
theorem dX7_ring_44 : decode cX7_ring 44 = .ok (.iload_n 1, 1) := by decide +kernel
theorem dX7_ring_45 : decode cX7_ring 45 = .ok (.ishl, 1) := by decide +kernel
theorem dX7_ring_46 : decode cX7_ring 46 = .ok (.iconst (-1), 1) := by decide +kernel
theorem dX7_ring_47 : decode cX7_ring 47 = .ok (.ixor, 1) := by decide +kernel
theorem dX7_ring_48 : decode cX7_ring 48 = .ok (.iand, 1) := by decide +kernel
theorem dX7_ring_49 : decode cX7_ring 49 = .ok (.putfield 74, 3) := by decide +kernel
theorem dX7_ring_52 : decode cX7_ring 52 = .ok (.iinc 1 1, 3) := by decide +kernel
theorem dX7_ring_55 : decode cX7_ring 55 = .ok (.goto (-46), 3) := by decide +kernel
theorem dX7_ring_58 : decode cX7_ring 58 = .ok (.aload_n 0, 1) := by decide +kernel
theorem dX7_ring_59 : decode cX7_ring 59 = .ok (.aload_n 0, 1) := by decide +kernel
theorem dX7_ring_60 : decode cX7_ring 60 = .ok (.getfield 74, 3) := by decide +kernel
theorem dX7_ring_63 : decode cX7_ring 63 = .ok (.putfield 44, 3) := by decide +kernel
theorem dX7_ring_66 : decode cX7_ring 66 = .ok (.aload_n 0, 1) := by decide +kernel
theorem dX7_ring_67 : decode cX7_ring 67 = .ok (.invokevirtual 77, 3) := by decide +kernel
theorem dX7_ring_70 : decode cX7_ring 70 = .ok (.return_, 1) := by decide +kernel
set_option maxRecDepth 100000 in
set_option maxHeartbeats 4000000 in
theorem e_X7_ring_33 {σ : Mem} {Q : Int → Mem → Prop} (h : HT GC M_X0_turnAll [mr 35] σ (fun _ σ4 => WP GC M_X7_ring 9 [some (mr 33), some (mi 0)] [] σ4 Q)) : HT GC M_X7_ring [mr 33] σ Q := by
  refine HT.of pn_X7 (Nat.le_of_ble_eq_true rfl) ?_
  show WP GC M_X7_ring 0 [some (mr 33), none] [] σ Q
  refine WP.aload_n dX7_ring_0 rfl ?_
  refine WP.getR fd_X7_12 dX7_ring_1 g33 rfl ?_
  refine WP.callV M_X0_turnAll [] cv_X0_turnAll dX7_ring_4 lk_X7_80 g35 rfl ft_X7_ring__X0_turnAll rfl (Nat.le_of_ble_eq_true rfl) (HT.mono h ?_)
  rintro _ σ4 - - h
  refine WP.iconst dX7_ring_7 (by decide) ?_
  refine WP.istore_n (L2 := [some (mr 33), some (mi 0)]) dX7_ring_8 (by decide) rfl ?_
  exact h
set_option maxRecDepth 100000 in
set_option maxHeartbeats 4000000 in
theorem b_X7_ring_33_9 (x1 : Int) {σ : Mem} {Q : Int → Mem → Prop} (h : (σ 35 0 ≤ x1 → HT GC M_X7_spread [mr 33] (mupd σ 33 5 (σ 33 4)) (fun _ σ67 => Q 0 σ67)) ∧ (¬ σ 35 0 ≤ x1 → HT GC M_X0_wearer [mr 35, mi x1] σ (fun r29 σ29 => (jand (jshr (σ 33 2) r29) 1 = 0 → WP GC M_X7_ring 52 [some (mr 33), some (mi x1)] [] σ29 Q) ∧ (¬ jand (jshr (σ 33 2) r29) 1 = 0 → WP GC M_X7_ring 52 [some (mr 33), some (mi x1)] [] (mupd σ29 33 4 (jand (σ29 33 4) (jxor (jshl 1 x1) (-1)))) Q)))) : WP GC M_X7_ring 9 [some (mr 33), some (mi x1)] [] σ Q := by
  refine WP.iload_n dX7_ring_9 rfl ?_
  refine WP.aload_n dX7_ring_10 rfl ?_
  refine WP.getR fd_X7_12 dX7_ring_11 g33 rfl ?_
  refine WP.getI (v := σ 35 0) fd_X7_41 dX7_ring_14 g35 rfl rfl ?_
  refine WP.icmp_ge (tgt := 58) dX7_ring_17 (by decide) (fun q => ?_) (fun q => ?_)
  · have h := h.1 q
    refine WP.aload_n dX7_ring_58 rfl ?_
    refine WP.aload_n dX7_ring_59 rfl ?_
    refine WP.getI (v := σ 33 4) fd_X7_74 dX7_ring_60 g33 rfl rfl ?_
    refine WP.put fp_X7_44 dX7_ring_63 g33 rfl rfl rfl ?_
    refine WP.aload_n dX7_ring_66 rfl ?_
    refine WP.callV M_X7_spread [] cv_X7_spread dX7_ring_67 lk_X7_77 g33 rfl ft_X7_ring__X7_spread rfl (Nat.le_of_ble_eq_true rfl) (HT.mono h ?_)
    rintro _ σ67 - - h
    exact WP.vret rfl dX7_ring_70 h
  · have h := h.2 q
    refine WP.aload_n dX7_ring_20 rfl ?_
    refine WP.getI (v := σ 33 2) fd_X7_71 dX7_ring_21 g33 rfl rfl ?_
    refine WP.aload_n dX7_ring_24 rfl ?_
    refine WP.getR fd_X7_12 dX7_ring_25 g33 rfl ?_
    refine WP.iload_n dX7_ring_28 rfl ?_
    refine WP.callV M_X0_wearer [mi x1] cv_X0_wearer dX7_ring_29 lk_X7_47 g35 rfl ft_X7_ring__X0_wearer rfl (Nat.le_of_ble_eq_true rfl) (HT.mono h ?_)
    rintro r29 σ29 - - h
    refine WP.ishr dX7_ring_32 ?_
    refine WP.iconst dX7_ring_33 (by decide) ?_
    refine WP.iand dX7_ring_34 ?_
    refine WP.if_eq (tgt := 52) dX7_ring_35 (by decide) (fun q => ?_) (fun q => ?_)
    · have h := h.1 q
      exact h
    · have h := h.2 q
      refine WP.aload_n dX7_ring_38 rfl ?_
      refine WP.dup dX7_ring_39 rfl ?_
      refine WP.getI (v := σ29 33 4) fd_X7_74 dX7_ring_40 g33 rfl rfl ?_
      refine WP.iconst dX7_ring_43 (by decide) ?_
      refine WP.iload_n dX7_ring_44 rfl ?_
      refine WP.ishl dX7_ring_45 ?_
      refine WP.iconst dX7_ring_46 (by decide) ?_
      refine WP.ixor dX7_ring_47 ?_
      refine WP.iand dX7_ring_48 ?_
      refine WP.put fp_X7_74 dX7_ring_49 g33 rfl rfl rfl ?_
      exact h
set_option maxRecDepth 100000 in
set_option maxHeartbeats 4000000 in
theorem b_X7_ring_33_52 (x1 : Int) {σ : Mem} {Q : Int → Mem → Prop} (h : WP GC M_X7_ring 9 [some (mr 33), some (mi (jadd x1 1))] [] σ Q) : WP GC M_X7_ring 52 [some (mr 33), some (mi x1)] [] σ Q := by
  refine WP.iinc (L2 := [some (mr 33), some (mi (jadd x1 1))]) dX7_ring_52 (by decide) rfl (by decide) rfl ?_
  refine WP.goto (tgt := 9) dX7_ring_55 (by decide) ?_
  exact h
theorem dX7_handsAfter_0 : decode cX7_handsAfter 0 = .ok (.aload_n 0, 1) := by decide +kernel
theorem dX7_handsAfter_1 : decode cX7_handsAfter 1 = .ok (.getfield 12, 3) := by decide +kernel
theorem dX7_handsAfter_4 : decode cX7_handsAfter 4 = .ok (.aload_n 1, 1) := by decide +kernel
theorem dX7_handsAfter_5 : decode cX7_handsAfter 5 = .ok (.invokevirtual 22, 3) := by decide +kernel
theorem dX7_handsAfter_8 : decode cX7_handsAfter 8 = .ok (.aload_n 0, 1) := by decide +kernel
theorem dX7_handsAfter_9 : decode cX7_handsAfter 9 = .ok (.iload_n 2, 1) := by decide +kernel
theorem dX7_handsAfter_10 : decode cX7_handsAfter 10 = .ok (.iload 4, 2) := by decide +kernel
theorem dX7_handsAfter_12 : decode cX7_handsAfter 12 = .ok (.invokevirtual 26, 3) := by decide +kernel
theorem dX7_handsAfter_15 : decode cX7_handsAfter 15 = .ok (.iconst 0, 1) := by decide +kernel
theorem dX7_handsAfter_16 : decode cX7_handsAfter 16 = .ok (.istore 5, 2) := by decide +kernel
theorem dX7_handsAfter_18 : decode cX7_handsAfter 18 = .ok (.iload 5, 2) := by decide +kernel
theorem dX7_handsAfter_20 : decode cX7_handsAfter 20 = .ok (.iload_n 3, 1) := by decide +kernel
theorem dX7_handsAfter_21 : decode cX7_handsAfter 21 = .ok (.if_icmp .ge 13, 3) := by decide +kernel
theorem dX7_handsAfter_24 : decode cX7_handsAfter 24 = .ok (.aload_n 0, 1) := by decide +kernel
theorem dX7_handsAfter_25 : decode cX7_handsAfter 25 = .ok (.invokevirtual 30, 3) := by decide +kernel
theorem dX7_handsAfter_28 : decode cX7_handsAfter 28 = .ok (.iinc 5 1, 3) := by decide +kernel
theorem dX7_handsAfter_31 : decode cX7_handsAfter 31 = .ok (.goto (-13), 3) := by decide +kernel
theorem dX7_handsAfter_34 : decode cX7_handsAfter 34 = .ok (.aload_n 0, 1) := by decide +kernel
theorem dX7_handsAfter_35 : decode cX7_handsAfter 35 = .ok (.getfield 33, 3) := by decide +kernel
theorem dX7_handsAfter_38 : decode cX7_handsAfter 38 = .ok (.ireturn, 1) := by decide +kernel
set_option maxRecDepth 100000 in
set_option maxHeartbeats 4000000 in
theorem e_X7_handsAfter_33_3 (x2 x3 x4 : Int) {σ : Mem} {Q : Int → Mem → Prop} (h : HT GC M_X0_become [mr 35, mr 3] σ (fun _ σ5 => HT GC M_X7_start [mr 33, mi x2, mi x4] σ5 (fun _ σ12 => WP GC M_X7_handsAfter 18 [some (mr 33), none, none, some (mi x3), none, some (mi 0)] [] σ12 Q))) : HT GC M_X7_handsAfter [mr 33, mr 3, mi x2, mi x3, mi x4] σ Q := by
  refine HT.of pn_X7 (Nat.le_of_ble_eq_true rfl) ?_
  show WP GC M_X7_handsAfter 0 [some (mr 33), some (mr 3), some (mi x2), some (mi x3), some (mi x4), none] [] σ Q
  refine WP.aload_n dX7_handsAfter_0 rfl ?_
  refine WP.getR fd_X7_12 dX7_handsAfter_1 g33 rfl ?_
  refine WP.aload_n dX7_handsAfter_4 rfl ?_
  refine WP.callV M_X0_become [mr 3] cv_X0_become dX7_handsAfter_5 lk_X7_22 g35 rfl ft_X7_handsAfter__X0_become rfl (Nat.le_of_ble_eq_true rfl) (HT.mono h ?_)
  rintro _ σ5 - - h
  refine WP.aload_n dX7_handsAfter_8 rfl ?_
  refine WP.iload_n dX7_handsAfter_9 rfl ?_
  refine WP.iload dX7_handsAfter_10 rfl ?_
  refine WP.callV M_X7_start [mi x2, mi x4] cv_X7_start dX7_handsAfter_12 lk_X7_26 g33 rfl ft_X7_handsAfter__X7_start rfl (Nat.le_of_ble_eq_true rfl) (HT.mono h ?_)
  rintro _ σ12 - - h
  refine WP.iconst dX7_handsAfter_15 (by decide) ?_
  refine WP.istore (L2 := [some (mr 33), some (mr 3), some (mi x2), some (mi x3), some (mi x4), some (mi 0)]) dX7_handsAfter_16 (by decide) rfl ?_
  refine WP.drop 1 (L2 := [some (mr 33), none, some (mi x2), some (mi x3), some (mi x4), some (mi 0)]) rfl ?_
  refine WP.drop 2 (L2 := [some (mr 33), none, none, some (mi x3), some (mi x4), some (mi 0)]) rfl ?_
  refine WP.drop 4 (L2 := [some (mr 33), none, none, some (mi x3), none, some (mi 0)]) rfl ?_
  exact h
set_option maxRecDepth 100000 in
set_option maxHeartbeats 4000000 in
theorem b_X7_handsAfter_33_3_18 (x3 x5 : Int) {σ : Mem} {Q : Int → Mem → Prop} (h : (x3 ≤ x5 → Q (σ 33 3) σ) ∧ (¬ x3 ≤ x5 → HT GC M_X7_ring [mr 33] σ (fun _ σ25 => WP GC M_X7_handsAfter 18 [some (mr 33), none, none, some (mi x3), none, some (mi (jadd x5 1))] [] σ25 Q))) : WP GC M_X7_handsAfter 18 [some (mr 33), none, none, some (mi x3), none, some (mi x5)] [] σ Q := by
  refine WP.iload dX7_handsAfter_18 rfl ?_
  refine WP.iload_n dX7_handsAfter_20 rfl ?_
  refine WP.icmp_ge (tgt := 34) dX7_handsAfter_21 (by decide) (fun q => ?_) (fun q => ?_)
  · have h := h.1 q
    refine WP.aload_n dX7_handsAfter_34 rfl ?_
    refine WP.getI (v := σ 33 3) fd_X7_33 dX7_handsAfter_35 g33 rfl rfl ?_
    exact WP.iret rfl dX7_handsAfter_38 h
  · have h := h.2 q
    refine WP.aload_n dX7_handsAfter_24 rfl ?_
    refine WP.callV M_X7_ring [] cv_X7_ring dX7_handsAfter_25 lk_X7_30 g33 rfl ft_X7_handsAfter__X7_ring rfl (Nat.le_of_ble_eq_true rfl) (HT.mono h ?_)
    rintro _ σ25 - - h
    refine WP.iinc (L2 := [some (mr 33), none, none, some (mi x3), none, some (mi (jadd x5 1))]) dX7_handsAfter_28 (by decide) rfl (by decide) rfl ?_
    refine WP.goto (tgt := 18) dX7_handsAfter_31 (by decide) ?_
    exact h
theorem dX7_bellsTo_0 : decode cX7_bellsTo 0 = .ok (.iconst 0, 1) := by decide +kernel
theorem dX7_bellsTo_1 : decode cX7_bellsTo 1 = .ok (.istore_n 3, 1) := by decide +kernel
theorem dX7_bellsTo_2 : decode cX7_bellsTo 2 = .ok (.iload_n 3, 1) := by decide +kernel
theorem dX7_bellsTo_3 : decode cX7_bellsTo 3 = .ok (.iload_n 2, 1) := by decide +kernel
theorem dX7_bellsTo_4 : decode cX7_bellsTo 4 = .ok (.if_icmp .gt 31, 3) := by decide +kernel
theorem dX7_bellsTo_7 : decode cX7_bellsTo 7 = .ok (.aload_n 0, 1) := by decide +kernel
theorem dX7_bellsTo_8 : decode cX7_bellsTo 8 = .ok (.getfield 33, 3) := by decide +kernel
theorem dX7_bellsTo_11 : decode cX7_bellsTo 11 = .ok (.iload_n 1, 1) := by decide +kernel
theorem dX7_bellsTo_12 : decode cX7_bellsTo 12 = .ok (.ishr, 1) := by decide +kernel
theorem dX7_bellsTo_13 : decode cX7_bellsTo 13 = .ok (.iconst 1, 1) := by decide +kernel
theorem dX7_bellsTo_14 : decode cX7_bellsTo 14 = .ok (.iand, 1) := by decide +kernel
theorem dX7_bellsTo_15 : decode cX7_bellsTo 15 = .ok (.ifCond .eq 5, 3) := by decide +kernel
theorem dX7_bellsTo_18 : decode cX7_bellsTo 18 = .ok (.iload_n 3, 1) := by decide +kernel
theorem dX7_bellsTo_19 : decode cX7_bellsTo 19 = .ok (.ireturn, 1) := by decide +kernel
theorem dX7_bellsTo_20 : decode cX7_bellsTo 20 = .ok (.iload_n 3, 1) := by decide +kernel
theorem dX7_bellsTo_21 : decode cX7_bellsTo 21 = .ok (.iload_n 2, 1) := by decide +kernel
theorem dX7_bellsTo_22 : decode cX7_bellsTo 22 = .ok (.if_icmp .ge 7, 3) := by decide +kernel
theorem dX7_bellsTo_25 : decode cX7_bellsTo 25 = .ok (.aload_n 0, 1) := by decide +kernel
theorem dX7_bellsTo_26 : decode cX7_bellsTo 26 = .ok (.invokevirtual 30, 3) := by decide +kernel
theorem dX7_bellsTo_29 : decode cX7_bellsTo 29 = .ok (.iinc 3 1, 3) := by decide +kernel
theorem dX7_bellsTo_32 : decode cX7_bellsTo 32 = .ok (.goto (-30), 3) := by decide +kernel
theorem dX7_bellsTo_35 : decode cX7_bellsTo 35 = .ok (.bipush (-4), 2) := by decide +kernel
theorem dX7_bellsTo_37 : decode cX7_bellsTo 37 = .ok (.ireturn, 1) := by decide +kernel
set_option maxRecDepth 100000 in
set_option maxHeartbeats 4000000 in
theorem e_X7_bellsTo_33 (x1 x2 : Int) {σ : Mem} {Q : Int → Mem → Prop} (h : WP GC M_X7_bellsTo 2 [some (mr 33), some (mi x1), some (mi x2), some (mi 0)] [] σ Q) : HT GC M_X7_bellsTo [mr 33, mi x1, mi x2] σ Q := by
  refine HT.of pn_X7 (Nat.le_of_ble_eq_true rfl) ?_
  show WP GC M_X7_bellsTo 0 [some (mr 33), some (mi x1), some (mi x2), none] [] σ Q
  refine WP.iconst dX7_bellsTo_0 (by decide) ?_
  refine WP.istore_n (L2 := [some (mr 33), some (mi x1), some (mi x2), some (mi 0)]) dX7_bellsTo_1 (by decide) rfl ?_
  exact h
set_option maxRecDepth 100000 in
set_option maxHeartbeats 4000000 in
theorem b_X7_bellsTo_33_2 (x1 x2 x3 : Int) {σ : Mem} {Q : Int → Mem → Prop} (h : (x2 < x3 → Q (-4) σ) ∧ (¬ x2 < x3 → (jand (jshr (σ 33 3) x1) 1 = 0 → (x2 ≤ x3 → WP GC M_X7_bellsTo 29 [some (mr 33), some (mi x1), some (mi x2), some (mi x3)] [] σ Q) ∧ (¬ x2 ≤ x3 → HT GC M_X7_ring [mr 33] σ (fun _ σ26 => WP GC M_X7_bellsTo 29 [some (mr 33), some (mi x1), some (mi x2), some (mi x3)] [] σ26 Q))) ∧ (¬ jand (jshr (σ 33 3) x1) 1 = 0 → Q x3 σ))) : WP GC M_X7_bellsTo 2 [some (mr 33), some (mi x1), some (mi x2), some (mi x3)] [] σ Q := by
  refine WP.iload_n dX7_bellsTo_2 rfl ?_
  refine WP.iload_n dX7_bellsTo_3 rfl ?_
  refine WP.icmp_gt (tgt := 35) dX7_bellsTo_4 (by decide) (fun q => ?_) (fun q => ?_)
  · have h := h.1 q
    refine WP.bipush dX7_bellsTo_35 (by decide) bp_m4 ?_
    exact WP.iret rfl dX7_bellsTo_37 h
  · have h := h.2 q
    refine WP.aload_n dX7_bellsTo_7 rfl ?_
    refine WP.getI (v := σ 33 3) fd_X7_33 dX7_bellsTo_8 g33 rfl rfl ?_
    refine WP.iload_n dX7_bellsTo_11 rfl ?_
    refine WP.ishr dX7_bellsTo_12 ?_
    refine WP.iconst dX7_bellsTo_13 (by decide) ?_
    refine WP.iand dX7_bellsTo_14 ?_
    refine WP.if_eq (tgt := 20) dX7_bellsTo_15 (by decide) (fun q => ?_) (fun q => ?_)
    · have h := h.1 q
      refine WP.iload_n dX7_bellsTo_20 rfl ?_
      refine WP.iload_n dX7_bellsTo_21 rfl ?_
      refine WP.icmp_ge (tgt := 29) dX7_bellsTo_22 (by decide) (fun q => ?_) (fun q => ?_)
      · have h := h.1 q
        exact h
      · have h := h.2 q
        refine WP.aload_n dX7_bellsTo_25 rfl ?_
        refine WP.callV M_X7_ring [] cv_X7_ring dX7_bellsTo_26 lk_X7_30 g33 rfl ft_X7_bellsTo__X7_ring rfl (Nat.le_of_ble_eq_true rfl) (HT.mono h ?_)
        rintro _ σ26 - - h
        exact h
    · have h := h.2 q
      refine WP.iload_n dX7_bellsTo_18 rfl ?_
      exact WP.iret rfl dX7_bellsTo_19 h
set_option maxRecDepth 100000 in
set_option maxHeartbeats 4000000 in
theorem b_X7_bellsTo_33_29 (x1 x2 x3 : Int) {σ : Mem} {Q : Int → Mem → Prop} (h : WP GC M_X7_bellsTo 2 [some (mr 33), some (mi x1), some (mi x2), some (mi (jadd x3 1))] [] σ Q) : WP GC M_X7_bellsTo 29 [some (mr 33), some (mi x1), some (mi x2), some (mi x3)] [] σ Q := by
  refine WP.iinc (L2 := [some (mr 33), some (mi x1), some (mi x2), some (mi (jadd x3 1))]) dX7_bellsTo_29 (by decide) rfl (by decide) rfl ?_
  refine WP.goto (tgt := 2) dX7_bellsTo_32 (by decide) ?_
  exact h
theorem dX7_fewestBells_0 : decode cX7_fewestBells 0 = .ok (.aload_n 0, 1) := by decide +kernel
theorem dX7_fewestBells_1 : decode cX7_fewestBells 1 = .ok (.getfield 12, 3) := by decide +kernel
theorem dX7_fewestBells_4 : decode cX7_fewestBells 4 = .ok (.aload_n 1, 1) := by decide +kernel
theorem dX7_fewestBells_5 : decode cX7_fewestBells 5 = .ok (.invokevirtual 22, 3) := by decide +kernel
theorem dX7_fewestBells_8 : decode cX7_fewestBells 8 = .ok (.aload_n 0, 1) := by decide +kernel
theorem dX7_fewestBells_9 : decode cX7_fewestBells 9 = .ok (.iload_n 2, 1) := by decide +kernel
theorem dX7_fewestBells_10 : decode cX7_fewestBells 10 = .ok (.iload 4, 2) := by decide +kernel
theorem dX7_fewestBells_12 : decode cX7_fewestBells 12 = .ok (.invokevirtual 26, 3) := by decide +kernel
theorem dX7_fewestBells_15 : decode cX7_fewestBells 15 = .ok (.aload_n 0, 1) := by decide +kernel
theorem dX7_fewestBells_16 : decode cX7_fewestBells 16 = .ok (.iload_n 3, 1) := by decide +kernel
theorem dX7_fewestBells_17 : decode cX7_fewestBells 17 = .ok (.bipush 24, 2) := by decide +kernel
theorem dX7_fewestBells_19 : decode cX7_fewestBells 19 = .ok (.invokevirtual 37, 3) := by decide +kernel
theorem dX7_fewestBells_22 : decode cX7_fewestBells 22 = .ok (.ireturn, 1) := by decide +kernel
set_option maxRecDepth 100000 in
set_option maxHeartbeats 4000000 in
theorem e_X7_fewestBells_33_3 (x2 x3 x4 : Int) {σ : Mem} {Q : Int → Mem → Prop} (h : HT GC M_X0_become [mr 35, mr 3] σ (fun _ σ5 => HT GC M_X7_start [mr 33, mi x2, mi x4] σ5 (fun _ σ12 => HT GC M_X7_bellsTo [mr 33, mi x3, mi 24] σ12 (fun r19 σ19 => Q r19 σ19)))) : HT GC M_X7_fewestBells [mr 33, mr 3, mi x2, mi x3, mi x4] σ Q := by
  refine HT.of pn_X7 (Nat.le_of_ble_eq_true rfl) ?_
  show WP GC M_X7_fewestBells 0 [some (mr 33), some (mr 3), some (mi x2), some (mi x3), some (mi x4)] [] σ Q
  refine WP.aload_n dX7_fewestBells_0 rfl ?_
  refine WP.getR fd_X7_12 dX7_fewestBells_1 g33 rfl ?_
  refine WP.aload_n dX7_fewestBells_4 rfl ?_
  refine WP.callV M_X0_become [mr 3] cv_X0_become dX7_fewestBells_5 lk_X7_22 g35 rfl ft_X7_fewestBells__X0_become rfl (Nat.le_of_ble_eq_true rfl) (HT.mono h ?_)
  rintro _ σ5 - - h
  refine WP.aload_n dX7_fewestBells_8 rfl ?_
  refine WP.iload_n dX7_fewestBells_9 rfl ?_
  refine WP.iload dX7_fewestBells_10 rfl ?_
  refine WP.callV M_X7_start [mi x2, mi x4] cv_X7_start dX7_fewestBells_12 lk_X7_26 g33 rfl ft_X7_fewestBells__X7_start rfl (Nat.le_of_ble_eq_true rfl) (HT.mono h ?_)
  rintro _ σ12 - - h
  refine WP.aload_n dX7_fewestBells_15 rfl ?_
  refine WP.iload_n dX7_fewestBells_16 rfl ?_
  refine WP.bipush dX7_fewestBells_17 (by decide) bp_24 ?_
  refine WP.callV M_X7_bellsTo [mi x3, mi 24] cv_X7_bellsTo dX7_fewestBells_19 lk_X7_37 g33 rfl ft_X7_fewestBells__X7_bellsTo rfl (Nat.le_of_ble_eq_true rfl) (HT.mono h ?_)
  rintro r19 σ19 - - h
  exact WP.iret rfl dX7_fewestBells_22 h
theorem dX7_comingTo_0 : decode cX7_comingTo 0 = .ok (.iconst 0, 1) := by decide +kernel
theorem dX7_comingTo_1 : decode cX7_comingTo 1 = .ok (.istore_n 2, 1) := by decide +kernel
theorem dX7_comingTo_2 : decode cX7_comingTo 2 = .ok (.iconst 0, 1) := by decide +kernel
theorem dX7_comingTo_3 : decode cX7_comingTo 3 = .ok (.istore_n 3, 1) := by decide +kernel
theorem dX7_comingTo_4 : decode cX7_comingTo 4 = .ok (.iload_n 3, 1) := by decide +kernel
theorem dX7_comingTo_5 : decode cX7_comingTo 5 = .ok (.aload_n 0, 1) := by decide +kernel
theorem dX7_comingTo_6 : decode cX7_comingTo 6 = .ok (.getfield 12, 3) := by decide +kernel
theorem dX7_comingTo_9 : decode cX7_comingTo 9 = .ok (.getfield 41, 3) := by decide +kernel
theorem dX7_comingTo_12 : decode cX7_comingTo 12 = .ok (.if_icmp .ge 38, 3) := by decide +kernel
theorem dX7_comingTo_15 : decode cX7_comingTo 15 = .ok (.aload_n 0, 1) := by decide +kernel
theorem dX7_comingTo_16 : decode cX7_comingTo 16 = .ok (.getfield 44, 3) := by decide +kernel
theorem dX7_comingTo_19 : decode cX7_comingTo 19 = .ok (.iload_n 3, 1) := by decide +kernel
theorem dX7_comingTo_20 : decode cX7_comingTo 20 = .ok (.ishr, 1) := by decide +kernel
theorem dX7_comingTo_21 : decode cX7_comingTo 21 = .ok (.iconst 1, 1) := by decide +kernel
theorem dX7_comingTo_22 : decode cX7_comingTo 22 = .ok (.iand, 1) := by decide +kernel
theorem dX7_comingTo_23 : decode cX7_comingTo 23 = .ok (.ifCond .eq 21, 3) := by decide +kernel
theorem dX7_comingTo_26 : decode cX7_comingTo 26 = .ok (.aload_n 0, 1) := by decide +kernel
theorem dX7_comingTo_27 : decode cX7_comingTo 27 = .ok (.getfield 12, 3) := by decide +kernel
theorem dX7_comingTo_30 : decode cX7_comingTo 30 = .ok (.iload_n 3, 1) := by decide +kernel
theorem dX7_comingTo_31 : decode cX7_comingTo 31 = .ok (.invokevirtual 47, 3) := by decide +kernel
theorem dX7_comingTo_34 : decode cX7_comingTo 34 = .ok (.iload_n 1, 1) := by decide +kernel
theorem dX7_comingTo_35 : decode cX7_comingTo 35 = .ok (.if_icmp .ne 9, 3) := by decide +kernel
theorem dX7_comingTo_38 : decode cX7_comingTo 38 = .ok (.iload_n 2, 1) := by decide +kernel
theorem dX7_comingTo_39 : decode cX7_comingTo 39 = .ok (.iconst 1, 1) := by decide +kernel
theorem dX7_comingTo_40 : decode cX7_comingTo 40 = .ok (.iload_n 3, 1) := by decide +kernel
theorem dX7_comingTo_41 : decode cX7_comingTo 41 = .ok (.ishl, 1) := by decide +kernel
theorem dX7_comingTo_42 : decode cX7_comingTo 42 = .ok (.ior, 1) := by decide +kernel
theorem dX7_comingTo_43 : decode cX7_comingTo 43 = .ok (.istore_n 2, 1) := by decide +kernel
theorem dX7_comingTo_44 : decode cX7_comingTo 44 = .ok (.iinc 3 1, 3) := by decide +kernel
theorem dX7_comingTo_47 : decode cX7_comingTo 47 = .ok (.goto (-43), 3) := by decide +kernel
theorem dX7_comingTo_50 : decode cX7_comingTo 50 = .ok (.iload_n 2, 1) := by decide +kernel
theorem dX7_comingTo_51 : decode cX7_comingTo 51 = .ok (.ireturn, 1) := by decide +kernel
set_option maxRecDepth 100000 in
set_option maxHeartbeats 4000000 in
theorem e_X7_comingTo_33 (x1 : Int) {σ : Mem} {Q : Int → Mem → Prop} (h : WP GC M_X7_comingTo 4 [some (mr 33), some (mi x1), some (mi 0), some (mi 0)] [] σ Q) : HT GC M_X7_comingTo [mr 33, mi x1] σ Q := by
  refine HT.of pn_X7 (Nat.le_of_ble_eq_true rfl) ?_
  show WP GC M_X7_comingTo 0 [some (mr 33), some (mi x1), none, none] [] σ Q
  refine WP.iconst dX7_comingTo_0 (by decide) ?_
  refine WP.istore_n (L2 := [some (mr 33), some (mi x1), some (mi 0), none]) dX7_comingTo_1 (by decide) rfl ?_
  refine WP.iconst dX7_comingTo_2 (by decide) ?_
  refine WP.istore_n (L2 := [some (mr 33), some (mi x1), some (mi 0), some (mi 0)]) dX7_comingTo_3 (by decide) rfl ?_
  exact h
set_option maxRecDepth 100000 in
set_option maxHeartbeats 4000000 in
theorem b_X7_comingTo_33_4 (x1 x2 x3 : Int) {σ : Mem} {Q : Int → Mem → Prop} (h : (σ 35 0 ≤ x3 → Q x2 σ) ∧ (¬ σ 35 0 ≤ x3 → (jand (jshr (σ 33 5) x3) 1 = 0 → WP GC M_X7_comingTo 44 [some (mr 33), some (mi x1), some (mi x2), some (mi x3)] [] σ Q) ∧ (¬ jand (jshr (σ 33 5) x3) 1 = 0 → HT GC M_X0_wearer [mr 35, mi x3] σ (fun r31 σ31 => (¬ r31 = x1 → WP GC M_X7_comingTo 44 [some (mr 33), some (mi x1), some (mi x2), some (mi x3)] [] σ31 Q) ∧ (r31 = x1 → WP GC M_X7_comingTo 44 [some (mr 33), some (mi x1), some (mi (jor x2 (jshl 1 x3))), some (mi x3)] [] σ31 Q))))) : WP GC M_X7_comingTo 4 [some (mr 33), some (mi x1), some (mi x2), some (mi x3)] [] σ Q := by
  refine WP.iload_n dX7_comingTo_4 rfl ?_
  refine WP.aload_n dX7_comingTo_5 rfl ?_
  refine WP.getR fd_X7_12 dX7_comingTo_6 g33 rfl ?_
  refine WP.getI (v := σ 35 0) fd_X7_41 dX7_comingTo_9 g35 rfl rfl ?_
  refine WP.icmp_ge (tgt := 50) dX7_comingTo_12 (by decide) (fun q => ?_) (fun q => ?_)
  · have h := h.1 q
    refine WP.iload_n dX7_comingTo_50 rfl ?_
    exact WP.iret rfl dX7_comingTo_51 h
  · have h := h.2 q
    refine WP.aload_n dX7_comingTo_15 rfl ?_
    refine WP.getI (v := σ 33 5) fd_X7_44 dX7_comingTo_16 g33 rfl rfl ?_
    refine WP.iload_n dX7_comingTo_19 rfl ?_
    refine WP.ishr dX7_comingTo_20 ?_
    refine WP.iconst dX7_comingTo_21 (by decide) ?_
    refine WP.iand dX7_comingTo_22 ?_
    refine WP.if_eq (tgt := 44) dX7_comingTo_23 (by decide) (fun q => ?_) (fun q => ?_)
    · have h := h.1 q
      exact h
    · have h := h.2 q
      refine WP.aload_n dX7_comingTo_26 rfl ?_
      refine WP.getR fd_X7_12 dX7_comingTo_27 g33 rfl ?_
      refine WP.iload_n dX7_comingTo_30 rfl ?_
      refine WP.callV M_X0_wearer [mi x3] cv_X0_wearer dX7_comingTo_31 lk_X7_47 g35 rfl ft_X7_comingTo__X0_wearer rfl (Nat.le_of_ble_eq_true rfl) (HT.mono h ?_)
      rintro r31 σ31 - - h
      refine WP.iload_n dX7_comingTo_34 rfl ?_
      refine WP.icmp_ne (tgt := 44) dX7_comingTo_35 (by decide) (fun q => ?_) (fun q => ?_)
      · have h := h.1 q
        exact h
      · have h := h.2 q
        refine WP.iload_n dX7_comingTo_38 rfl ?_
        refine WP.iconst dX7_comingTo_39 (by decide) ?_
        refine WP.iload_n dX7_comingTo_40 rfl ?_
        refine WP.ishl dX7_comingTo_41 ?_
        refine WP.ior dX7_comingTo_42 ?_
        refine WP.istore_n (L2 := [some (mr 33), some (mi x1), some (mi (jor x2 (jshl 1 x3))), some (mi x3)]) dX7_comingTo_43 (by decide) rfl ?_
        exact h
set_option maxRecDepth 100000 in
set_option maxHeartbeats 4000000 in
theorem b_X7_comingTo_33_44 (x1 x2 x3 : Int) {σ : Mem} {Q : Int → Mem → Prop} (h : WP GC M_X7_comingTo 4 [some (mr 33), some (mi x1), some (mi x2), some (mi (jadd x3 1))] [] σ Q) : WP GC M_X7_comingTo 44 [some (mr 33), some (mi x1), some (mi x2), some (mi x3)] [] σ Q := by
  refine WP.iinc (L2 := [some (mr 33), some (mi x1), some (mi x2), some (mi (jadd x3 1))]) dX7_comingTo_44 (by decide) rfl (by decide) rfl ?_
  refine WP.goto (tgt := 4) dX7_comingTo_47 (by decide) ?_
  exact h
theorem dX7_dealBest_0 : decode cX7_dealBest 0 = .ok (.bipush (-4), 2) := by decide +kernel
theorem dX7_dealBest_2 : decode cX7_dealBest 2 = .ok (.istore 5, 2) := by decide +kernel
theorem dX7_dealBest_4 : decode cX7_dealBest 4 = .ok (.aload_n 0, 1) := by decide +kernel
theorem dX7_dealBest_5 : decode cX7_dealBest 5 = .ok (.getfield 12, 3) := by decide +kernel
theorem dX7_dealBest_8 : decode cX7_dealBest 8 = .ok (.aload_n 1, 1) := by decide +kernel
theorem dX7_dealBest_9 : decode cX7_dealBest 9 = .ok (.invokevirtual 22, 3) := by decide +kernel
theorem dX7_dealBest_12 : decode cX7_dealBest 12 = .ok (.aload_n 0, 1) := by decide +kernel
theorem dX7_dealBest_13 : decode cX7_dealBest 13 = .ok (.getfield 12, 3) := by decide +kernel
theorem dX7_dealBest_16 : decode cX7_dealBest 16 = .ok (.iload_n 2, 1) := by decide +kernel
theorem dX7_dealBest_17 : decode cX7_dealBest 17 = .ok (.invokevirtual 51, 3) := by decide +kernel
theorem dX7_dealBest_20 : decode cX7_dealBest 20 = .ok (.iconst 1, 1) := by decide +kernel
theorem dX7_dealBest_21 : decode cX7_dealBest 21 = .ok (.istore 6, 2) := by decide +kernel
theorem dX7_dealBest_23 : decode cX7_dealBest 23 = .ok (.iconst 0, 1) := by decide +kernel
theorem dX7_dealBest_24 : decode cX7_dealBest 24 = .ok (.istore 7, 2) := by decide +kernel
theorem dX7_dealBest_26 : decode cX7_dealBest 26 = .ok (.iload 7, 2) := by decide +kernel
theorem dX7_dealBest_28 : decode cX7_dealBest 28 = .ok (.bipush 24, 2) := by decide +kernel
theorem dX7_dealBest_30 : decode cX7_dealBest 30 = .ok (.if_icmp .ge 111, 3) := by decide +kernel
theorem dX7_dealBest_33 : decode cX7_dealBest 33 = .ok (.iload 6, 2) := by decide +kernel
theorem dX7_dealBest_35 : decode cX7_dealBest 35 = .ok (.ifCond .eq 106, 3) := by decide +kernel
theorem dX7_dealBest_38 : decode cX7_dealBest 38 = .ok (.aload_n 1, 1) := by decide +kernel
theorem dX7_dealBest_39 : decode cX7_dealBest 39 = .ok (.getfield 55, 3) := by decide +kernel
theorem dX7_dealBest_42 : decode cX7_dealBest 42 = .ok (.iconst 0, 1) := by decide +kernel
theorem dX7_dealBest_43 : decode cX7_dealBest 43 = .ok (.aload_n 0, 1) := by decide +kernel
theorem dX7_dealBest_44 : decode cX7_dealBest 44 = .ok (.getfield 12, 3) := by decide +kernel
theorem dX7_dealBest_47 : decode cX7_dealBest 47 = .ok (.getfield 55, 3) := by decide +kernel
theorem dX7_dealBest_50 : decode cX7_dealBest 50 = .ok (.iconst 0, 1) := by decide +kernel
theorem dX7_dealBest_51 : decode cX7_dealBest 51 = .ok (.iconst 4, 1) := by decide +kernel
theorem dX7_dealBest_52 : decode cX7_dealBest 52 = .ok (.invokestatic 58, 3) := by decide +kernel
theorem dX7_dealBest_55 : decode cX7_dealBest 55 = .ok (.aload_n 0, 1) := by decide +kernel
theorem dX7_dealBest_56 : decode cX7_dealBest 56 = .ok (.getfield 12, 3) := by decide +kernel
theorem dX7_dealBest_59 : decode cX7_dealBest 59 = .ok (.getfield 55, 3) := by decide +kernel
theorem dX7_dealBest_62 : decode cX7_dealBest 62 = .ok (.iload_n 2, 1) := by decide +kernel
theorem dX7_dealBest_63 : decode cX7_dealBest 63 = .ok (.iconst 0, 1) := by decide +kernel
theorem dX7_dealBest_64 : decode cX7_dealBest 64 = .ok (.iastore, 1) := by decide +kernel
theorem dX7_dealBest_65 : decode cX7_dealBest 65 = .ok (.aload_n 0, 1) := by decide +kernel
theorem dX7_dealBest_66 : decode cX7_dealBest 66 = .ok (.iload_n 3, 1) := by decide +kernel
theorem dX7_dealBest_67 : decode cX7_dealBest 67 = .ok (.iconst 0, 1) := by decide +kernel
theorem dX7_dealBest_68 : decode cX7_dealBest 68 = .ok (.invokevirtual 26, 3) := by decide +kernel
theorem dX7_dealBest_71 : decode cX7_dealBest 71 = .ok (.aload_n 0, 1) := by decide +kernel
theorem dX7_dealBest_72 : decode cX7_dealBest 72 = .ok (.iload 4, 2) := by decide +kernel
theorem dX7_dealBest_74 : decode cX7_dealBest 74 = .ok (.iload 5, 2) := by decide +kernel
theorem dX7_dealBest_76 : decode cX7_dealBest 76 = .ok (.bipush (-4), 2) := by decide +kernel
theorem dX7_dealBest_78 : decode cX7_dealBest 78 = .ok (.if_icmp .ne 8, 3) := by decide +kernel
theorem dX7_dealBest_81 : decode cX7_dealBest 81 = .ok (.bipush 24, 2) := by decide +kernel
theorem dX7_dealBest_83 : decode cX7_dealBest 83 = .ok (.goto 7, 3) := by decide +kernel
theorem dX7_dealBest_86 : decode cX7_dealBest 86 = .ok (.iload 5, 2) := by decide +kernel
theorem dX7_dealBest_88 : decode cX7_dealBest 88 = .ok (.iconst 1, 1) := by decide +kernel
theorem dX7_dealBest_89 : decode cX7_dealBest 89 = .ok (.isub, 1) := by decide +kernel
theorem dX7_dealBest_90 : decode cX7_dealBest 90 = .ok (.invokevirtual 37, 3) := by decide +kernel
theorem dX7_dealBest_93 : decode cX7_dealBest 93 = .ok (.istore 8, 2) := by decide +kernel
theorem dX7_dealBest_95 : decode cX7_dealBest 95 = .ok (.iload 8, 2) := by decide +kernel
theorem dX7_dealBest_97 : decode cX7_dealBest 97 = .ok (.bipush (-4), 2) := by decide +kernel
theorem dX7_dealBest_99 : decode cX7_dealBest 99 = .ok (.if_icmp .eq 26, 3) := by decide +kernel
theorem dX7_dealBest_102 : decode cX7_dealBest 102 = .ok (.iload 8, 2) := by decide +kernel
theorem dX7_dealBest_104 : decode cX7_dealBest 104 = .ok (.istore 5, 2) := by decide +kernel
theorem dX7_dealBest_106 : decode cX7_dealBest 106 = .ok (.aload_n 0, 1) := by decide +kernel
theorem dX7_dealBest_107 : decode cX7_dealBest 107 = .ok (.getfield 12, 3) := by decide +kernel
theorem dX7_dealBest_110 : decode cX7_dealBest 110 = .ok (.getfield 64, 3) := by decide +kernel
theorem dX7_dealBest_113 : decode cX7_dealBest 113 = .ok (.iload_n 2, 1) := by decide +kernel
theorem dX7_dealBest_114 : decode cX7_dealBest 114 = .ok (.iconst 4, 1) := by decide +kernel
theorem dX7_dealBest_115 : decode cX7_dealBest 115 = .ok (.imul, 1) := by decide +kernel
theorem dX7_dealBest_116 : decode cX7_dealBest 116 = .ok (.aload_n 0, 1) := by decide +kernel
theorem dX7_dealBest_117 : decode cX7_dealBest 117 = .ok (.getfield 18, 3) := by decide +kernel
theorem dX7_dealBest_120 : decode cX7_dealBest 120 = .ok (.iconst 0, 1) := by decide +kernel
theorem dX7_dealBest_121 : decode cX7_dealBest 121 = .ok (.iconst 4, 1) := by decide +kernel
theorem dX7_dealBest_122 : decode cX7_dealBest 122 = .ok (.invokestatic 58, 3) := by decide +kernel
theorem dX7_dealBest_125 : decode cX7_dealBest 125 = .ok (.aload_n 0, 1) := by decide +kernel
theorem dX7_dealBest_126 : decode cX7_dealBest 126 = .ok (.getfield 12, 3) := by decide +kernel
theorem dX7_dealBest_129 : decode cX7_dealBest 129 = .ok (.iload_n 2, 1) := by decide +kernel
theorem dX7_dealBest_130 : decode cX7_dealBest 130 = .ok (.invokevirtual 67, 3) := by decide +kernel
theorem dX7_dealBest_133 : decode cX7_dealBest 133 = .ok (.istore 6, 2) := by decide +kernel
theorem dX7_dealBest_135 : decode cX7_dealBest 135 = .ok (.iinc 7 1, 3) := by decide +kernel
theorem dX7_dealBest_138 : decode cX7_dealBest 138 = .ok (.goto (-112), 3) := by decide +kernel
theorem dX7_dealBest_141 : decode cX7_dealBest 141 = .ok (.iload 5, 2) := by decide +kernel
theorem dX7_dealBest_143 : decode cX7_dealBest 143 = .ok (.ireturn, 1) := by decide +kernel
set_option maxRecDepth 100000 in
set_option maxHeartbeats 4000000 in
theorem e_X7_dealBest_33_3 (x2 x3 x4 : Int) {σ : Mem} {Q : Int → Mem → Prop} (h : HT GC M_X0_become [mr 35, mr 3] σ (fun _ σ9 => HT GC M_X0_sortTurn [mr 35, mi x2] σ9 (fun _ σ17 => WP GC M_X7_dealBest 26 [some (mr 33), some (mr 3), some (mi x2), some (mi x3), some (mi x4), some (mi (-4)), some (mi 1), some (mi 0), none] [] σ17 Q))) : HT GC M_X7_dealBest [mr 33, mr 3, mi x2, mi x3, mi x4] σ Q := by
  refine HT.of pn_X7 (Nat.le_of_ble_eq_true rfl) ?_
  show WP GC M_X7_dealBest 0 [some (mr 33), some (mr 3), some (mi x2), some (mi x3), some (mi x4), none, none, none, none] [] σ Q
  refine WP.bipush dX7_dealBest_0 (by decide) bp_m4 ?_
  refine WP.istore (L2 := [some (mr 33), some (mr 3), some (mi x2), some (mi x3), some (mi x4), some (mi (-4)), none, none, none]) dX7_dealBest_2 (by decide) rfl ?_
  refine WP.aload_n dX7_dealBest_4 rfl ?_
  refine WP.getR fd_X7_12 dX7_dealBest_5 g33 rfl ?_
  refine WP.aload_n dX7_dealBest_8 rfl ?_
  refine WP.callV M_X0_become [mr 3] cv_X0_become dX7_dealBest_9 lk_X7_22 g35 rfl ft_X7_dealBest__X0_become rfl (Nat.le_of_ble_eq_true rfl) (HT.mono h ?_)
  rintro _ σ9 - - h
  refine WP.aload_n dX7_dealBest_12 rfl ?_
  refine WP.getR fd_X7_12 dX7_dealBest_13 g33 rfl ?_
  refine WP.iload_n dX7_dealBest_16 rfl ?_
  refine WP.callV M_X0_sortTurn [mi x2] cv_X0_sortTurn dX7_dealBest_17 lk_X7_51 g35 rfl ft_X7_dealBest__X0_sortTurn rfl (Nat.le_of_ble_eq_true rfl) (HT.mono h ?_)
  rintro _ σ17 - - h
  refine WP.iconst dX7_dealBest_20 (by decide) ?_
  refine WP.istore (L2 := [some (mr 33), some (mr 3), some (mi x2), some (mi x3), some (mi x4), some (mi (-4)), some (mi 1), none, none]) dX7_dealBest_21 (by decide) rfl ?_
  refine WP.iconst dX7_dealBest_23 (by decide) ?_
  refine WP.istore (L2 := [some (mr 33), some (mr 3), some (mi x2), some (mi x3), some (mi x4), some (mi (-4)), some (mi 1), some (mi 0), none]) dX7_dealBest_24 (by decide) rfl ?_
  exact h
set_option maxRecDepth 100000 in
set_option maxHeartbeats 4000000 in
theorem b_X7_dealBest_33_3_26 (x2 x3 x4 x5 x6 x7 : Int) {σ : Mem} {Q : Int → Mem → Prop} (h : (24 ≤ x7 → Q x5 σ) ∧ (¬ 24 ≤ x7 → (x6 = 0 → Q x5 σ) ∧ (¬ x6 = 0 → (0 ≤ x2 ∧ x2 < 4) ∧ (HT GC M_X7_start [mr 33, mi x3, mi 0] (mupd (mcpy σ 6 0 38 0 4) 38 x2 0) (fun _ σ68 => (¬ x5 = (-4) → WP GC M_X7_dealBest 90 [some (mr 33), some (mr 3), some (mi x2), some (mi x3), some (mi x4), some (mi x5), none, some (mi x7), none] [mi (jsub x5 1), mi x4, mr 33] σ68 Q) ∧ (x5 = (-4) → WP GC M_X7_dealBest 90 [some (mr 33), some (mr 3), some (mi x2), some (mi x3), some (mi x4), some (mi x5), none, some (mi x7), none] [mi 24, mi x4, mr 33] σ68 Q)))))) : WP GC M_X7_dealBest 26 [some (mr 33), some (mr 3), some (mi x2), some (mi x3), some (mi x4), some (mi x5), some (mi x6), some (mi x7), none] [] σ Q := by
  refine WP.iload dX7_dealBest_26 rfl ?_
  refine WP.bipush dX7_dealBest_28 (by decide) bp_24 ?_
  refine WP.icmp_ge (tgt := 141) dX7_dealBest_30 (by decide) (fun q => ?_) (fun q => ?_)
  · have h := h.1 q
    refine WP.iload dX7_dealBest_141 rfl ?_
    exact WP.iret rfl dX7_dealBest_143 h
  · have h := h.2 q
    refine WP.iload dX7_dealBest_33 rfl ?_
    refine WP.if_eq (tgt := 141) dX7_dealBest_35 (by decide) (fun q => ?_) (fun q => ?_)
    · have h := h.1 q
      refine WP.iload dX7_dealBest_141 rfl ?_
      exact WP.iret rfl dX7_dealBest_143 h
    · have h := h.2 q
      refine WP.aload_n dX7_dealBest_38 rfl ?_
      refine WP.getR fd_X7_55 dX7_dealBest_39 g3 rfl ?_
      refine WP.iconst dX7_dealBest_42 (by decide) ?_
      refine WP.aload_n dX7_dealBest_43 rfl ?_
      refine WP.getR fd_X7_12 dX7_dealBest_44 g33 rfl ?_
      refine WP.getR fd_X7_55 dX7_dealBest_47 g35 rfl ?_
      refine WP.iconst dX7_dealBest_50 (by decide) ?_
      refine WP.iconst dX7_dealBest_51 (by decide) ?_
      refine WP.acopy ac_X7_58 dX7_dealBest_52 g6 g38 (by decide) (by decide) (Nat.le_of_ble_eq_true rfl) ?_
      refine WP.aload_n dX7_dealBest_55 rfl ?_
      refine WP.getR fd_X7_12 dX7_dealBest_56 g33 rfl ?_
      refine WP.getR fd_X7_55 dX7_dealBest_59 g35 rfl ?_
      refine WP.iload_n dX7_dealBest_62 rfl ?_
      refine WP.iconst dX7_dealBest_63 (by decide) ?_
      obtain ⟨hi, h⟩ := h
      refine WP.iast dX7_dealBest_64 g38 hi ?_
      refine WP.aload_n dX7_dealBest_65 rfl ?_
      refine WP.iload_n dX7_dealBest_66 rfl ?_
      refine WP.iconst dX7_dealBest_67 (by decide) ?_
      refine WP.callV M_X7_start [mi x3, mi 0] cv_X7_start dX7_dealBest_68 lk_X7_26 g33 rfl ft_X7_dealBest__X7_start rfl (Nat.le_of_ble_eq_true rfl) (HT.mono h ?_)
      rintro _ σ68 - - h
      refine WP.aload_n dX7_dealBest_71 rfl ?_
      refine WP.iload dX7_dealBest_72 rfl ?_
      refine WP.iload dX7_dealBest_74 rfl ?_
      refine WP.bipush dX7_dealBest_76 (by decide) bp_m4 ?_
      refine WP.icmp_ne (tgt := 86) dX7_dealBest_78 (by decide) (fun q => ?_) (fun q => ?_)
      · have h := h.1 q
        refine WP.iload dX7_dealBest_86 rfl ?_
        refine WP.iconst dX7_dealBest_88 (by decide) ?_
        refine WP.isub dX7_dealBest_89 ?_
        refine WP.drop 6 (L2 := [some (mr 33), some (mr 3), some (mi x2), some (mi x3), some (mi x4), some (mi x5), none, some (mi x7), none]) rfl ?_
        exact h
      · have h := h.2 q
        refine WP.bipush dX7_dealBest_81 (by decide) bp_24 ?_
        refine WP.goto (tgt := 90) dX7_dealBest_83 (by decide) ?_
        refine WP.drop 6 (L2 := [some (mr 33), some (mr 3), some (mi x2), some (mi x3), some (mi x4), some (mi x5), none, some (mi x7), none]) rfl ?_
        exact h
set_option maxRecDepth 100000 in
set_option maxHeartbeats 4000000 in
theorem b_X7_dealBest_33_3_90 (x2 x3 x4 x5 x7 s0 s1 : Int) {σ : Mem} {Q : Int → Mem → Prop} (h : HT GC M_X7_bellsTo [mr 33, mi s1, mi s0] σ (fun r90 σ90 => (r90 = (-4) → WP GC M_X7_dealBest 125 [some (mr 33), some (mr 3), some (mi x2), some (mi x3), some (mi x4), some (mi x5), none, some (mi x7), none] [] σ90 Q) ∧ (¬ r90 = (-4) → ((0 : Int) ≤ jmul x2 4 ∧ (0 : Int) ≤ 0 ∧ (0 : Int) ≤ 4 ∧ (jmul x2 4 : Int) + 4 ≤ 16 ∧ (0 : Int) + 4 ≤ 4) ∧ (WP GC M_X7_dealBest 125 [some (mr 33), some (mr 3), some (mi x2), some (mi x3), some (mi x4), some (mi r90), none, some (mi x7), none] [] (mcpy σ90 36 (jmul x2 4) 34 0 4) Q)))) : WP GC M_X7_dealBest 90 [some (mr 33), some (mr 3), some (mi x2), some (mi x3), some (mi x4), some (mi x5), none, some (mi x7), none] [mi s0, mi s1, mr 33] σ Q := by
  refine WP.callV M_X7_bellsTo [mi s1, mi s0] cv_X7_bellsTo dX7_dealBest_90 lk_X7_37 g33 rfl ft_X7_dealBest__X7_bellsTo rfl (Nat.le_of_ble_eq_true rfl) (HT.mono h ?_)
  rintro r90 σ90 - - h
  refine WP.istore (L2 := [some (mr 33), some (mr 3), some (mi x2), some (mi x3), some (mi x4), some (mi x5), none, some (mi x7), some (mi r90)]) dX7_dealBest_93 (by decide) rfl ?_
  refine WP.iload dX7_dealBest_95 rfl ?_
  refine WP.bipush dX7_dealBest_97 (by decide) bp_m4 ?_
  refine WP.icmp_eq (tgt := 125) dX7_dealBest_99 (by decide) (fun q => ?_) (fun q => ?_)
  · have h := h.1 q
    refine WP.drop 8 (L2 := [some (mr 33), some (mr 3), some (mi x2), some (mi x3), some (mi x4), some (mi x5), none, some (mi x7), none]) rfl ?_
    exact h
  · have h := h.2 q
    refine WP.iload dX7_dealBest_102 rfl ?_
    refine WP.istore (L2 := [some (mr 33), some (mr 3), some (mi x2), some (mi x3), some (mi x4), some (mi r90), none, some (mi x7), some (mi r90)]) dX7_dealBest_104 (by decide) rfl ?_
    refine WP.aload_n dX7_dealBest_106 rfl ?_
    refine WP.getR fd_X7_12 dX7_dealBest_107 g33 rfl ?_
    refine WP.getR fd_X7_64 dX7_dealBest_110 g35 rfl ?_
    refine WP.iload_n dX7_dealBest_113 rfl ?_
    refine WP.iconst dX7_dealBest_114 (by decide) ?_
    refine WP.imul dX7_dealBest_115 ?_
    refine WP.aload_n dX7_dealBest_116 rfl ?_
    refine WP.getR fd_X7_18 dX7_dealBest_117 g33 rfl ?_
    refine WP.iconst dX7_dealBest_120 (by decide) ?_
    refine WP.iconst dX7_dealBest_121 (by decide) ?_
    obtain ⟨hi, h⟩ := h
    refine WP.acopy ac_X7_58 dX7_dealBest_122 g36 g34 hi (by decide) (Nat.le_of_ble_eq_true rfl) ?_
    refine WP.drop 8 (L2 := [some (mr 33), some (mr 3), some (mi x2), some (mi x3), some (mi x4), some (mi r90), none, some (mi x7), none]) rfl ?_
    exact h
set_option maxRecDepth 100000 in
set_option maxHeartbeats 4000000 in
theorem b_X7_dealBest_33_3_125 (x2 x3 x4 x5 x7 : Int) {σ : Mem} {Q : Int → Mem → Prop} (h : HT GC M_X0_nextOrder [mr 35, mi x2] σ (fun r130 σ130 => WP GC M_X7_dealBest 26 [some (mr 33), some (mr 3), some (mi x2), some (mi x3), some (mi x4), some (mi x5), some (mi r130), some (mi (jadd x7 1)), none] [] σ130 Q)) : WP GC M_X7_dealBest 125 [some (mr 33), some (mr 3), some (mi x2), some (mi x3), some (mi x4), some (mi x5), none, some (mi x7), none] [] σ Q := by
  refine WP.aload_n dX7_dealBest_125 rfl ?_
  refine WP.getR fd_X7_12 dX7_dealBest_126 g33 rfl ?_
  refine WP.iload_n dX7_dealBest_129 rfl ?_
  refine WP.callV M_X0_nextOrder [mi x2] cv_X0_nextOrder dX7_dealBest_130 lk_X7_67 g35 rfl ft_X7_dealBest__X0_nextOrder rfl (Nat.le_of_ble_eq_true rfl) (HT.mono h ?_)
  rintro r130 σ130 - - h
  refine WP.istore (L2 := [some (mr 33), some (mr 3), some (mi x2), some (mi x3), some (mi x4), some (mi x5), some (mi r130), some (mi x7), none]) dX7_dealBest_133 (by decide) rfl ?_
  refine WP.iinc (L2 := [some (mr 33), some (mr 3), some (mi x2), some (mi x3), some (mi x4), some (mi x5), some (mi r130), some (mi (jadd x7 1)), none]) dX7_dealBest_135 (by decide) rfl (by decide) rfl ?_
  refine WP.goto (tgt := 26) dX7_dealBest_138 (by decide) ?_
  exact h
theorem dX4_balanceOf_0 : decode cX4_balanceOf 0 = .ok (.iconst 0, 1) := by decide +kernel
theorem dX4_balanceOf_1 : decode cX4_balanceOf 1 = .ok (.istore_n 2, 1) := by decide +kernel
theorem dX4_balanceOf_2 : decode cX4_balanceOf 2 = .ok (.iconst 0, 1) := by decide +kernel
theorem dX4_balanceOf_3 : decode cX4_balanceOf 3 = .ok (.istore_n 3, 1) := by decide +kernel
theorem dX4_balanceOf_4 : decode cX4_balanceOf 4 = .ok (.iload_n 3, 1) := by decide +kernel
theorem dX4_balanceOf_5 : decode cX4_balanceOf 5 = .ok (.bipush 8, 2) := by decide +kernel
theorem dX4_balanceOf_7 : decode cX4_balanceOf 7 = .ok (.if_icmp .ge 35, 3) := by decide +kernel
theorem dX4_balanceOf_10 : decode cX4_balanceOf 10 = .ok (.iload_n 2, 1) := by decide +kernel
theorem dX4_balanceOf_11 : decode cX4_balanceOf 11 = .ok (.aload_n 0, 1) := by decide +kernel
theorem dX4_balanceOf_12 : decode cX4_balanceOf 12 = .ok (.getfield 25, 3) := by decide +kernel
theorem dX4_balanceOf_15 : decode cX4_balanceOf 15 = .ok (.iload_n 3, 1) := by decide +kernel
theorem dX4_balanceOf_16 : decode cX4_balanceOf 16 = .ok (.bipush 8, 2) := by decide +kernel
theorem dX4_balanceOf_18 : decode cX4_balanceOf 18 = .ok (.imul, 1) := by decide +kernel
theorem dX4_balanceOf_19 : decode cX4_balanceOf 19 = .ok (.iload_n 1, 1) := by decide +kernel
theorem dX4_balanceOf_20 : decode cX4_balanceOf 20 = .ok (.iadd, 1) := by decide +kernel
theorem dX4_balanceOf_21 : decode cX4_balanceOf 21 = .ok (.iaload, 1) := by decide +kernel
theorem dX4_balanceOf_22 : decode cX4_balanceOf 22 = .ok (.aload_n 0, 1) := by decide +kernel
theorem dX4_balanceOf_23 : decode cX4_balanceOf 23 = .ok (.getfield 25, 3) := by decide +kernel
theorem dX4_balanceOf_26 : decode cX4_balanceOf 26 = .ok (.iload_n 1, 1) := by decide +kernel
theorem dX4_balanceOf_27 : decode cX4_balanceOf 27 = .ok (.bipush 8, 2) := by decide +kernel
theorem dX4_balanceOf_29 : decode cX4_balanceOf 29 = .ok (.imul, 1) := by decide +kernel
theorem dX4_balanceOf_30 : decode cX4_balanceOf 30 = .ok (.iload_n 3, 1) := by decide +kernel
theorem dX4_balanceOf_31 : decode cX4_balanceOf 31 = .ok (.iadd, 1) := by decide +kernel
theorem dX4_balanceOf_32 : decode cX4_balanceOf 32 = .ok (.iaload, 1) := by decide +kernel
theorem dX4_balanceOf_33 : decode cX4_balanceOf 33 = .ok (.isub, 1) := by decide +kernel
theorem dX4_balanceOf_34 : decode cX4_balanceOf 34 = .ok (.iadd, 1) := by decide +kernel
theorem dX4_balanceOf_35 : decode cX4_balanceOf 35 = .ok (.istore_n 2, 1) := by decide +kernel
theorem dX4_balanceOf_36 : decode cX4_balanceOf 36 = .ok (.iinc 3 1, 3) := by decide +kernel
theorem dX4_balanceOf_39 : decode cX4_balanceOf 39 = .ok (.goto (-35), 3) := by decide +kernel
theorem dX4_balanceOf_42 : decode cX4_balanceOf 42 = .ok (.iload_n 2, 1) := by decide +kernel
theorem dX4_balanceOf_43 : decode cX4_balanceOf 43 = .ok (.ireturn, 1) := by decide +kernel
set_option maxRecDepth 100000 in
set_option maxHeartbeats 4000000 in
theorem e_X4_balanceOf_1 (x1 : Int) {σ : Mem} {Q : Int → Mem → Prop} (h : WP GC M_X4_balanceOf 4 [some (mr 1), some (mi x1), some (mi 0), some (mi 0)] [] σ Q) : HT GC M_X4_balanceOf [mr 1, mi x1] σ Q := by
  refine HT.of pn_X4 (Nat.le_of_ble_eq_true rfl) ?_
  show WP GC M_X4_balanceOf 0 [some (mr 1), some (mi x1), none, none] [] σ Q
  refine WP.iconst dX4_balanceOf_0 (by decide) ?_
  refine WP.istore_n (L2 := [some (mr 1), some (mi x1), some (mi 0), none]) dX4_balanceOf_1 (by decide) rfl ?_
  refine WP.iconst dX4_balanceOf_2 (by decide) ?_
  refine WP.istore_n (L2 := [some (mr 1), some (mi x1), some (mi 0), some (mi 0)]) dX4_balanceOf_3 (by decide) rfl ?_
  exact h
set_option maxRecDepth 100000 in
set_option maxHeartbeats 4000000 in
theorem b_X4_balanceOf_1_4 (x1 x2 x3 : Int) {σ : Mem} {Q : Int → Mem → Prop} (h : (8 ≤ x3 → Q x2 σ) ∧ (¬ 8 ≤ x3 → (0 ≤ jadd (jmul x3 8) x1 ∧ jadd (jmul x3 8) x1 < 64) ∧ ((0 ≤ jadd (jmul x1 8) x3 ∧ jadd (jmul x1 8) x3 < 64) ∧ (WP GC M_X4_balanceOf 4 [some (mr 1), some (mi x1), some (mi (jadd x2 (jsub (σ 2 (jadd (jmul x3 8) x1)) (σ 2 (jadd (jmul x1 8) x3))))), some (mi (jadd x3 1))] [] σ Q)))) : WP GC M_X4_balanceOf 4 [some (mr 1), some (mi x1), some (mi x2), some (mi x3)] [] σ Q := by
  refine WP.iload_n dX4_balanceOf_4 rfl ?_
  refine WP.bipush dX4_balanceOf_5 (by decide) bp_8 ?_
  refine WP.icmp_ge (tgt := 42) dX4_balanceOf_7 (by decide) (fun q => ?_) (fun q => ?_)
  · have h := h.1 q
    refine WP.iload_n dX4_balanceOf_42 rfl ?_
    exact WP.iret rfl dX4_balanceOf_43 h
  · have h := h.2 q
    refine WP.iload_n dX4_balanceOf_10 rfl ?_
    refine WP.aload_n dX4_balanceOf_11 rfl ?_
    refine WP.getR fd_X4_25 dX4_balanceOf_12 g1 rfl ?_
    refine WP.iload_n dX4_balanceOf_15 rfl ?_
    refine WP.bipush dX4_balanceOf_16 (by decide) bp_8 ?_
    refine WP.imul dX4_balanceOf_18 ?_
    refine WP.iload_n dX4_balanceOf_19 rfl ?_
    refine WP.iadd dX4_balanceOf_20 ?_
    obtain ⟨hi, h⟩ := h
    refine WP.iald dX4_balanceOf_21 g2 hi ?_
    refine WP.aload_n dX4_balanceOf_22 rfl ?_
    refine WP.getR fd_X4_25 dX4_balanceOf_23 g1 rfl ?_
    refine WP.iload_n dX4_balanceOf_26 rfl ?_
    refine WP.bipush dX4_balanceOf_27 (by decide) bp_8 ?_
    refine WP.imul dX4_balanceOf_29 ?_
    refine WP.iload_n dX4_balanceOf_30 rfl ?_
    refine WP.iadd dX4_balanceOf_31 ?_
    obtain ⟨hi, h⟩ := h
    refine WP.iald dX4_balanceOf_32 g2 hi ?_
    refine WP.isub dX4_balanceOf_33 ?_
    refine WP.iadd dX4_balanceOf_34 ?_
    refine WP.istore_n (L2 := [some (mr 1), some (mi x1), some (mi (jadd x2 (jsub (σ 2 (jadd (jmul x3 8) x1)) (σ 2 (jadd (jmul x1 8) x3))))), some (mi x3)]) dX4_balanceOf_35 (by decide) rfl ?_
    refine WP.iinc (L2 := [some (mr 1), some (mi x1), some (mi (jadd x2 (jsub (σ 2 (jadd (jmul x3 8) x1)) (σ 2 (jadd (jmul x1 8) x3))))), some (mi (jadd x3 1))]) dX4_balanceOf_36 (by decide) rfl (by decide) rfl ?_
    refine WP.goto (tgt := 4) dX4_balanceOf_39 (by decide) ?_
    exact h
theorem dX1_mostSets_0 : decode cX1_mostSets 0 = .ok (.aload_n 0, 1) := by decide +kernel
theorem dX1_mostSets_1 : decode cX1_mostSets 1 = .ok (.getfield 18, 3) := by decide +kernel
theorem dX1_mostSets_4 : decode cX1_mostSets 4 = .ok (.iconst 0, 1) := by decide +kernel
theorem dX1_mostSets_5 : decode cX1_mostSets 5 = .ok (.iconst 0, 1) := by decide +kernel
theorem dX1_mostSets_6 : decode cX1_mostSets 6 = .ok (.iastore, 1) := by decide +kernel
theorem dX1_mostSets_7 : decode cX1_mostSets 7 = .ok (.aload_n 0, 1) := by decide +kernel
theorem dX1_mostSets_8 : decode cX1_mostSets 8 = .ok (.getfield 21, 3) := by decide +kernel
theorem dX1_mostSets_11 : decode cX1_mostSets 11 = .ok (.iconst 0, 1) := by decide +kernel
theorem dX1_mostSets_12 : decode cX1_mostSets 12 = .ok (.iconst 0, 1) := by decide +kernel
theorem dX1_mostSets_13 : decode cX1_mostSets 13 = .ok (.iastore, 1) := by decide +kernel
theorem dX1_mostSets_14 : decode cX1_mostSets 14 = .ok (.iconst 1, 1) := by decide +kernel
theorem dX1_mostSets_15 : decode cX1_mostSets 15 = .ok (.istore_n 2, 1) := by decide +kernel
theorem dX1_mostSets_16 : decode cX1_mostSets 16 = .ok (.iload_n 2, 1) := by decide +kernel
theorem dX1_mostSets_17 : decode cX1_mostSets 17 = .ok (.iconst 1, 1) := by decide +kernel
theorem dX1_mostSets_18 : decode cX1_mostSets 18 = .ok (.iload_n 1, 1) := by decide +kernel
theorem dX1_mostSets_19 : decode cX1_mostSets 19 = .ok (.ishl, 1) := by decide +kernel
theorem dX1_mostSets_20 : decode cX1_mostSets 20 = .ok (.if_icmp .ge 98, 3) := by decide +kernel
theorem dX1_mostSets_23 : decode cX1_mostSets 23 = .ok (.iconst 0, 1) := by decide +kernel
theorem dX1_mostSets_24 : decode cX1_mostSets 24 = .ok (.istore_n 3, 1) := by decide +kernel
theorem dX1_mostSets_25 : decode cX1_mostSets 25 = .ok (.iconst 0, 1) := by decide +kernel
theorem dX1_mostSets_26 : decode cX1_mostSets 26 = .ok (.istore 4, 2) := by decide +kernel
theorem dX1_mostSets_28 : decode cX1_mostSets 28 = .ok (.iload 4, 2) := by decide +kernel
theorem dX1_mostSets_30 : decode cX1_mostSets 30 = .ok (.iload_n 1, 1) := by decide +kernel
theorem dX1_mostSets_31 : decode cX1_mostSets 31 = .ok (.if_icmp .ge 59, 3) := by decide +kernel
theorem dX1_mostSets_34 : decode cX1_mostSets 34 = .ok (.iload_n 2, 1) := by decide +kernel
theorem dX1_mostSets_35 : decode cX1_mostSets 35 = .ok (.iload 4, 2) := by decide +kernel
theorem dX1_mostSets_37 : decode cX1_mostSets 37 = .ok (.ishr, 1) := by decide +kernel
theorem dX1_mostSets_38 : decode cX1_mostSets 38 = .ok (.iconst 1, 1) := by decide +kernel
theorem dX1_mostSets_39 : decode cX1_mostSets 39 = .ok (.iand, 1) := by decide +kernel
theorem dX1_mostSets_40 : decode cX1_mostSets 40 = .ok (.ifCond .eq 44, 3) := by decide +kernel
theorem dX1_mostSets_43 : decode cX1_mostSets 43 = .ok (.aload_n 0, 1) := by decide +kernel
theorem dX1_mostSets_44 : decode cX1_mostSets 44 = .ok (.getfield 18, 3) := by decide +kernel
theorem dX1_mostSets_47 : decode cX1_mostSets 47 = .ok (.iload_n 2, 1) := by decide +kernel
theorem dX1_mostSets_48 : decode cX1_mostSets 48 = .ok (.aload_n 0, 1) := by decide +kernel
theorem dX1_mostSets_49 : decode cX1_mostSets 49 = .ok (.getfield 18, 3) := by decide +kernel
theorem dX1_mostSets_52 : decode cX1_mostSets 52 = .ok (.iload_n 2, 1) := by decide +kernel
theorem dX1_mostSets_53 : decode cX1_mostSets 53 = .ok (.iconst 1, 1) := by decide +kernel
theorem dX1_mostSets_54 : decode cX1_mostSets 54 = .ok (.iload 4, 2) := by decide +kernel
theorem dX1_mostSets_56 : decode cX1_mostSets 56 = .ok (.ishl, 1) := by decide +kernel
theorem dX1_mostSets_57 : decode cX1_mostSets 57 = .ok (.ixor, 1) := by decide +kernel
theorem dX1_mostSets_58 : decode cX1_mostSets 58 = .ok (.iaload, 1) := by decide +kernel
theorem dX1_mostSets_59 : decode cX1_mostSets 59 = .ok (.aload_n 0, 1) := by decide +kernel
theorem dX1_mostSets_60 : decode cX1_mostSets 60 = .ok (.getfield 15, 3) := by decide +kernel
theorem dX1_mostSets_63 : decode cX1_mostSets 63 = .ok (.iload 4, 2) := by decide +kernel
theorem dX1_mostSets_65 : decode cX1_mostSets 65 = .ok (.iaload, 1) := by decide +kernel
theorem dX1_mostSets_66 : decode cX1_mostSets 66 = .ok (.iadd, 1) := by decide +kernel
theorem dX1_mostSets_67 : decode cX1_mostSets 67 = .ok (.iastore, 1) := by decide +kernel
theorem dX1_mostSets_68 : decode cX1_mostSets 68 = .ok (.iload_n 3, 1) := by decide +kernel
theorem dX1_mostSets_69 : decode cX1_mostSets 69 = .ok (.aload_n 0, 1) := by decide +kernel
theorem dX1_mostSets_70 : decode cX1_mostSets 70 = .ok (.getfield 21, 3) := by decide +kernel
theorem dX1_mostSets_73 : decode cX1_mostSets 73 = .ok (.iload_n 2, 1) := by decide +kernel
theorem dX1_mostSets_74 : decode cX1_mostSets 74 = .ok (.iconst 1, 1) := by decide +kernel
theorem dX1_mostSets_75 : decode cX1_mostSets 75 = .ok (.iload 4, 2) := by decide +kernel
theorem dX1_mostSets_77 : decode cX1_mostSets 77 = .ok (.ishl, 1) := by decide +kernel
theorem dX1_mostSets_78 : decode cX1_mostSets 78 = .ok (.ixor, 1) := by decide +kernel
theorem dX1_mostSets_79 : decode cX1_mostSets 79 = .ok (.iaload, 1) := by decide +kernel
theorem dX1_mostSets_80 : decode cX1_mostSets 80 = .ok (.invokestatic 53, 3) := by decide +kernel
theorem dX1_mostSets_83 : decode cX1_mostSets 83 = .ok (.istore_n 3, 1) := by decide +kernel
theorem dX1_mostSets_84 : decode cX1_mostSets 84 = .ok (.iinc 4 1, 3) := by decide +kernel
theorem dX1_mostSets_87 : decode cX1_mostSets 87 = .ok (.goto (-59), 3) := by decide +kernel
theorem dX1_mostSets_90 : decode cX1_mostSets 90 = .ok (.aload_n 0, 1) := by decide +kernel
theorem dX1_mostSets_91 : decode cX1_mostSets 91 = .ok (.getfield 21, 3) := by decide +kernel
theorem dX1_mostSets_94 : decode cX1_mostSets 94 = .ok (.iload_n 2, 1) := by decide +kernel
theorem dX1_mostSets_95 : decode cX1_mostSets 95 = .ok (.aload_n 0, 1) := by decide +kernel
theorem dX1_mostSets_96 : decode cX1_mostSets 96 = .ok (.getfield 18, 3) := by decide +kernel
theorem dX1_mostSets_99 : decode cX1_mostSets 99 = .ok (.iload_n 2, 1) := by decide +kernel
theorem dX1_mostSets_100 : decode cX1_mostSets 100 = .ok (.iaload, 1) := by decide +kernel
theorem dX1_mostSets_101 : decode cX1_mostSets 101 = .ok (.ifCond .ne 9, 3) := by decide +kernel
theorem dX1_mostSets_104 : decode cX1_mostSets 104 = .ok (.iload_n 3, 1) := by decide +kernel
theorem dX1_mostSets_105 : decode cX1_mostSets 105 = .ok (.iconst 1, 1) := by decide +kernel
theorem dX1_mostSets_106 : decode cX1_mostSets 106 = .ok (.iadd, 1) := by decide +kernel
theorem dX1_mostSets_107 : decode cX1_mostSets 107 = .ok (.goto 4, 3) := by decide +kernel
theorem dX1_mostSets_110 : decode cX1_mostSets 110 = .ok (.iload_n 3, 1) := by decide +kernel
theorem dX1_mostSets_111 : decode cX1_mostSets 111 = .ok (.iastore, 1) := by decide +kernel
theorem dX1_mostSets_112 : decode cX1_mostSets 112 = .ok (.iinc 2 1, 3) := by decide +kernel
theorem dX1_mostSets_115 : decode cX1_mostSets 115 = .ok (.goto (-99), 3) := by decide +kernel
theorem dX1_mostSets_118 : decode cX1_mostSets 118 = .ok (.aload_n 0, 1) := by decide +kernel
theorem dX1_mostSets_119 : decode cX1_mostSets 119 = .ok (.getfield 21, 3) := by decide +kernel
theorem dX1_mostSets_122 : decode cX1_mostSets 122 = .ok (.iconst 1, 1) := by decide +kernel
theorem dX1_mostSets_123 : decode cX1_mostSets 123 = .ok (.iload_n 1, 1) := by decide +kernel
theorem dX1_mostSets_124 : decode cX1_mostSets 124 = .ok (.ishl, 1) := by decide +kernel
theorem dX1_mostSets_125 : decode cX1_mostSets 125 = .ok (.iconst 1, 1) := by decide +kernel
theorem dX1_mostSets_126 : decode cX1_mostSets 126 = .ok (.isub, 1) := by decide +kernel
theorem dX1_mostSets_127 : decode cX1_mostSets 127 = .ok (.iaload, 1) := by decide +kernel
theorem dX1_mostSets_128 : decode cX1_mostSets 128 = .ok (.ireturn, 1) := by decide +kernel
set_option maxRecDepth 100000 in
set_option maxHeartbeats 4000000 in
theorem e_X1_mostSets_40 (x1 : Int) {σ : Mem} {Q : Int → Mem → Prop} (h : WP GC M_X1_mostSets 16 [some (mr 40), some (mi x1), some (mi 1), none, none] [] (mupd (mupd σ 43 0 0) 44 0 0) Q) : HT GC M_X1_mostSets [mr 40, mi x1] σ Q := by
  refine HT.of pn_X1 (Nat.le_of_ble_eq_true rfl) ?_
  show WP GC M_X1_mostSets 0 [some (mr 40), some (mi x1), none, none, none] [] σ Q
  refine WP.aload_n dX1_mostSets_0 rfl ?_
  refine WP.getR fd_X1_18 dX1_mostSets_1 g40 rfl ?_
  refine WP.iconst dX1_mostSets_4 (by decide) ?_
  refine WP.iconst dX1_mostSets_5 (by decide) ?_
  refine WP.iast dX1_mostSets_6 g43 (by decide) ?_
  refine WP.aload_n dX1_mostSets_7 rfl ?_
  refine WP.getR fd_X1_21 dX1_mostSets_8 g40 rfl ?_
  refine WP.iconst dX1_mostSets_11 (by decide) ?_
  refine WP.iconst dX1_mostSets_12 (by decide) ?_
  refine WP.iast dX1_mostSets_13 g44 (by decide) ?_
  refine WP.iconst dX1_mostSets_14 (by decide) ?_
  refine WP.istore_n (L2 := [some (mr 40), some (mi x1), some (mi 1), none, none]) dX1_mostSets_15 (by decide) rfl ?_
  exact h
set_option maxRecDepth 100000 in
set_option maxHeartbeats 4000000 in
theorem b_X1_mostSets_40_16 (x1 x2 : Int) {σ : Mem} {Q : Int → Mem → Prop} (h : (jshl 1 x1 ≤ x2 → (0 ≤ jsub (jshl 1 x1) 1 ∧ jsub (jshl 1 x1) 1 < 256) ∧ (Q (σ 44 (jsub (jshl 1 x1) 1)) σ)) ∧ (¬ jshl 1 x1 ≤ x2 → WP GC M_X1_mostSets 28 [some (mr 40), some (mi x1), some (mi x2), some (mi 0), some (mi 0)] [] σ Q)) : WP GC M_X1_mostSets 16 [some (mr 40), some (mi x1), some (mi x2), none, none] [] σ Q := by
  refine WP.iload_n dX1_mostSets_16 rfl ?_
  refine WP.iconst dX1_mostSets_17 (by decide) ?_
  refine WP.iload_n dX1_mostSets_18 rfl ?_
  refine WP.ishl dX1_mostSets_19 ?_
  refine WP.icmp_ge (tgt := 118) dX1_mostSets_20 (by decide) (fun q => ?_) (fun q => ?_)
  · have h := h.1 q
    refine WP.aload_n dX1_mostSets_118 rfl ?_
    refine WP.getR fd_X1_21 dX1_mostSets_119 g40 rfl ?_
    refine WP.iconst dX1_mostSets_122 (by decide) ?_
    refine WP.iload_n dX1_mostSets_123 rfl ?_
    refine WP.ishl dX1_mostSets_124 ?_
    refine WP.iconst dX1_mostSets_125 (by decide) ?_
    refine WP.isub dX1_mostSets_126 ?_
    obtain ⟨hi, h⟩ := h
    refine WP.iald dX1_mostSets_127 g44 hi ?_
    exact WP.iret rfl dX1_mostSets_128 h
  · have h := h.2 q
    refine WP.iconst dX1_mostSets_23 (by decide) ?_
    refine WP.istore_n (L2 := [some (mr 40), some (mi x1), some (mi x2), some (mi 0), none]) dX1_mostSets_24 (by decide) rfl ?_
    refine WP.iconst dX1_mostSets_25 (by decide) ?_
    refine WP.istore (L2 := [some (mr 40), some (mi x1), some (mi x2), some (mi 0), some (mi 0)]) dX1_mostSets_26 (by decide) rfl ?_
    exact h
set_option maxRecDepth 100000 in
set_option maxHeartbeats 4000000 in
theorem b_X1_mostSets_40_28 (x1 x2 x3 x4 : Int) {σ : Mem} {Q : Int → Mem → Prop} (h : (x1 ≤ x4 → (0 ≤ x2 ∧ x2 < 256) ∧ ((¬ σ 43 x2 = 0 → WP GC M_X1_mostSets 111 [some (mr 40), some (mi x1), some (mi x2), none, none] [mi x3, mi x2, mr 44] σ Q) ∧ (σ 43 x2 = 0 → WP GC M_X1_mostSets 111 [some (mr 40), some (mi x1), some (mi x2), none, none] [mi (jadd x3 1), mi x2, mr 44] σ Q))) ∧ (¬ x1 ≤ x4 → (jand (jshr x2 x4) 1 = 0 → WP GC M_X1_mostSets 84 [some (mr 40), some (mi x1), some (mi x2), some (mi x3), some (mi x4)] [] σ Q) ∧ (¬ jand (jshr x2 x4) 1 = 0 → (0 ≤ jxor x2 (jshl 1 x4) ∧ jxor x2 (jshl 1 x4) < 256) ∧ ((0 ≤ x4 ∧ x4 < 8) ∧ ((0 ≤ x2 ∧ x2 < 256) ∧ ((0 ≤ jxor x2 (jshl 1 x4) ∧ jxor x2 (jshl 1 x4) < 256) ∧ (WP GC M_X1_mostSets 84 [some (mr 40), some (mi x1), some (mi x2), some (mi (jmax x3 (σ 44 (jxor x2 (jshl 1 x4))))), some (mi x4)] [] (mupd σ 43 x2 (jadd (σ 43 (jxor x2 (jshl 1 x4))) (σ 42 x4))) Q))))))) : WP GC M_X1_mostSets 28 [some (mr 40), some (mi x1), some (mi x2), some (mi x3), some (mi x4)] [] σ Q := by
  refine WP.iload dX1_mostSets_28 rfl ?_
  refine WP.iload_n dX1_mostSets_30 rfl ?_
  refine WP.icmp_ge (tgt := 90) dX1_mostSets_31 (by decide) (fun q => ?_) (fun q => ?_)
  · have h := h.1 q
    refine WP.aload_n dX1_mostSets_90 rfl ?_
    refine WP.getR fd_X1_21 dX1_mostSets_91 g40 rfl ?_
    refine WP.iload_n dX1_mostSets_94 rfl ?_
    refine WP.aload_n dX1_mostSets_95 rfl ?_
    refine WP.getR fd_X1_18 dX1_mostSets_96 g40 rfl ?_
    refine WP.iload_n dX1_mostSets_99 rfl ?_
    obtain ⟨hi, h⟩ := h
    refine WP.iald dX1_mostSets_100 g43 hi ?_
    refine WP.if_ne (tgt := 110) dX1_mostSets_101 (by decide) (fun q => ?_) (fun q => ?_)
    · have h := h.1 q
      refine WP.iload_n dX1_mostSets_110 rfl ?_
      refine WP.drop 3 (L2 := [some (mr 40), some (mi x1), some (mi x2), none, some (mi x4)]) rfl ?_
      refine WP.drop 4 (L2 := [some (mr 40), some (mi x1), some (mi x2), none, none]) rfl ?_
      exact h
    · have h := h.2 q
      refine WP.iload_n dX1_mostSets_104 rfl ?_
      refine WP.iconst dX1_mostSets_105 (by decide) ?_
      refine WP.iadd dX1_mostSets_106 ?_
      refine WP.goto (tgt := 111) dX1_mostSets_107 (by decide) ?_
      refine WP.drop 3 (L2 := [some (mr 40), some (mi x1), some (mi x2), none, some (mi x4)]) rfl ?_
      refine WP.drop 4 (L2 := [some (mr 40), some (mi x1), some (mi x2), none, none]) rfl ?_
      exact h
  · have h := h.2 q
    refine WP.iload_n dX1_mostSets_34 rfl ?_
    refine WP.iload dX1_mostSets_35 rfl ?_
    refine WP.ishr dX1_mostSets_37 ?_
    refine WP.iconst dX1_mostSets_38 (by decide) ?_
    refine WP.iand dX1_mostSets_39 ?_
    refine WP.if_eq (tgt := 84) dX1_mostSets_40 (by decide) (fun q => ?_) (fun q => ?_)
    · have h := h.1 q
      exact h
    · have h := h.2 q
      refine WP.aload_n dX1_mostSets_43 rfl ?_
      refine WP.getR fd_X1_18 dX1_mostSets_44 g40 rfl ?_
      refine WP.iload_n dX1_mostSets_47 rfl ?_
      refine WP.aload_n dX1_mostSets_48 rfl ?_
      refine WP.getR fd_X1_18 dX1_mostSets_49 g40 rfl ?_
      refine WP.iload_n dX1_mostSets_52 rfl ?_
      refine WP.iconst dX1_mostSets_53 (by decide) ?_
      refine WP.iload dX1_mostSets_54 rfl ?_
      refine WP.ishl dX1_mostSets_56 ?_
      refine WP.ixor dX1_mostSets_57 ?_
      obtain ⟨hi, h⟩ := h
      refine WP.iald dX1_mostSets_58 g43 hi ?_
      refine WP.aload_n dX1_mostSets_59 rfl ?_
      refine WP.getR fd_X1_15 dX1_mostSets_60 g40 rfl ?_
      refine WP.iload dX1_mostSets_63 rfl ?_
      obtain ⟨hi, h⟩ := h
      refine WP.iald dX1_mostSets_65 g42 hi ?_
      refine WP.iadd dX1_mostSets_66 ?_
      obtain ⟨hi, h⟩ := h
      refine WP.iast dX1_mostSets_67 g43 hi ?_
      refine WP.iload_n dX1_mostSets_68 rfl ?_
      refine WP.aload_n dX1_mostSets_69 rfl ?_
      refine WP.getR fd_X1_21 dX1_mostSets_70 g40 rfl ?_
      refine WP.iload_n dX1_mostSets_73 rfl ?_
      refine WP.iconst dX1_mostSets_74 (by decide) ?_
      refine WP.iload dX1_mostSets_75 rfl ?_
      refine WP.ishl dX1_mostSets_77 ?_
      refine WP.ixor dX1_mostSets_78 ?_
      obtain ⟨hi, h⟩ := h
      refine WP.iald dX1_mostSets_79 g44 hi ?_
      refine WP.topI (y := σ 44 (jxor x2 (jshl 1 x4))) (mupd_rp (by decide)) ?_
      refine WP.mmax mx_X1_53 dX1_mostSets_80 (by decide) (Nat.le_of_ble_eq_true rfl) ?_
      refine WP.istore_n (L2 := [some (mr 40), some (mi x1), some (mi x2), some (mi (jmax x3 (σ 44 (jxor x2 (jshl 1 x4))))), some (mi x4)]) dX1_mostSets_83 (by decide) rfl ?_
      exact h
set_option maxRecDepth 100000 in
set_option maxHeartbeats 4000000 in
theorem b_X1_mostSets_40_84 (x1 x2 x3 x4 : Int) {σ : Mem} {Q : Int → Mem → Prop} (h : WP GC M_X1_mostSets 28 [some (mr 40), some (mi x1), some (mi x2), some (mi x3), some (mi (jadd x4 1))] [] σ Q) : WP GC M_X1_mostSets 84 [some (mr 40), some (mi x1), some (mi x2), some (mi x3), some (mi x4)] [] σ Q := by
  refine WP.iinc (L2 := [some (mr 40), some (mi x1), some (mi x2), some (mi x3), some (mi (jadd x4 1))]) dX1_mostSets_84 (by decide) rfl (by decide) rfl ?_
  refine WP.goto (tgt := 28) dX1_mostSets_87 (by decide) ?_
  exact h
set_option maxRecDepth 100000 in
set_option maxHeartbeats 4000000 in
theorem b_X1_mostSets_40_111 (x1 x2 s0 s1 : Int) {σ : Mem} {Q : Int → Mem → Prop} (h : (0 ≤ s1 ∧ s1 < 256) ∧ (WP GC M_X1_mostSets 16 [some (mr 40), some (mi x1), some (mi (jadd x2 1)), none, none] [] (mupd σ 44 s1 s0) Q)) : WP GC M_X1_mostSets 111 [some (mr 40), some (mi x1), some (mi x2), none, none] [mi s0, mi s1, mr 44] σ Q := by
  obtain ⟨hi, h⟩ := h
  refine WP.iast dX1_mostSets_111 g44 hi ?_
  refine WP.iinc (L2 := [some (mr 40), some (mi x1), some (mi (jadd x2 1)), none, none]) dX1_mostSets_112 (by decide) rfl (by decide) rfl ?_
  refine WP.goto (tgt := 16) dX1_mostSets_115 (by decide) ?_
  exact h
theorem dX1_fewest_0 : decode cX1_fewest 0 = .ok (.iconst 0, 1) := by decide +kernel
theorem dX1_fewest_1 : decode cX1_fewest 1 = .ok (.istore_n 2, 1) := by decide +kernel
theorem dX1_fewest_2 : decode cX1_fewest 2 = .ok (.iconst 0, 1) := by decide +kernel
theorem dX1_fewest_3 : decode cX1_fewest 3 = .ok (.istore_n 3, 1) := by decide +kernel
theorem dX1_fewest_4 : decode cX1_fewest 4 = .ok (.iload_n 3, 1) := by decide +kernel
theorem dX1_fewest_5 : decode cX1_fewest 5 = .ok (.bipush 8, 2) := by decide +kernel
theorem dX1_fewest_7 : decode cX1_fewest 7 = .ok (.if_icmp .ge 32, 3) := by decide +kernel
theorem dX1_fewest_10 : decode cX1_fewest 10 = .ok (.aload_n 1, 1) := by decide +kernel
theorem dX1_fewest_11 : decode cX1_fewest 11 = .ok (.iload_n 3, 1) := by decide +kernel
theorem dX1_fewest_12 : decode cX1_fewest 12 = .ok (.invokevirtual 46, 3) := by decide +kernel
theorem dX1_fewest_15 : decode cX1_fewest 15 = .ok (.istore 4, 2) := by decide +kernel
theorem dX1_fewest_17 : decode cX1_fewest 17 = .ok (.iload 4, 2) := by decide +kernel
theorem dX1_fewest_19 : decode cX1_fewest 19 = .ok (.ifCond .eq 14, 3) := by decide +kernel
theorem dX1_fewest_22 : decode cX1_fewest 22 = .ok (.aload_n 0, 1) := by decide +kernel
theorem dX1_fewest_23 : decode cX1_fewest 23 = .ok (.getfield 15, 3) := by decide +kernel
theorem dX1_fewest_26 : decode cX1_fewest 26 = .ok (.iload_n 2, 1) := by decide +kernel
theorem dX1_fewest_27 : decode cX1_fewest 27 = .ok (.iload 4, 2) := by decide +kernel
theorem dX1_fewest_29 : decode cX1_fewest 29 = .ok (.iastore, 1) := by decide +kernel
theorem dX1_fewest_30 : decode cX1_fewest 30 = .ok (.iinc 2 1, 3) := by decide +kernel
theorem dX1_fewest_33 : decode cX1_fewest 33 = .ok (.iinc 3 1, 3) := by decide +kernel
theorem dX1_fewest_36 : decode cX1_fewest 36 = .ok (.goto (-32), 3) := by decide +kernel
theorem dX1_fewest_39 : decode cX1_fewest 39 = .ok (.iload_n 2, 1) := by decide +kernel
theorem dX1_fewest_40 : decode cX1_fewest 40 = .ok (.aload_n 0, 1) := by decide +kernel
theorem dX1_fewest_41 : decode cX1_fewest 41 = .ok (.iload_n 2, 1) := by decide +kernel
theorem dX1_fewest_42 : decode cX1_fewest 42 = .ok (.invokevirtual 50, 3) := by decide +kernel
theorem dX1_fewest_45 : decode cX1_fewest 45 = .ok (.isub, 1) := by decide +kernel
theorem dX1_fewest_46 : decode cX1_fewest 46 = .ok (.ireturn, 1) := by decide +kernel
set_option maxRecDepth 100000 in
set_option maxHeartbeats 4000000 in
theorem e_X1_fewest_40_1 {σ : Mem} {Q : Int → Mem → Prop} (h : WP GC M_X1_fewest 4 [some (mr 40), some (mr 1), some (mi 0), some (mi 0), none] [] σ Q) : HT GC M_X1_fewest [mr 40, mr 1] σ Q := by
  refine HT.of pn_X1 (Nat.le_of_ble_eq_true rfl) ?_
  show WP GC M_X1_fewest 0 [some (mr 40), some (mr 1), none, none, none] [] σ Q
  refine WP.iconst dX1_fewest_0 (by decide) ?_
  refine WP.istore_n (L2 := [some (mr 40), some (mr 1), some (mi 0), none, none]) dX1_fewest_1 (by decide) rfl ?_
  refine WP.iconst dX1_fewest_2 (by decide) ?_
  refine WP.istore_n (L2 := [some (mr 40), some (mr 1), some (mi 0), some (mi 0), none]) dX1_fewest_3 (by decide) rfl ?_
  exact h
set_option maxRecDepth 100000 in
set_option maxHeartbeats 4000000 in
theorem b_X1_fewest_40_1_4 (x2 x3 : Int) {σ : Mem} {Q : Int → Mem → Prop} (h : (8 ≤ x3 → HT GC M_X1_mostSets [mr 40, mi x2] σ (fun r42 σ42 => Q (jsub x2 r42) σ42)) ∧ (¬ 8 ≤ x3 → HT GC M_X4_balanceOf [mr 1, mi x3] σ (fun r12 σ12 => (r12 = 0 → WP GC M_X1_fewest 33 [some (mr 40), some (mr 1), some (mi x2), some (mi x3), none] [] σ12 Q) ∧ (¬ r12 = 0 → (0 ≤ x2 ∧ x2 < 8) ∧ (WP GC M_X1_fewest 33 [some (mr 40), some (mr 1), some (mi (jadd x2 1)), some (mi x3), none] [] (mupd σ12 42 x2 r12) Q))))) : WP GC M_X1_fewest 4 [some (mr 40), some (mr 1), some (mi x2), some (mi x3), none] [] σ Q := by
  refine WP.iload_n dX1_fewest_4 rfl ?_
  refine WP.bipush dX1_fewest_5 (by decide) bp_8 ?_
  refine WP.icmp_ge (tgt := 39) dX1_fewest_7 (by decide) (fun q => ?_) (fun q => ?_)
  · have h := h.1 q
    refine WP.iload_n dX1_fewest_39 rfl ?_
    refine WP.aload_n dX1_fewest_40 rfl ?_
    refine WP.iload_n dX1_fewest_41 rfl ?_
    refine WP.callV M_X1_mostSets [mi x2] cv_X1_mostSets dX1_fewest_42 lk_X1_50 g40 rfl ft_X1_fewest__X1_mostSets rfl (Nat.le_of_ble_eq_true rfl) (HT.mono h ?_)
    rintro r42 σ42 - - h
    refine WP.isub dX1_fewest_45 ?_
    exact WP.iret rfl dX1_fewest_46 h
  · have h := h.2 q
    refine WP.aload_n dX1_fewest_10 rfl ?_
    refine WP.iload_n dX1_fewest_11 rfl ?_
    refine WP.callV M_X4_balanceOf [mi x3] cv_X4_balanceOf dX1_fewest_12 lk_X1_46 g1 rfl ft_X1_fewest__X4_balanceOf rfl (Nat.le_of_ble_eq_true rfl) (HT.mono h ?_)
    rintro r12 σ12 - - h
    refine WP.istore (L2 := [some (mr 40), some (mr 1), some (mi x2), some (mi x3), some (mi r12)]) dX1_fewest_15 (by decide) rfl ?_
    refine WP.iload dX1_fewest_17 rfl ?_
    refine WP.if_eq (tgt := 33) dX1_fewest_19 (by decide) (fun q => ?_) (fun q => ?_)
    · have h := h.1 q
      refine WP.drop 4 (L2 := [some (mr 40), some (mr 1), some (mi x2), some (mi x3), none]) rfl ?_
      exact h
    · have h := h.2 q
      refine WP.aload_n dX1_fewest_22 rfl ?_
      refine WP.getR fd_X1_15 dX1_fewest_23 g40 rfl ?_
      refine WP.iload_n dX1_fewest_26 rfl ?_
      refine WP.iload dX1_fewest_27 rfl ?_
      obtain ⟨hi, h⟩ := h
      refine WP.iast dX1_fewest_29 g42 hi ?_
      refine WP.iinc (L2 := [some (mr 40), some (mr 1), some (mi (jadd x2 1)), some (mi x3), some (mi r12)]) dX1_fewest_30 (by decide) rfl (by decide) rfl ?_
      refine WP.drop 4 (L2 := [some (mr 40), some (mr 1), some (mi (jadd x2 1)), some (mi x3), none]) rfl ?_
      exact h
set_option maxRecDepth 100000 in
set_option maxHeartbeats 4000000 in
theorem b_X1_fewest_40_1_33 (x2 x3 : Int) {σ : Mem} {Q : Int → Mem → Prop} (h : WP GC M_X1_fewest 4 [some (mr 40), some (mr 1), some (mi x2), some (mi (jadd x3 1)), none] [] σ Q) : WP GC M_X1_fewest 33 [some (mr 40), some (mr 1), some (mi x2), some (mi x3), none] [] σ Q := by
  refine WP.iinc (L2 := [some (mr 40), some (mr 1), some (mi x2), some (mi (jadd x3 1)), none]) dX1_fewest_33 (by decide) rfl (by decide) rfl ?_
  refine WP.goto (tgt := 4) dX1_fewest_36 (by decide) ?_
  exact h
theorem dX4_become_0 : decode cX4_become 0 = .ok (.aload_n 0, 1) := by decide +kernel
theorem dX4_become_1 : decode cX4_become 1 = .ok (.getfield 12, 3) := by decide +kernel
theorem dX4_become_4 : decode cX4_become 4 = .ok (.aload_n 1, 1) := by decide +kernel
theorem dX4_become_5 : decode cX4_become 5 = .ok (.getfield 12, 3) := by decide +kernel
theorem dX4_become_8 : decode cX4_become 8 = .ok (.invokevirtual 33, 3) := by decide +kernel
theorem dX4_become_11 : decode cX4_become 11 = .ok (.aload_n 0, 1) := by decide +kernel
theorem dX4_become_12 : decode cX4_become 12 = .ok (.getfield 21, 3) := by decide +kernel
theorem dX4_become_15 : decode cX4_become 15 = .ok (.aload_n 1, 1) := by decide +kernel
theorem dX4_become_16 : decode cX4_become 16 = .ok (.getfield 21, 3) := by decide +kernel
theorem dX4_become_19 : decode cX4_become 19 = .ok (.invokevirtual 37, 3) := by decide +kernel
theorem dX4_become_22 : decode cX4_become 22 = .ok (.aload_n 1, 1) := by decide +kernel
theorem dX4_become_23 : decode cX4_become 23 = .ok (.getfield 25, 3) := by decide +kernel
theorem dX4_become_26 : decode cX4_become 26 = .ok (.iconst 0, 1) := by decide +kernel
theorem dX4_become_27 : decode cX4_become 27 = .ok (.aload_n 0, 1) := by decide +kernel
theorem dX4_become_28 : decode cX4_become 28 = .ok (.getfield 25, 3) := by decide +kernel
theorem dX4_become_31 : decode cX4_become 31 = .ok (.iconst 0, 1) := by decide +kernel
theorem dX4_become_32 : decode cX4_become 32 = .ok (.bipush 64, 2) := by decide +kernel
theorem dX4_become_34 : decode cX4_become 34 = .ok (.invokestatic 40, 3) := by decide +kernel
theorem dX4_become_37 : decode cX4_become 37 = .ok (.aload_n 0, 1) := by decide +kernel
theorem dX4_become_38 : decode cX4_become 38 = .ok (.aload_n 1, 1) := by decide +kernel
theorem dX4_become_39 : decode cX4_become 39 = .ok (.getfield 46, 3) := by decide +kernel
theorem dX4_become_42 : decode cX4_become 42 = .ok (.putfield 46, 3) := by decide +kernel
theorem dX4_become_45 : decode cX4_become 45 = .ok (.aload_n 0, 1) := by decide +kernel
theorem dX4_become_46 : decode cX4_become 46 = .ok (.aload_n 1, 1) := by decide +kernel
theorem dX4_become_47 : decode cX4_become 47 = .ok (.getfield 29, 3) := by decide +kernel
theorem dX4_become_50 : decode cX4_become 50 = .ok (.putfield 29, 3) := by decide +kernel
theorem dX4_become_53 : decode cX4_become 53 = .ok (.return_, 1) := by decide +kernel
set_option maxRecDepth 100000 in
set_option maxHeartbeats 4000000 in
theorem e_X4_become_13_1 {σ : Mem} {Q : Int → Mem → Prop} (h : HT GC M_X0_become [mr 15, mr 3] σ (fun _ σ8 => HT GC M_X6_become [mr 20, mr 8] σ8 (fun _ σ19 => Q 0 (mupd (mupd (mcpy σ19 2 0 14 0 64) 13 3 (σ19 1 3)) 13 4 (σ19 1 4))))) : HT GC M_X4_become [mr 13, mr 1] σ Q := by
  refine HT.of pn_X4 (Nat.le_of_ble_eq_true rfl) ?_
  show WP GC M_X4_become 0 [some (mr 13), some (mr 1)] [] σ Q
  refine WP.aload_n dX4_become_0 rfl ?_
  refine WP.getR fd_X4_12 dX4_become_1 g13 rfl ?_
  refine WP.aload_n dX4_become_4 rfl ?_
  refine WP.getR fd_X4_12 dX4_become_5 g1 rfl ?_
  refine WP.callV M_X0_become [mr 3] cv_X0_become dX4_become_8 lk_X4_33 g15 rfl ft_X4_become__X0_become rfl (Nat.le_of_ble_eq_true rfl) (HT.mono h ?_)
  rintro _ σ8 - - h
  refine WP.aload_n dX4_become_11 rfl ?_
  refine WP.getR fd_X4_21 dX4_become_12 g13 rfl ?_
  refine WP.aload_n dX4_become_15 rfl ?_
  refine WP.getR fd_X4_21 dX4_become_16 g1 rfl ?_
  refine WP.callV M_X6_become [mr 8] cv_X6_become dX4_become_19 lk_X4_37 g20 rfl ft_X4_become__X6_become rfl (Nat.le_of_ble_eq_true rfl) (HT.mono h ?_)
  rintro _ σ19 - - h
  refine WP.aload_n dX4_become_22 rfl ?_
  refine WP.getR fd_X4_25 dX4_become_23 g1 rfl ?_
  refine WP.iconst dX4_become_26 (by decide) ?_
  refine WP.aload_n dX4_become_27 rfl ?_
  refine WP.getR fd_X4_25 dX4_become_28 g13 rfl ?_
  refine WP.iconst dX4_become_31 (by decide) ?_
  refine WP.bipush dX4_become_32 (by decide) bp_64 ?_
  refine WP.acopy ac_X4_40 dX4_become_34 g2 g14 (by decide) (by decide) (Nat.le_of_ble_eq_true rfl) ?_
  refine WP.aload_n dX4_become_37 rfl ?_
  refine WP.aload_n dX4_become_38 rfl ?_
  refine WP.getI (v := σ19 1 3) fd_X4_46 dX4_become_39 g1 rfl (mcpy_rp (by decide)) ?_
  refine WP.put fp_X4_46 dX4_become_42 g13 rfl rfl rfl ?_
  refine WP.aload_n dX4_become_45 rfl ?_
  refine WP.aload_n dX4_become_46 rfl ?_
  refine WP.getI (v := σ19 1 4) fd_X4_29 dX4_become_47 g1 rfl ((mupd_rp (by decide)).trans (mcpy_rp (by decide))) ?_
  refine WP.put fp_X4_29 dX4_become_50 g13 rfl rfl rfl ?_
  exact WP.vret rfl dX4_become_53 h
set_option maxRecDepth 100000 in
set_option maxHeartbeats 4000000 in
theorem e_X4_become_1_13 {σ : Mem} {Q : Int → Mem → Prop} (h : HT GC M_X0_become [mr 3, mr 15] σ (fun _ σ8 => HT GC M_X6_become [mr 8, mr 20] σ8 (fun _ σ19 => Q 0 (mupd (mupd (mcpy σ19 14 0 2 0 64) 1 3 (σ19 13 3)) 1 4 (σ19 13 4))))) : HT GC M_X4_become [mr 1, mr 13] σ Q := by
  refine HT.of pn_X4 (Nat.le_of_ble_eq_true rfl) ?_
  show WP GC M_X4_become 0 [some (mr 1), some (mr 13)] [] σ Q
  refine WP.aload_n dX4_become_0 rfl ?_
  refine WP.getR fd_X4_12 dX4_become_1 g1 rfl ?_
  refine WP.aload_n dX4_become_4 rfl ?_
  refine WP.getR fd_X4_12 dX4_become_5 g13 rfl ?_
  refine WP.callV M_X0_become [mr 15] cv_X0_become dX4_become_8 lk_X4_33 g3 rfl ft_X4_become__X0_become rfl (Nat.le_of_ble_eq_true rfl) (HT.mono h ?_)
  rintro _ σ8 - - h
  refine WP.aload_n dX4_become_11 rfl ?_
  refine WP.getR fd_X4_21 dX4_become_12 g1 rfl ?_
  refine WP.aload_n dX4_become_15 rfl ?_
  refine WP.getR fd_X4_21 dX4_become_16 g13 rfl ?_
  refine WP.callV M_X6_become [mr 20] cv_X6_become dX4_become_19 lk_X4_37 g8 rfl ft_X4_become__X6_become rfl (Nat.le_of_ble_eq_true rfl) (HT.mono h ?_)
  rintro _ σ19 - - h
  refine WP.aload_n dX4_become_22 rfl ?_
  refine WP.getR fd_X4_25 dX4_become_23 g13 rfl ?_
  refine WP.iconst dX4_become_26 (by decide) ?_
  refine WP.aload_n dX4_become_27 rfl ?_
  refine WP.getR fd_X4_25 dX4_become_28 g1 rfl ?_
  refine WP.iconst dX4_become_31 (by decide) ?_
  refine WP.bipush dX4_become_32 (by decide) bp_64 ?_
  refine WP.acopy ac_X4_40 dX4_become_34 g14 g2 (by decide) (by decide) (Nat.le_of_ble_eq_true rfl) ?_
  refine WP.aload_n dX4_become_37 rfl ?_
  refine WP.aload_n dX4_become_38 rfl ?_
  refine WP.getI (v := σ19 13 3) fd_X4_46 dX4_become_39 g13 rfl (mcpy_rp (by decide)) ?_
  refine WP.put fp_X4_46 dX4_become_42 g1 rfl rfl rfl ?_
  refine WP.aload_n dX4_become_45 rfl ?_
  refine WP.aload_n dX4_become_46 rfl ?_
  refine WP.getI (v := σ19 13 4) fd_X4_29 dX4_become_47 g13 rfl ((mupd_rp (by decide)).trans (mcpy_rp (by decide))) ?_
  refine WP.put fp_X4_29 dX4_become_50 g1 rfl rfl rfl ?_
  exact WP.vret rfl dX4_become_53 h
theorem dX1_addDebt_0 : decode cX1_addDebt 0 = .ok (.iload_n 1, 1) := by decide +kernel
theorem dX1_addDebt_1 : decode cX1_addDebt 1 = .ok (.iload_n 2, 1) := by decide +kernel
theorem dX1_addDebt_2 : decode cX1_addDebt 2 = .ok (.invokestatic 39, 3) := by decide +kernel
theorem dX1_addDebt_5 : decode cX1_addDebt 5 = .ok (.ifCond .eq 32, 3) := by decide +kernel
theorem dX1_addDebt_8 : decode cX1_addDebt 8 = .ok (.iload_n 3, 1) := by decide +kernel
theorem dX1_addDebt_9 : decode cX1_addDebt 9 = .ok (.sipush 1000, 3) := by decide +kernel
theorem dX1_addDebt_12 : decode cX1_addDebt 12 = .ok (.invokestatic 43, 3) := by decide +kernel
theorem dX1_addDebt_15 : decode cX1_addDebt 15 = .ok (.ifCond .eq 22, 3) := by decide +kernel
theorem dX1_addDebt_18 : decode cX1_addDebt 18 = .ok (.aload_n 0, 1) := by decide +kernel
theorem dX1_addDebt_19 : decode cX1_addDebt 19 = .ok (.getfield 9, 3) := by decide +kernel
theorem dX1_addDebt_22 : decode cX1_addDebt 22 = .ok (.iload_n 1, 1) := by decide +kernel
theorem dX1_addDebt_23 : decode cX1_addDebt 23 = .ok (.bipush 8, 2) := by decide +kernel
theorem dX1_addDebt_25 : decode cX1_addDebt 25 = .ok (.imul, 1) := by decide +kernel
theorem dX1_addDebt_26 : decode cX1_addDebt 26 = .ok (.iload_n 2, 1) := by decide +kernel
theorem dX1_addDebt_27 : decode cX1_addDebt 27 = .ok (.iadd, 1) := by decide +kernel
theorem dX1_addDebt_28 : decode cX1_addDebt 28 = .ok (.iaload, 1) := by decide +kernel
theorem dX1_addDebt_29 : decode cX1_addDebt 29 = .ok (.iload_n 3, 1) := by decide +kernel
theorem dX1_addDebt_30 : decode cX1_addDebt 30 = .ok (.iadd, 1) := by decide +kernel
theorem dX1_addDebt_31 : decode cX1_addDebt 31 = .ok (.sipush 999, 3) := by decide +kernel
theorem dX1_addDebt_34 : decode cX1_addDebt 34 = .ok (.if_icmp .le 5, 3) := by decide +kernel
theorem dX1_addDebt_37 : decode cX1_addDebt 37 = .ok (.iconst 0, 1) := by decide +kernel
theorem dX1_addDebt_38 : decode cX1_addDebt 38 = .ok (.ireturn, 1) := by decide +kernel
theorem dX1_addDebt_39 : decode cX1_addDebt 39 = .ok (.aload_n 0, 1) := by decide +kernel
theorem dX1_addDebt_40 : decode cX1_addDebt 40 = .ok (.getfield 9, 3) := by decide +kernel
theorem dX1_addDebt_43 : decode cX1_addDebt 43 = .ok (.iload_n 1, 1) := by decide +kernel
theorem dX1_addDebt_44 : decode cX1_addDebt 44 = .ok (.bipush 8, 2) := by decide +kernel
theorem dX1_addDebt_46 : decode cX1_addDebt 46 = .ok (.imul, 1) := by decide +kernel
theorem dX1_addDebt_47 : decode cX1_addDebt 47 = .ok (.iload_n 2, 1) := by decide +kernel
theorem dX1_addDebt_48 : decode cX1_addDebt 48 = .ok (.iadd, 1) := by decide +kernel
theorem dX1_addDebt_49 : decode cX1_addDebt 49 = .ok (.dup2, 1) := by decide +kernel
theorem dX1_addDebt_50 : decode cX1_addDebt 50 = .ok (.iaload, 1) := by decide +kernel
theorem dX1_addDebt_51 : decode cX1_addDebt 51 = .ok (.iload_n 3, 1) := by decide +kernel
theorem dX1_addDebt_52 : decode cX1_addDebt 52 = .ok (.iadd, 1) := by decide +kernel
theorem dX1_addDebt_53 : decode cX1_addDebt 53 = .ok (.iastore, 1) := by decide +kernel
theorem dX1_addDebt_54 : decode cX1_addDebt 54 = .ok (.iconst 1, 1) := by decide +kernel
theorem dX1_addDebt_55 : decode cX1_addDebt 55 = .ok (.ireturn, 1) := by decide +kernel
set_option maxRecDepth 100000 in
set_option maxHeartbeats 4000000 in
theorem e_X1_addDebt_40 (x1 x2 x3 : Int) {σ : Mem} {Q : Int → Mem → Prop} (h : HT GC M_X8_isPair [mi x1, mi x2] σ (fun r2 σ2 => (r2 = 0 → Q 0 σ2) ∧ (¬ r2 = 0 → HT GC M_X8_within [mi x3, mi 1000] σ2 (fun r12 σ12 => (r12 = 0 → Q 0 σ12) ∧ (¬ r12 = 0 → (0 ≤ jadd (jmul x1 8) x2 ∧ jadd (jmul x1 8) x2 < 64) ∧ ((jadd (σ12 41 (jadd (jmul x1 8) x2)) x3 ≤ 999 → (0 ≤ jadd (jmul x1 8) x2 ∧ jadd (jmul x1 8) x2 < 64) ∧ ((0 ≤ jadd (jmul x1 8) x2 ∧ jadd (jmul x1 8) x2 < 64) ∧ (Q 1 (mupd σ12 41 (jadd (jmul x1 8) x2) (jadd (σ12 41 (jadd (jmul x1 8) x2)) x3))))) ∧ (¬ jadd (σ12 41 (jadd (jmul x1 8) x2)) x3 ≤ 999 → Q 0 σ12))))))) : HT GC M_X1_addDebt [mr 40, mi x1, mi x2, mi x3] σ Q := by
  refine HT.of pn_X1 (Nat.le_of_ble_eq_true rfl) ?_
  show WP GC M_X1_addDebt 0 [some (mr 40), some (mi x1), some (mi x2), some (mi x3)] [] σ Q
  refine WP.iload_n dX1_addDebt_0 rfl ?_
  refine WP.iload_n dX1_addDebt_1 rfl ?_
  refine WP.callSN M_X8_isPair [mi x1, mi x2] cs_X8_isPair dX1_addDebt_2 lk_X1_39 ft_X1_addDebt__X8_isPair rfl (Nat.le_of_ble_eq_true rfl) (HT.mono h ?_)
  rintro r2 σ2 - - h
  refine WP.if_eq (tgt := 37) dX1_addDebt_5 (by decide) (fun q => ?_) (fun q => ?_)
  · have h := h.1 q
    refine WP.iconst dX1_addDebt_37 (by decide) ?_
    exact WP.zret rfl dX1_addDebt_38 (by decide) h
  · have h := h.2 q
    refine WP.iload_n dX1_addDebt_8 rfl ?_
    refine WP.sipush dX1_addDebt_9 (by decide) sp_1000 ?_
    refine WP.callSN M_X8_within [mi x3, mi 1000] cs_X8_within dX1_addDebt_12 lk_X1_43 ft_X1_addDebt__X8_within rfl (Nat.le_of_ble_eq_true rfl) (HT.mono h ?_)
    rintro r12 σ12 - - h
    refine WP.if_eq (tgt := 37) dX1_addDebt_15 (by decide) (fun q => ?_) (fun q => ?_)
    · have h := h.1 q
      refine WP.iconst dX1_addDebt_37 (by decide) ?_
      exact WP.zret rfl dX1_addDebt_38 (by decide) h
    · have h := h.2 q
      refine WP.aload_n dX1_addDebt_18 rfl ?_
      refine WP.getR fd_X1_9 dX1_addDebt_19 g40 rfl ?_
      refine WP.iload_n dX1_addDebt_22 rfl ?_
      refine WP.bipush dX1_addDebt_23 (by decide) bp_8 ?_
      refine WP.imul dX1_addDebt_25 ?_
      refine WP.iload_n dX1_addDebt_26 rfl ?_
      refine WP.iadd dX1_addDebt_27 ?_
      obtain ⟨hi, h⟩ := h
      refine WP.iald dX1_addDebt_28 g41 hi ?_
      refine WP.iload_n dX1_addDebt_29 rfl ?_
      refine WP.iadd dX1_addDebt_30 ?_
      refine WP.sipush dX1_addDebt_31 (by decide) sp_999 ?_
      refine WP.icmp_le (tgt := 39) dX1_addDebt_34 (by decide) (fun q => ?_) (fun q => ?_)
      · have h := h.1 q
        refine WP.aload_n dX1_addDebt_39 rfl ?_
        refine WP.getR fd_X1_9 dX1_addDebt_40 g40 rfl ?_
        refine WP.iload_n dX1_addDebt_43 rfl ?_
        refine WP.bipush dX1_addDebt_44 (by decide) bp_8 ?_
        refine WP.imul dX1_addDebt_46 ?_
        refine WP.iload_n dX1_addDebt_47 rfl ?_
        refine WP.iadd dX1_addDebt_48 ?_
        refine WP.dup2 dX1_addDebt_49 rfl rfl ?_
        obtain ⟨hi, h⟩ := h
        refine WP.iald dX1_addDebt_50 g41 hi ?_
        refine WP.iload_n dX1_addDebt_51 rfl ?_
        refine WP.iadd dX1_addDebt_52 ?_
        obtain ⟨hi, h⟩ := h
        refine WP.iast dX1_addDebt_53 g41 hi ?_
        refine WP.iconst dX1_addDebt_54 (by decide) ?_
        exact WP.zret rfl dX1_addDebt_55 (by decide) h
      · have h := h.2 q
        refine WP.iconst dX1_addDebt_37 (by decide) ?_
        exact WP.zret rfl dX1_addDebt_38 (by decide) h
theorem dX1_addDebts_0 : decode cX1_addDebts 0 = .ok (.aload_n 1, 1) := by decide +kernel
theorem dX1_addDebts_1 : decode cX1_addDebts 1 = .ok (.getfield 24, 3) := by decide +kernel
theorem dX1_addDebts_4 : decode cX1_addDebts 4 = .ok (.iconst 0, 1) := by decide +kernel
theorem dX1_addDebts_5 : decode cX1_addDebts 5 = .ok (.aload_n 0, 1) := by decide +kernel
theorem dX1_addDebts_6 : decode cX1_addDebts 6 = .ok (.getfield 9, 3) := by decide +kernel
theorem dX1_addDebts_9 : decode cX1_addDebts 9 = .ok (.iconst 0, 1) := by decide +kernel
theorem dX1_addDebts_10 : decode cX1_addDebts 10 = .ok (.bipush 64, 2) := by decide +kernel
theorem dX1_addDebts_12 : decode cX1_addDebts 12 = .ok (.invokestatic 29, 3) := by decide +kernel
theorem dX1_addDebts_15 : decode cX1_addDebts 15 = .ok (.iconst 0, 1) := by decide +kernel
theorem dX1_addDebts_16 : decode cX1_addDebts 16 = .ok (.istore 5, 2) := by decide +kernel
theorem dX1_addDebts_18 : decode cX1_addDebts 18 = .ok (.iconst 0, 1) := by decide +kernel
theorem dX1_addDebts_19 : decode cX1_addDebts 19 = .ok (.istore 6, 2) := by decide +kernel
theorem dX1_addDebts_21 : decode cX1_addDebts 21 = .ok (.iload 6, 2) := by decide +kernel
theorem dX1_addDebts_23 : decode cX1_addDebts 23 = .ok (.iload 4, 2) := by decide +kernel
theorem dX1_addDebts_25 : decode cX1_addDebts 25 = .ok (.if_icmp .ge 54, 3) := by decide +kernel
theorem dX1_addDebts_28 : decode cX1_addDebts 28 = .ok (.iload_n 3, 1) := by decide +kernel
theorem dX1_addDebts_29 : decode cX1_addDebts 29 = .ok (.iload 6, 2) := by decide +kernel
theorem dX1_addDebts_31 : decode cX1_addDebts 31 = .ok (.iconst 3, 1) := by decide +kernel
theorem dX1_addDebts_32 : decode cX1_addDebts 32 = .ok (.imul, 1) := by decide +kernel
theorem dX1_addDebts_33 : decode cX1_addDebts 33 = .ok (.iadd, 1) := by decide +kernel
theorem dX1_addDebts_34 : decode cX1_addDebts 34 = .ok (.istore 7, 2) := by decide +kernel
theorem dX1_addDebts_36 : decode cX1_addDebts 36 = .ok (.aload_n 0, 1) := by decide +kernel
theorem dX1_addDebts_37 : decode cX1_addDebts 37 = .ok (.aload_n 2, 1) := by decide +kernel
theorem dX1_addDebts_38 : decode cX1_addDebts 38 = .ok (.iload 7, 2) := by decide +kernel
theorem dX1_addDebts_40 : decode cX1_addDebts 40 = .ok (.iaload, 1) := by decide +kernel
theorem dX1_addDebts_41 : decode cX1_addDebts 41 = .ok (.aload_n 2, 1) := by decide +kernel
theorem dX1_addDebts_42 : decode cX1_addDebts 42 = .ok (.iload 7, 2) := by decide +kernel
theorem dX1_addDebts_44 : decode cX1_addDebts 44 = .ok (.iconst 1, 1) := by decide +kernel
theorem dX1_addDebts_45 : decode cX1_addDebts 45 = .ok (.iadd, 1) := by decide +kernel
theorem dX1_addDebts_46 : decode cX1_addDebts 46 = .ok (.iaload, 1) := by decide +kernel
theorem dX1_addDebts_47 : decode cX1_addDebts 47 = .ok (.aload_n 2, 1) := by decide +kernel
theorem dX1_addDebts_48 : decode cX1_addDebts 48 = .ok (.iload 7, 2) := by decide +kernel
theorem dX1_addDebts_50 : decode cX1_addDebts 50 = .ok (.iconst 2, 1) := by decide +kernel
theorem dX1_addDebts_51 : decode cX1_addDebts 51 = .ok (.iadd, 1) := by decide +kernel
theorem dX1_addDebts_52 : decode cX1_addDebts 52 = .ok (.iaload, 1) := by decide +kernel
theorem dX1_addDebts_53 : decode cX1_addDebts 53 = .ok (.invokevirtual 35, 3) := by decide +kernel
theorem dX1_addDebts_56 : decode cX1_addDebts 56 = .ok (.ifCond .ne 6, 3) := by decide +kernel
theorem dX1_addDebts_59 : decode cX1_addDebts 59 = .ok (.bipush (-2), 2) := by decide +kernel
theorem dX1_addDebts_61 : decode cX1_addDebts 61 = .ok (.ireturn, 1) := by decide +kernel
theorem dX1_addDebts_62 : decode cX1_addDebts 62 = .ok (.iload 5, 2) := by decide +kernel
theorem dX1_addDebts_64 : decode cX1_addDebts 64 = .ok (.aload_n 2, 1) := by decide +kernel
theorem dX1_addDebts_65 : decode cX1_addDebts 65 = .ok (.iload 7, 2) := by decide +kernel
theorem dX1_addDebts_67 : decode cX1_addDebts 67 = .ok (.iconst 2, 1) := by decide +kernel
theorem dX1_addDebts_68 : decode cX1_addDebts 68 = .ok (.iadd, 1) := by decide +kernel
theorem dX1_addDebts_69 : decode cX1_addDebts 69 = .ok (.iaload, 1) := by decide +kernel
theorem dX1_addDebts_70 : decode cX1_addDebts 70 = .ok (.iadd, 1) := by decide +kernel
theorem dX1_addDebts_71 : decode cX1_addDebts 71 = .ok (.istore 5, 2) := by decide +kernel
theorem dX1_addDebts_73 : decode cX1_addDebts 73 = .ok (.iinc 6 1, 3) := by decide +kernel
theorem dX1_addDebts_76 : decode cX1_addDebts 76 = .ok (.goto (-55), 3) := by decide +kernel
theorem dX1_addDebts_79 : decode cX1_addDebts 79 = .ok (.aload_n 0, 1) := by decide +kernel
theorem dX1_addDebts_80 : decode cX1_addDebts 80 = .ok (.getfield 9, 3) := by decide +kernel
theorem dX1_addDebts_83 : decode cX1_addDebts 83 = .ok (.iconst 0, 1) := by decide +kernel
theorem dX1_addDebts_84 : decode cX1_addDebts 84 = .ok (.aload_n 1, 1) := by decide +kernel
theorem dX1_addDebts_85 : decode cX1_addDebts 85 = .ok (.getfield 24, 3) := by decide +kernel
theorem dX1_addDebts_88 : decode cX1_addDebts 88 = .ok (.iconst 0, 1) := by decide +kernel
theorem dX1_addDebts_89 : decode cX1_addDebts 89 = .ok (.bipush 64, 2) := by decide +kernel
theorem dX1_addDebts_91 : decode cX1_addDebts 91 = .ok (.invokestatic 29, 3) := by decide +kernel
theorem dX1_addDebts_94 : decode cX1_addDebts 94 = .ok (.iload 5, 2) := by decide +kernel
theorem dX1_addDebts_96 : decode cX1_addDebts 96 = .ok (.ireturn, 1) := by decide +kernel
set_option maxRecDepth 100000 in
set_option maxHeartbeats 4000000 in
theorem e_X1_addDebts_40_1_49 (x3 x4 : Int) {σ : Mem} {Q : Int → Mem → Prop} (h : WP GC M_X1_addDebts 21 [some (mr 40), some (mr 1), some (mr 49), some (mi x3), some (mi x4), some (mi 0), some (mi 0), none] [] (mcpy σ 2 0 41 0 64) Q) : HT GC M_X1_addDebts [mr 40, mr 1, mr 49, mi x3, mi x4] σ Q := by
  refine HT.of pn_X1 (Nat.le_of_ble_eq_true rfl) ?_
  show WP GC M_X1_addDebts 0 [some (mr 40), some (mr 1), some (mr 49), some (mi x3), some (mi x4), none, none, none] [] σ Q
  refine WP.aload_n dX1_addDebts_0 rfl ?_
  refine WP.getR fd_X1_24 dX1_addDebts_1 g1 rfl ?_
  refine WP.iconst dX1_addDebts_4 (by decide) ?_
  refine WP.aload_n dX1_addDebts_5 rfl ?_
  refine WP.getR fd_X1_9 dX1_addDebts_6 g40 rfl ?_
  refine WP.iconst dX1_addDebts_9 (by decide) ?_
  refine WP.bipush dX1_addDebts_10 (by decide) bp_64 ?_
  refine WP.acopy ac_X1_29 dX1_addDebts_12 g2 g41 (by decide) (by decide) (Nat.le_of_ble_eq_true rfl) ?_
  refine WP.iconst dX1_addDebts_15 (by decide) ?_
  refine WP.istore (L2 := [some (mr 40), some (mr 1), some (mr 49), some (mi x3), some (mi x4), some (mi 0), none, none]) dX1_addDebts_16 (by decide) rfl ?_
  refine WP.iconst dX1_addDebts_18 (by decide) ?_
  refine WP.istore (L2 := [some (mr 40), some (mr 1), some (mr 49), some (mi x3), some (mi x4), some (mi 0), some (mi 0), none]) dX1_addDebts_19 (by decide) rfl ?_
  exact h
set_option maxRecDepth 100000 in
set_option maxHeartbeats 4000000 in
theorem b_X1_addDebts_40_1_49_21 (x3 x4 x5 x6 : Int) {σ : Mem} {Q : Int → Mem → Prop} (h : (x4 ≤ x6 → Q x5 (mcpy σ 41 0 2 0 64)) ∧ (¬ x4 ≤ x6 → (0 ≤ jadd x3 (jmul x6 3) ∧ jadd x3 (jmul x6 3) < 96) ∧ ((0 ≤ jadd (jadd x3 (jmul x6 3)) 1 ∧ jadd (jadd x3 (jmul x6 3)) 1 < 96) ∧ ((0 ≤ jadd (jadd x3 (jmul x6 3)) 2 ∧ jadd (jadd x3 (jmul x6 3)) 2 < 96) ∧ (HT GC M_X1_addDebt [mr 40, mi (σ 49 (jadd x3 (jmul x6 3))), mi (σ 49 (jadd (jadd x3 (jmul x6 3)) 1)), mi (σ 49 (jadd (jadd x3 (jmul x6 3)) 2))] σ (fun r53 σ53 => (¬ r53 = 0 → (0 ≤ jadd (jadd x3 (jmul x6 3)) 2 ∧ jadd (jadd x3 (jmul x6 3)) 2 < 96) ∧ (WP GC M_X1_addDebts 21 [some (mr 40), some (mr 1), some (mr 49), some (mi x3), some (mi x4), some (mi (jadd x5 (σ53 49 (jadd (jadd x3 (jmul x6 3)) 2)))), some (mi (jadd x6 1)), none] [] σ53 Q)) ∧ (r53 = 0 → Q (-2) σ53))))))) : WP GC M_X1_addDebts 21 [some (mr 40), some (mr 1), some (mr 49), some (mi x3), some (mi x4), some (mi x5), some (mi x6), none] [] σ Q := by
  refine WP.iload dX1_addDebts_21 rfl ?_
  refine WP.iload dX1_addDebts_23 rfl ?_
  refine WP.icmp_ge (tgt := 79) dX1_addDebts_25 (by decide) (fun q => ?_) (fun q => ?_)
  · have h := h.1 q
    refine WP.aload_n dX1_addDebts_79 rfl ?_
    refine WP.getR fd_X1_9 dX1_addDebts_80 g40 rfl ?_
    refine WP.iconst dX1_addDebts_83 (by decide) ?_
    refine WP.aload_n dX1_addDebts_84 rfl ?_
    refine WP.getR fd_X1_24 dX1_addDebts_85 g1 rfl ?_
    refine WP.iconst dX1_addDebts_88 (by decide) ?_
    refine WP.bipush dX1_addDebts_89 (by decide) bp_64 ?_
    refine WP.acopy ac_X1_29 dX1_addDebts_91 g41 g2 (by decide) (by decide) (Nat.le_of_ble_eq_true rfl) ?_
    refine WP.iload dX1_addDebts_94 rfl ?_
    exact WP.iret rfl dX1_addDebts_96 h
  · have h := h.2 q
    refine WP.iload_n dX1_addDebts_28 rfl ?_
    refine WP.iload dX1_addDebts_29 rfl ?_
    refine WP.iconst dX1_addDebts_31 (by decide) ?_
    refine WP.imul dX1_addDebts_32 ?_
    refine WP.iadd dX1_addDebts_33 ?_
    refine WP.istore (L2 := [some (mr 40), some (mr 1), some (mr 49), some (mi x3), some (mi x4), some (mi x5), some (mi x6), some (mi (jadd x3 (jmul x6 3)))]) dX1_addDebts_34 (by decide) rfl ?_
    refine WP.aload_n dX1_addDebts_36 rfl ?_
    refine WP.aload_n dX1_addDebts_37 rfl ?_
    refine WP.iload dX1_addDebts_38 rfl ?_
    obtain ⟨hi, h⟩ := h
    refine WP.iald dX1_addDebts_40 g49 hi ?_
    refine WP.aload_n dX1_addDebts_41 rfl ?_
    refine WP.iload dX1_addDebts_42 rfl ?_
    refine WP.iconst dX1_addDebts_44 (by decide) ?_
    refine WP.iadd dX1_addDebts_45 ?_
    obtain ⟨hi, h⟩ := h
    refine WP.iald dX1_addDebts_46 g49 hi ?_
    refine WP.aload_n dX1_addDebts_47 rfl ?_
    refine WP.iload dX1_addDebts_48 rfl ?_
    refine WP.iconst dX1_addDebts_50 (by decide) ?_
    refine WP.iadd dX1_addDebts_51 ?_
    obtain ⟨hi, h⟩ := h
    refine WP.iald dX1_addDebts_52 g49 hi ?_
    refine WP.callV M_X1_addDebt [mi (σ 49 (jadd x3 (jmul x6 3))), mi (σ 49 (jadd (jadd x3 (jmul x6 3)) 1)), mi (σ 49 (jadd (jadd x3 (jmul x6 3)) 2))] cv_X1_addDebt dX1_addDebts_53 lk_X1_35 g40 rfl ft_X1_addDebts__X1_addDebt rfl (Nat.le_of_ble_eq_true rfl) (HT.mono h ?_)
    rintro r53 σ53 - - h
    refine WP.if_ne (tgt := 62) dX1_addDebts_56 (by decide) (fun q => ?_) (fun q => ?_)
    · have h := h.1 q
      refine WP.iload dX1_addDebts_62 rfl ?_
      refine WP.aload_n dX1_addDebts_64 rfl ?_
      refine WP.iload dX1_addDebts_65 rfl ?_
      refine WP.iconst dX1_addDebts_67 (by decide) ?_
      refine WP.iadd dX1_addDebts_68 ?_
      obtain ⟨hi, h⟩ := h
      refine WP.iald dX1_addDebts_69 g49 hi ?_
      refine WP.iadd dX1_addDebts_70 ?_
      refine WP.istore (L2 := [some (mr 40), some (mr 1), some (mr 49), some (mi x3), some (mi x4), some (mi (jadd x5 (σ53 49 (jadd (jadd x3 (jmul x6 3)) 2)))), some (mi x6), some (mi (jadd x3 (jmul x6 3)))]) dX1_addDebts_71 (by decide) rfl ?_
      refine WP.iinc (L2 := [some (mr 40), some (mr 1), some (mr 49), some (mi x3), some (mi x4), some (mi (jadd x5 (σ53 49 (jadd (jadd x3 (jmul x6 3)) 2)))), some (mi (jadd x6 1)), some (mi (jadd x3 (jmul x6 3)))]) dX1_addDebts_73 (by decide) rfl (by decide) rfl ?_
      refine WP.goto (tgt := 21) dX1_addDebts_76 (by decide) ?_
      refine WP.drop 7 (L2 := [some (mr 40), some (mr 1), some (mr 49), some (mi x3), some (mi x4), some (mi (jadd x5 (σ53 49 (jadd (jadd x3 (jmul x6 3)) 2)))), some (mi (jadd x6 1)), none]) rfl ?_
      exact h
    · have h := h.2 q
      refine WP.bipush dX1_addDebts_59 (by decide) bp_m2 ?_
      exact WP.iret rfl dX1_addDebts_61 h
