/-! what each stretch of code does, by program -/
theorem dX8_within_0 : decode cX8_within 0 = .ok (.iload_n 0, 1) := by decide +kernel
theorem dX8_within_1 : decode cX8_within 1 = .ok (.ifCond .lt 12, 3) := by decide +kernel
theorem dX8_within_4 : decode cX8_within 4 = .ok (.iload_n 0, 1) := by decide +kernel
theorem dX8_within_5 : decode cX8_within 5 = .ok (.iload_n 1, 1) := by decide +kernel
theorem dX8_within_6 : decode cX8_within 6 = .ok (.if_icmp .ge 7, 3) := by decide +kernel
theorem dX8_within_9 : decode cX8_within 9 = .ok (.iconst 1, 1) := by decide +kernel
theorem dX8_within_10 : decode cX8_within 10 = .ok (.goto 4, 3) := by decide +kernel
theorem dX8_within_13 : decode cX8_within 13 = .ok (.iconst 0, 1) := by decide +kernel
theorem dX8_within_14 : decode cX8_within 14 = .ok (.ireturn, 1) := by decide +kernel
set_option maxRecDepth 100000 in
set_option maxHeartbeats 4000000 in
theorem e_X8_within (x0 x1 : Int) {σ : Mem} {Q : Int → Mem → Prop} (h : (x0 < 0 → Q 0 σ) ∧ (¬ x0 < 0 → (x1 ≤ x0 → Q 0 σ) ∧ (¬ x1 ≤ x0 → Q 1 σ))) : HT GC M_X8_within [mi x0, mi x1] σ Q := by
  refine HT.of pn_X8 (Nat.le_of_ble_eq_true rfl) ?_
  show WP GC M_X8_within 0 [some (mi x0), some (mi x1)] [] σ Q
  refine WP.iload_n dX8_within_0 rfl ?_
  refine WP.if_lt (tgt := 13) dX8_within_1 (by decide) (fun q => ?_) (fun q => ?_)
  · have h := h.1 q
    refine WP.iconst dX8_within_13 (by decide) ?_
    exact WP.zret rfl dX8_within_14 (by decide) h
  · have h := h.2 q
    refine WP.iload_n dX8_within_4 rfl ?_
    refine WP.iload_n dX8_within_5 rfl ?_
    refine WP.icmp_ge (tgt := 13) dX8_within_6 (by decide) (fun q => ?_) (fun q => ?_)
    · have h := h.1 q
      refine WP.iconst dX8_within_13 (by decide) ?_
      exact WP.zret rfl dX8_within_14 (by decide) h
    · have h := h.2 q
      refine WP.iconst dX8_within_9 (by decide) ?_
      refine WP.goto (tgt := 14) dX8_within_10 (by decide) ?_
      exact WP.zret rfl dX8_within_14 (by decide) h
theorem dX8_isTurn_0 : decode cX8_isTurn 0 = .ok (.iload_n 1, 1) := by decide +kernel
theorem dX8_isTurn_1 : decode cX8_isTurn 1 = .ok (.iconst 1, 1) := by decide +kernel
theorem dX8_isTurn_2 : decode cX8_isTurn 2 = .ok (.if_icmp .lt 20, 3) := by decide +kernel
theorem dX8_isTurn_5 : decode cX8_isTurn 5 = .ok (.iload_n 1, 1) := by decide +kernel
theorem dX8_isTurn_6 : decode cX8_isTurn 6 = .ok (.iconst 4, 1) := by decide +kernel
theorem dX8_isTurn_7 : decode cX8_isTurn 7 = .ok (.if_icmp .gt 15, 3) := by decide +kernel
theorem dX8_isTurn_10 : decode cX8_isTurn 10 = .ok (.iload_n 0, 1) := by decide +kernel
theorem dX8_isTurn_11 : decode cX8_isTurn 11 = .ok (.iconst 1, 1) := by decide +kernel
theorem dX8_isTurn_12 : decode cX8_isTurn 12 = .ok (.iconst 3, 1) := by decide +kernel
theorem dX8_isTurn_13 : decode cX8_isTurn 13 = .ok (.iload_n 1, 1) := by decide +kernel
theorem dX8_isTurn_14 : decode cX8_isTurn 14 = .ok (.imul, 1) := by decide +kernel
theorem dX8_isTurn_15 : decode cX8_isTurn 15 = .ok (.ishl, 1) := by decide +kernel
theorem dX8_isTurn_16 : decode cX8_isTurn 16 = .ok (.invokestatic 58, 3) := by decide +kernel
theorem dX8_isTurn_19 : decode cX8_isTurn 19 = .ok (.ifCond .ne 5, 3) := by decide +kernel
theorem dX8_isTurn_22 : decode cX8_isTurn 22 = .ok (.iconst 0, 1) := by decide +kernel
theorem dX8_isTurn_23 : decode cX8_isTurn 23 = .ok (.ireturn, 1) := by decide +kernel
theorem dX8_isTurn_24 : decode cX8_isTurn 24 = .ok (.iconst 0, 1) := by decide +kernel
theorem dX8_isTurn_25 : decode cX8_isTurn 25 = .ok (.istore_n 2, 1) := by decide +kernel
theorem dX8_isTurn_26 : decode cX8_isTurn 26 = .ok (.iconst 0, 1) := by decide +kernel
theorem dX8_isTurn_27 : decode cX8_isTurn 27 = .ok (.istore_n 3, 1) := by decide +kernel
theorem dX8_isTurn_28 : decode cX8_isTurn 28 = .ok (.iload_n 3, 1) := by decide +kernel
theorem dX8_isTurn_29 : decode cX8_isTurn 29 = .ok (.iload_n 1, 1) := by decide +kernel
theorem dX8_isTurn_30 : decode cX8_isTurn 30 = .ok (.if_icmp .ge 22, 3) := by decide +kernel
theorem dX8_isTurn_33 : decode cX8_isTurn 33 = .ok (.iload_n 2, 1) := by decide +kernel
theorem dX8_isTurn_34 : decode cX8_isTurn 34 = .ok (.iconst 1, 1) := by decide +kernel
theorem dX8_isTurn_35 : decode cX8_isTurn 35 = .ok (.iload_n 0, 1) := by decide +kernel
theorem dX8_isTurn_36 : decode cX8_isTurn 36 = .ok (.iconst 3, 1) := by decide +kernel
theorem dX8_isTurn_37 : decode cX8_isTurn 37 = .ok (.iload_n 3, 1) := by decide +kernel
theorem dX8_isTurn_38 : decode cX8_isTurn 38 = .ok (.imul, 1) := by decide +kernel
theorem dX8_isTurn_39 : decode cX8_isTurn 39 = .ok (.ishr, 1) := by decide +kernel
theorem dX8_isTurn_40 : decode cX8_isTurn 40 = .ok (.bipush 7, 2) := by decide +kernel
theorem dX8_isTurn_42 : decode cX8_isTurn 42 = .ok (.iand, 1) := by decide +kernel
theorem dX8_isTurn_43 : decode cX8_isTurn 43 = .ok (.ishl, 1) := by decide +kernel
theorem dX8_isTurn_44 : decode cX8_isTurn 44 = .ok (.ior, 1) := by decide +kernel
theorem dX8_isTurn_45 : decode cX8_isTurn 45 = .ok (.istore_n 2, 1) := by decide +kernel
theorem dX8_isTurn_46 : decode cX8_isTurn 46 = .ok (.iinc 3 1, 3) := by decide +kernel
theorem dX8_isTurn_49 : decode cX8_isTurn 49 = .ok (.goto (-21), 3) := by decide +kernel
theorem dX8_isTurn_52 : decode cX8_isTurn 52 = .ok (.iload_n 2, 1) := by decide +kernel
theorem dX8_isTurn_53 : decode cX8_isTurn 53 = .ok (.invokestatic 260, 3) := by decide +kernel
theorem dX8_isTurn_56 : decode cX8_isTurn 56 = .ok (.iload_n 1, 1) := by decide +kernel
theorem dX8_isTurn_57 : decode cX8_isTurn 57 = .ok (.if_icmp .ne 7, 3) := by decide +kernel
theorem dX8_isTurn_60 : decode cX8_isTurn 60 = .ok (.iconst 1, 1) := by decide +kernel
theorem dX8_isTurn_61 : decode cX8_isTurn 61 = .ok (.goto 4, 3) := by decide +kernel
theorem dX8_isTurn_64 : decode cX8_isTurn 64 = .ok (.iconst 0, 1) := by decide +kernel
theorem dX8_isTurn_65 : decode cX8_isTurn 65 = .ok (.ireturn, 1) := by decide +kernel
set_option maxRecDepth 100000 in
set_option maxHeartbeats 4000000 in
theorem e_X8_isTurn (x0 x1 : Int) {σ : Mem} {Q : Int → Mem → Prop} (h : (x1 < 1 → Q 0 σ) ∧ (¬ x1 < 1 → (4 < x1 → Q 0 σ) ∧ (¬ 4 < x1 → HT GC M_X8_within [mi x0, mi (jshl 1 (jmul 3 x1))] σ (fun r16 σ16 => (¬ r16 = 0 → WP GC M_X8_isTurn 28 [some (mi x0), some (mi x1), some (mi 0), some (mi 0)] [] σ16 Q) ∧ (r16 = 0 → Q 0 σ16))))) : HT GC M_X8_isTurn [mi x0, mi x1] σ Q := by
  refine HT.of pn_X8 (Nat.le_of_ble_eq_true rfl) ?_
  show WP GC M_X8_isTurn 0 [some (mi x0), some (mi x1), none, none] [] σ Q
  refine WP.iload_n dX8_isTurn_0 rfl ?_
  refine WP.iconst dX8_isTurn_1 (by decide) ?_
  refine WP.icmp_lt (tgt := 22) dX8_isTurn_2 (by decide) (fun q => ?_) (fun q => ?_)
  · have h := h.1 q
    refine WP.iconst dX8_isTurn_22 (by decide) ?_
    exact WP.zret rfl dX8_isTurn_23 (by decide) h
  · have h := h.2 q
    refine WP.iload_n dX8_isTurn_5 rfl ?_
    refine WP.iconst dX8_isTurn_6 (by decide) ?_
    refine WP.icmp_gt (tgt := 22) dX8_isTurn_7 (by decide) (fun q => ?_) (fun q => ?_)
    · have h := h.1 q
      refine WP.iconst dX8_isTurn_22 (by decide) ?_
      exact WP.zret rfl dX8_isTurn_23 (by decide) h
    · have h := h.2 q
      refine WP.iload_n dX8_isTurn_10 rfl ?_
      refine WP.iconst dX8_isTurn_11 (by decide) ?_
      refine WP.iconst dX8_isTurn_12 (by decide) ?_
      refine WP.iload_n dX8_isTurn_13 rfl ?_
      refine WP.imul dX8_isTurn_14 ?_
      refine WP.ishl dX8_isTurn_15 ?_
      refine WP.callS M_X8_within [mi x0, mi (jshl 1 (jmul 3 x1))] cs_X8_within dX8_isTurn_16 lk_X8_58 ft_X8_isTurn__X8_within rfl (Nat.le_of_ble_eq_true rfl) (HT.mono h ?_)
      rintro r16 σ16 - - h
      refine WP.if_ne (tgt := 24) dX8_isTurn_19 (by decide) (fun q => ?_) (fun q => ?_)
      · have h := h.1 q
        refine WP.iconst dX8_isTurn_24 (by decide) ?_
        refine WP.istore_n (L2 := [some (mi x0), some (mi x1), some (mi 0), none]) dX8_isTurn_25 (by decide) rfl ?_
        refine WP.iconst dX8_isTurn_26 (by decide) ?_
        refine WP.istore_n (L2 := [some (mi x0), some (mi x1), some (mi 0), some (mi 0)]) dX8_isTurn_27 (by decide) rfl ?_
        exact h
      · have h := h.2 q
        refine WP.iconst dX8_isTurn_22 (by decide) ?_
        exact WP.zret rfl dX8_isTurn_23 (by decide) h
set_option maxRecDepth 100000 in
set_option maxHeartbeats 4000000 in
theorem b_X8_isTurn_28 (x0 x1 x2 x3 : Int) {σ : Mem} {Q : Int → Mem → Prop} (h : (x1 ≤ x3 → HT GC M_J6_bitCount_0f7a4 [mi x2] σ (fun r53 σ53 => (¬ r53 = x1 → Q 0 σ53) ∧ (r53 = x1 → Q 1 σ53))) ∧ (¬ x1 ≤ x3 → WP GC M_X8_isTurn 28 [some (mi x0), some (mi x1), some (mi (jor x2 (jshl 1 (jand (jshr x0 (jmul 3 x3)) 7)))), some (mi (jadd x3 1))] [] σ Q)) : WP GC M_X8_isTurn 28 [some (mi x0), some (mi x1), some (mi x2), some (mi x3)] [] σ Q := by
  refine WP.iload_n dX8_isTurn_28 rfl ?_
  refine WP.iload_n dX8_isTurn_29 rfl ?_
  refine WP.icmp_ge (tgt := 52) dX8_isTurn_30 (by decide) (fun q => ?_) (fun q => ?_)
  · have h := h.1 q
    refine WP.iload_n dX8_isTurn_52 rfl ?_
    refine WP.callS M_J6_bitCount_0f7a4 [mi x2] cs_J6_bitCount_0f7a4 dX8_isTurn_53 lk_X8_260 ft_X8_isTurn__J6_bitCount_0f7a4 rfl (Nat.le_of_ble_eq_true rfl) (HT.mono h ?_)
    rintro r53 σ53 - - h
    refine WP.iload_n dX8_isTurn_56 rfl ?_
    refine WP.icmp_ne (tgt := 64) dX8_isTurn_57 (by decide) (fun q => ?_) (fun q => ?_)
    · have h := h.1 q
      refine WP.iconst dX8_isTurn_64 (by decide) ?_
      exact WP.zret rfl dX8_isTurn_65 (by decide) h
    · have h := h.2 q
      refine WP.iconst dX8_isTurn_60 (by decide) ?_
      refine WP.goto (tgt := 65) dX8_isTurn_61 (by decide) ?_
      exact WP.zret rfl dX8_isTurn_65 (by decide) h
  · have h := h.2 q
    refine WP.iload_n dX8_isTurn_33 rfl ?_
    refine WP.iconst dX8_isTurn_34 (by decide) ?_
    refine WP.iload_n dX8_isTurn_35 rfl ?_
    refine WP.iconst dX8_isTurn_36 (by decide) ?_
    refine WP.iload_n dX8_isTurn_37 rfl ?_
    refine WP.imul dX8_isTurn_38 ?_
    refine WP.ishr dX8_isTurn_39 ?_
    refine WP.bipush dX8_isTurn_40 (by decide) bp_7 ?_
    refine WP.iand dX8_isTurn_42 ?_
    refine WP.ishl dX8_isTurn_43 ?_
    refine WP.ior dX8_isTurn_44 ?_
    refine WP.istore_n (L2 := [some (mi x0), some (mi x1), some (mi (jor x2 (jshl 1 (jand (jshr x0 (jmul 3 x3)) 7)))), some (mi x3)]) dX8_isTurn_45 (by decide) rfl ?_
    refine WP.iinc (L2 := [some (mi x0), some (mi x1), some (mi (jor x2 (jshl 1 (jand (jshr x0 (jmul 3 x3)) 7)))), some (mi (jadd x3 1))]) dX8_isTurn_46 (by decide) rfl (by decide) rfl ?_
    refine WP.goto (tgt := 28) dX8_isTurn_49 (by decide) ?_
    exact h
theorem dX8_coat_0 : decode cX8_coat 0 = .ok (.iload_n 1, 1) := by decide +kernel
theorem dX8_coat_1 : decode cX8_coat 1 = .ok (.iload_n 2, 1) := by decide +kernel
theorem dX8_coat_2 : decode cX8_coat 2 = .ok (.invokestatic 54, 3) := by decide +kernel
theorem dX8_coat_5 : decode cX8_coat 5 = .ok (.ifCond .eq 11, 3) := by decide +kernel
theorem dX8_coat_8 : decode cX8_coat 8 = .ok (.iload_n 3, 1) := by decide +kernel
theorem dX8_coat_9 : decode cX8_coat 9 = .ok (.iconst 4, 1) := by decide +kernel
theorem dX8_coat_10 : decode cX8_coat 10 = .ok (.invokestatic 58, 3) := by decide +kernel
theorem dX8_coat_13 : decode cX8_coat 13 = .ok (.ifCond .ne 5, 3) := by decide +kernel
theorem dX8_coat_16 : decode cX8_coat 16 = .ok (.iconst (-1), 1) := by decide +kernel
theorem dX8_coat_17 : decode cX8_coat 17 = .ok (.ireturn, 1) := by decide +kernel
theorem dX8_coat_18 : decode cX8_coat 18 = .ok (.aload_n 0, 1) := by decide +kernel
theorem dX8_coat_19 : decode cX8_coat 19 = .ok (.getfield 10, 3) := by decide +kernel
theorem dX8_coat_22 : decode cX8_coat 22 = .ok (.getfield 61, 3) := by decide +kernel
theorem dX8_coat_25 : decode cX8_coat 25 = .ok (.getfield 65, 3) := by decide +kernel
theorem dX8_coat_28 : decode cX8_coat 28 = .ok (.iconst 4, 1) := by decide +kernel
theorem dX8_coat_29 : decode cX8_coat 29 = .ok (.if_icmp .lt 6, 3) := by decide +kernel
theorem dX8_coat_32 : decode cX8_coat 32 = .ok (.bipush (-3), 2) := by decide +kernel
theorem dX8_coat_34 : decode cX8_coat 34 = .ok (.ireturn, 1) := by decide +kernel
theorem dX8_coat_35 : decode cX8_coat 35 = .ok (.aload_n 0, 1) := by decide +kernel
theorem dX8_coat_36 : decode cX8_coat 36 = .ok (.getfield 10, 3) := by decide +kernel
theorem dX8_coat_39 : decode cX8_coat 39 = .ok (.getfield 61, 3) := by decide +kernel
theorem dX8_coat_42 : decode cX8_coat 42 = .ok (.invokevirtual 71, 3) := by decide +kernel
theorem dX8_coat_45 : decode cX8_coat 45 = .ok (.iconst 0, 1) := by decide +kernel
theorem dX8_coat_46 : decode cX8_coat 46 = .ok (.istore 4, 2) := by decide +kernel
theorem dX8_coat_48 : decode cX8_coat 48 = .ok (.iload 4, 2) := by decide +kernel
theorem dX8_coat_50 : decode cX8_coat 50 = .ok (.iload_n 2, 1) := by decide +kernel
theorem dX8_coat_51 : decode cX8_coat 51 = .ok (.if_icmp .ge 28, 3) := by decide +kernel
theorem dX8_coat_54 : decode cX8_coat 54 = .ok (.aload_n 0, 1) := by decide +kernel
theorem dX8_coat_55 : decode cX8_coat 55 = .ok (.getfield 10, 3) := by decide +kernel
theorem dX8_coat_58 : decode cX8_coat 58 = .ok (.getfield 61, 3) := by decide +kernel
theorem dX8_coat_61 : decode cX8_coat 61 = .ok (.iload_n 1, 1) := by decide +kernel
theorem dX8_coat_62 : decode cX8_coat 62 = .ok (.iconst 3, 1) := by decide +kernel
theorem dX8_coat_63 : decode cX8_coat 63 = .ok (.iload 4, 2) := by decide +kernel
theorem dX8_coat_65 : decode cX8_coat 65 = .ok (.imul, 1) := by decide +kernel
theorem dX8_coat_66 : decode cX8_coat 66 = .ok (.ishr, 1) := by decide +kernel
theorem dX8_coat_67 : decode cX8_coat 67 = .ok (.bipush 7, 2) := by decide +kernel
theorem dX8_coat_69 : decode cX8_coat 69 = .ok (.iand, 1) := by decide +kernel
theorem dX8_coat_70 : decode cX8_coat 70 = .ok (.invokevirtual 74, 3) := by decide +kernel
theorem dX8_coat_73 : decode cX8_coat 73 = .ok (.iinc 4 1, 3) := by decide +kernel
theorem dX8_coat_76 : decode cX8_coat 76 = .ok (.goto (-28), 3) := by decide +kernel
theorem dX8_coat_79 : decode cX8_coat 79 = .ok (.aload_n 0, 1) := by decide +kernel
theorem dX8_coat_80 : decode cX8_coat 80 = .ok (.getfield 10, 3) := by decide +kernel
theorem dX8_coat_83 : decode cX8_coat 83 = .ok (.getfield 61, 3) := by decide +kernel
theorem dX8_coat_86 : decode cX8_coat 86 = .ok (.iload_n 3, 1) := by decide +kernel
theorem dX8_coat_87 : decode cX8_coat 87 = .ok (.invokevirtual 78, 3) := by decide +kernel
theorem dX8_coat_90 : decode cX8_coat 90 = .ok (.aload_n 0, 1) := by decide +kernel
theorem dX8_coat_91 : decode cX8_coat 91 = .ok (.getfield 10, 3) := by decide +kernel
theorem dX8_coat_94 : decode cX8_coat 94 = .ok (.getfield 61, 3) := by decide +kernel
theorem dX8_coat_97 : decode cX8_coat 97 = .ok (.getfield 65, 3) := by decide +kernel
theorem dX8_coat_100 : decode cX8_coat 100 = .ok (.iconst 1, 1) := by decide +kernel
theorem dX8_coat_101 : decode cX8_coat 101 = .ok (.isub, 1) := by decide +kernel
theorem dX8_coat_102 : decode cX8_coat 102 = .ok (.ireturn, 1) := by decide +kernel
set_option maxRecDepth 100000 in
set_option maxHeartbeats 4000000 in
theorem e_X8_coat_0 (x1 x2 x3 : Int) {σ : Mem} {Q : Int → Mem → Prop} (h : HT GC M_X8_isTurn [mi x1, mi x2] σ (fun r2 σ2 => (r2 = 0 → Q (-1) σ2) ∧ (¬ r2 = 0 → HT GC M_X8_within [mi x3, mi 4] σ2 (fun r10 σ10 => (¬ r10 = 0 → (σ10 3 0 < 4 → HT GC M_X0_open [mr 3] σ10 (fun _ σ42 => WP GC M_X8_coat 48 [some (mr 0), some (mi x1), some (mi x2), some (mi x3), some (mi 0)] [] σ42 Q)) ∧ (¬ σ10 3 0 < 4 → Q (-3) σ10)) ∧ (r10 = 0 → Q (-1) σ10))))) : HT GC M_X8_coat [mr 0, mi x1, mi x2, mi x3] σ Q := by
  refine HT.of pn_X8 (Nat.le_of_ble_eq_true rfl) ?_
  show WP GC M_X8_coat 0 [some (mr 0), some (mi x1), some (mi x2), some (mi x3), none] [] σ Q
  refine WP.iload_n dX8_coat_0 rfl ?_
  refine WP.iload_n dX8_coat_1 rfl ?_
  refine WP.callS M_X8_isTurn [mi x1, mi x2] cs_X8_isTurn dX8_coat_2 lk_X8_54 ft_X8_coat__X8_isTurn rfl (Nat.le_of_ble_eq_true rfl) (HT.mono h ?_)
  rintro r2 σ2 - - h
  refine WP.if_eq (tgt := 16) dX8_coat_5 (by decide) (fun q => ?_) (fun q => ?_)
  · have h := h.1 q
    refine WP.iconst dX8_coat_16 (by decide) ?_
    exact WP.iret rfl dX8_coat_17 h
  · have h := h.2 q
    refine WP.iload_n dX8_coat_8 rfl ?_
    refine WP.iconst dX8_coat_9 (by decide) ?_
    refine WP.callS M_X8_within [mi x3, mi 4] cs_X8_within dX8_coat_10 lk_X8_58 ft_X8_coat__X8_within rfl (Nat.le_of_ble_eq_true rfl) (HT.mono h ?_)
    rintro r10 σ10 - - h
    refine WP.if_ne (tgt := 18) dX8_coat_13 (by decide) (fun q => ?_) (fun q => ?_)
    · have h := h.1 q
      refine WP.aload_n dX8_coat_18 rfl ?_
      refine WP.getR fd_X8_10 dX8_coat_19 g0 rfl ?_
      refine WP.getR fd_X8_61 dX8_coat_22 g1 rfl ?_
      refine WP.getI (v := σ10 3 0) fd_X8_65 dX8_coat_25 g3 rfl rfl ?_
      refine WP.iconst dX8_coat_28 (by decide) ?_
      refine WP.icmp_lt (tgt := 35) dX8_coat_29 (by decide) (fun q => ?_) (fun q => ?_)
      · have h := h.1 q
        refine WP.aload_n dX8_coat_35 rfl ?_
        refine WP.getR fd_X8_10 dX8_coat_36 g0 rfl ?_
        refine WP.getR fd_X8_61 dX8_coat_39 g1 rfl ?_
        refine WP.callV M_X0_open [] cv_X0_open dX8_coat_42 lk_X8_71 g3 rfl ft_X8_coat__X0_open rfl (Nat.le_of_ble_eq_true rfl) (HT.mono h ?_)
        rintro _ σ42 - - h
        refine WP.iconst dX8_coat_45 (by decide) ?_
        refine WP.istore (L2 := [some (mr 0), some (mi x1), some (mi x2), some (mi x3), some (mi 0)]) dX8_coat_46 (by decide) rfl ?_
        exact h
      · have h := h.2 q
        refine WP.bipush dX8_coat_32 (by decide) bp_m3 ?_
        exact WP.iret rfl dX8_coat_34 h
    · have h := h.2 q
      refine WP.iconst dX8_coat_16 (by decide) ?_
      exact WP.iret rfl dX8_coat_17 h
set_option maxRecDepth 100000 in
set_option maxHeartbeats 4000000 in
theorem b_X8_coat_0_48 (x1 x2 x3 x4 : Int) {σ : Mem} {Q : Int → Mem → Prop} (h : (x2 ≤ x4 → HT GC M_X0_close [mr 3, mi x3] σ (fun _ σ87 => Q (jsub (σ87 3 0) 1) σ87)) ∧ (¬ x2 ≤ x4 → HT GC M_X0_join [mr 3, mi (jand (jshr x1 (jmul 3 x4)) 7)] σ (fun _ σ70 => WP GC M_X8_coat 48 [some (mr 0), some (mi x1), some (mi x2), some (mi x3), some (mi (jadd x4 1))] [] σ70 Q))) : WP GC M_X8_coat 48 [some (mr 0), some (mi x1), some (mi x2), some (mi x3), some (mi x4)] [] σ Q := by
  refine WP.iload dX8_coat_48 rfl ?_
  refine WP.iload_n dX8_coat_50 rfl ?_
  refine WP.icmp_ge (tgt := 79) dX8_coat_51 (by decide) (fun q => ?_) (fun q => ?_)
  · have h := h.1 q
    refine WP.aload_n dX8_coat_79 rfl ?_
    refine WP.getR fd_X8_10 dX8_coat_80 g0 rfl ?_
    refine WP.getR fd_X8_61 dX8_coat_83 g1 rfl ?_
    refine WP.iload_n dX8_coat_86 rfl ?_
    refine WP.callV M_X0_close [mi x3] cv_X0_close dX8_coat_87 lk_X8_78 g3 rfl ft_X8_coat__X0_close rfl (Nat.le_of_ble_eq_true rfl) (HT.mono h ?_)
    rintro _ σ87 - - h
    refine WP.aload_n dX8_coat_90 rfl ?_
    refine WP.getR fd_X8_10 dX8_coat_91 g0 rfl ?_
    refine WP.getR fd_X8_61 dX8_coat_94 g1 rfl ?_
    refine WP.getI (v := σ87 3 0) fd_X8_65 dX8_coat_97 g3 rfl rfl ?_
    refine WP.iconst dX8_coat_100 (by decide) ?_
    refine WP.isub dX8_coat_101 ?_
    exact WP.iret rfl dX8_coat_102 h
  · have h := h.2 q
    refine WP.aload_n dX8_coat_54 rfl ?_
    refine WP.getR fd_X8_10 dX8_coat_55 g0 rfl ?_
    refine WP.getR fd_X8_61 dX8_coat_58 g1 rfl ?_
    refine WP.iload_n dX8_coat_61 rfl ?_
    refine WP.iconst dX8_coat_62 (by decide) ?_
    refine WP.iload dX8_coat_63 rfl ?_
    refine WP.imul dX8_coat_65 ?_
    refine WP.ishr dX8_coat_66 ?_
    refine WP.bipush dX8_coat_67 (by decide) bp_7 ?_
    refine WP.iand dX8_coat_69 ?_
    refine WP.callV M_X0_join [mi (jand (jshr x1 (jmul 3 x4)) 7)] cv_X0_join dX8_coat_70 lk_X8_74 g3 rfl ft_X8_coat__X0_join rfl (Nat.le_of_ble_eq_true rfl) (HT.mono h ?_)
    rintro _ σ70 - - h
    refine WP.iinc (L2 := [some (mr 0), some (mi x1), some (mi x2), some (mi x3), some (mi (jadd x4 1))]) dX8_coat_73 (by decide) rfl (by decide) rfl ?_
    refine WP.goto (tgt := 48) dX8_coat_76 (by decide) ?_
    exact h
theorem dX8_thing_0 : decode cX8_thing 0 = .ok (.iload_n 1, 1) := by decide +kernel
theorem dX8_thing_1 : decode cX8_thing 1 = .ok (.iconst 4, 1) := by decide +kernel
theorem dX8_thing_2 : decode cX8_thing 2 = .ok (.invokestatic 58, 3) := by decide +kernel
theorem dX8_thing_5 : decode cX8_thing 5 = .ok (.ifCond .eq 12, 3) := by decide +kernel
theorem dX8_thing_8 : decode cX8_thing 8 = .ok (.iload_n 2, 1) := by decide +kernel
theorem dX8_thing_9 : decode cX8_thing 9 = .ok (.bipush 8, 2) := by decide +kernel
theorem dX8_thing_11 : decode cX8_thing 11 = .ok (.invokestatic 58, 3) := by decide +kernel
theorem dX8_thing_14 : decode cX8_thing 14 = .ok (.ifCond .ne 5, 3) := by decide +kernel
theorem dX8_thing_17 : decode cX8_thing 17 = .ok (.iconst (-1), 1) := by decide +kernel
theorem dX8_thing_18 : decode cX8_thing 18 = .ok (.ireturn, 1) := by decide +kernel
theorem dX8_thing_19 : decode cX8_thing 19 = .ok (.aload_n 0, 1) := by decide +kernel
theorem dX8_thing_20 : decode cX8_thing 20 = .ok (.getfield 10, 3) := by decide +kernel
theorem dX8_thing_23 : decode cX8_thing 23 = .ok (.getfield 81, 3) := by decide +kernel
theorem dX8_thing_26 : decode cX8_thing 26 = .ok (.getfield 85, 3) := by decide +kernel
theorem dX8_thing_29 : decode cX8_thing 29 = .ok (.bipush 8, 2) := by decide +kernel
theorem dX8_thing_31 : decode cX8_thing 31 = .ok (.if_icmp .lt 6, 3) := by decide +kernel
theorem dX8_thing_34 : decode cX8_thing 34 = .ok (.bipush (-3), 2) := by decide +kernel
theorem dX8_thing_36 : decode cX8_thing 36 = .ok (.ireturn, 1) := by decide +kernel
theorem dX8_thing_37 : decode cX8_thing 37 = .ok (.aload_n 0, 1) := by decide +kernel
theorem dX8_thing_38 : decode cX8_thing 38 = .ok (.getfield 10, 3) := by decide +kernel
theorem dX8_thing_41 : decode cX8_thing 41 = .ok (.getfield 81, 3) := by decide +kernel
theorem dX8_thing_44 : decode cX8_thing 44 = .ok (.iload_n 1, 1) := by decide +kernel
theorem dX8_thing_45 : decode cX8_thing 45 = .ok (.iload_n 2, 1) := by decide +kernel
theorem dX8_thing_46 : decode cX8_thing 46 = .ok (.invokevirtual 88, 3) := by decide +kernel
theorem dX8_thing_49 : decode cX8_thing 49 = .ok (.ireturn, 1) := by decide +kernel
set_option maxRecDepth 100000 in
set_option maxHeartbeats 4000000 in
theorem e_X8_thing_0 (x1 x2 : Int) {σ : Mem} {Q : Int → Mem → Prop} (h : HT GC M_X8_within [mi x1, mi 4] σ (fun r2 σ2 => (r2 = 0 → Q (-1) σ2) ∧ (¬ r2 = 0 → HT GC M_X8_within [mi x2, mi 8] σ2 (fun r11 σ11 => (¬ r11 = 0 → (σ11 8 0 < 8 → HT GC M_X6_add [mr 8, mi x1, mi x2] σ11 (fun r46 σ46 => Q r46 σ46)) ∧ (¬ σ11 8 0 < 8 → Q (-3) σ11)) ∧ (r11 = 0 → Q (-1) σ11))))) : HT GC M_X8_thing [mr 0, mi x1, mi x2] σ Q := by
  refine HT.of pn_X8 (Nat.le_of_ble_eq_true rfl) ?_
  show WP GC M_X8_thing 0 [some (mr 0), some (mi x1), some (mi x2)] [] σ Q
  refine WP.iload_n dX8_thing_0 rfl ?_
  refine WP.iconst dX8_thing_1 (by decide) ?_
  refine WP.callS M_X8_within [mi x1, mi 4] cs_X8_within dX8_thing_2 lk_X8_58 ft_X8_thing__X8_within rfl (Nat.le_of_ble_eq_true rfl) (HT.mono h ?_)
  rintro r2 σ2 - - h
  refine WP.if_eq (tgt := 17) dX8_thing_5 (by decide) (fun q => ?_) (fun q => ?_)
  · have h := h.1 q
    refine WP.iconst dX8_thing_17 (by decide) ?_
    exact WP.iret rfl dX8_thing_18 h
  · have h := h.2 q
    refine WP.iload_n dX8_thing_8 rfl ?_
    refine WP.bipush dX8_thing_9 (by decide) bp_8 ?_
    refine WP.callS M_X8_within [mi x2, mi 8] cs_X8_within dX8_thing_11 lk_X8_58 ft_X8_thing__X8_within rfl (Nat.le_of_ble_eq_true rfl) (HT.mono h ?_)
    rintro r11 σ11 - - h
    refine WP.if_ne (tgt := 19) dX8_thing_14 (by decide) (fun q => ?_) (fun q => ?_)
    · have h := h.1 q
      refine WP.aload_n dX8_thing_19 rfl ?_
      refine WP.getR fd_X8_10 dX8_thing_20 g0 rfl ?_
      refine WP.getR fd_X8_81 dX8_thing_23 g1 rfl ?_
      refine WP.getI (v := σ11 8 0) fd_X8_85 dX8_thing_26 g8 rfl rfl ?_
      refine WP.bipush dX8_thing_29 (by decide) bp_8 ?_
      refine WP.icmp_lt (tgt := 37) dX8_thing_31 (by decide) (fun q => ?_) (fun q => ?_)
      · have h := h.1 q
        refine WP.aload_n dX8_thing_37 rfl ?_
        refine WP.getR fd_X8_10 dX8_thing_38 g0 rfl ?_
        refine WP.getR fd_X8_81 dX8_thing_41 g1 rfl ?_
        refine WP.iload_n dX8_thing_44 rfl ?_
        refine WP.iload_n dX8_thing_45 rfl ?_
        refine WP.callV M_X6_add [mi x1, mi x2] cv_X6_add dX8_thing_46 lk_X8_88 g8 rfl ft_X8_thing__X6_add rfl (Nat.le_of_ble_eq_true rfl) (HT.mono h ?_)
        rintro r46 σ46 - - h
        exact WP.iret rfl dX8_thing_49 h
      · have h := h.2 q
        refine WP.bipush dX8_thing_34 (by decide) bp_m3 ?_
        exact WP.iret rfl dX8_thing_36 h
    · have h := h.2 q
      refine WP.iconst dX8_thing_17 (by decide) ?_
      exact WP.iret rfl dX8_thing_18 h
theorem dX8_where_0 : decode cX8_where 0 = .ok (.aload_n 0, 1) := by decide +kernel
theorem dX8_where_1 : decode cX8_where 1 = .ok (.getfield 10, 3) := by decide +kernel
theorem dX8_where_4 : decode cX8_where 4 = .ok (.getfield 81, 3) := by decide +kernel
theorem dX8_where_7 : decode cX8_where 7 = .ok (.iload_n 1, 1) := by decide +kernel
theorem dX8_where_8 : decode cX8_where 8 = .ok (.invokevirtual 92, 3) := by decide +kernel
theorem dX8_where_11 : decode cX8_where 11 = .ok (.ifCond .eq 18, 3) := by decide +kernel
theorem dX8_where_14 : decode cX8_where 14 = .ok (.aload_n 0, 1) := by decide +kernel
theorem dX8_where_15 : decode cX8_where 15 = .ok (.getfield 10, 3) := by decide +kernel
theorem dX8_where_18 : decode cX8_where 18 = .ok (.getfield 81, 3) := by decide +kernel
theorem dX8_where_21 : decode cX8_where 21 = .ok (.getfield 96, 3) := by decide +kernel
theorem dX8_where_24 : decode cX8_where 24 = .ok (.iload_n 1, 1) := by decide +kernel
theorem dX8_where_25 : decode cX8_where 25 = .ok (.iaload, 1) := by decide +kernel
theorem dX8_where_26 : decode cX8_where 26 = .ok (.goto 4, 3) := by decide +kernel
theorem dX8_where_29 : decode cX8_where 29 = .ok (.iconst (-1), 1) := by decide +kernel
theorem dX8_where_30 : decode cX8_where 30 = .ok (.ireturn, 1) := by decide +kernel
set_option maxRecDepth 100000 in
set_option maxHeartbeats 4000000 in
theorem e_X8_where_0 (x1 : Int) {σ : Mem} {Q : Int → Mem → Prop} (h : HT GC M_X6_has [mr 8, mi x1] σ (fun r8 σ8 => (r8 = 0 → Q (-1) σ8) ∧ (¬ r8 = 0 → (0 ≤ x1 ∧ x1 < 8) ∧ (Q (σ8 10 x1) σ8)))) : HT GC M_X8_where [mr 0, mi x1] σ Q := by
  refine HT.of pn_X8 (Nat.le_of_ble_eq_true rfl) ?_
  show WP GC M_X8_where 0 [some (mr 0), some (mi x1)] [] σ Q
  refine WP.aload_n dX8_where_0 rfl ?_
  refine WP.getR fd_X8_10 dX8_where_1 g0 rfl ?_
  refine WP.getR fd_X8_81 dX8_where_4 g1 rfl ?_
  refine WP.iload_n dX8_where_7 rfl ?_
  refine WP.callV M_X6_has [mi x1] cv_X6_has dX8_where_8 lk_X8_92 g8 rfl ft_X8_where__X6_has rfl (Nat.le_of_ble_eq_true rfl) (HT.mono h ?_)
  rintro r8 σ8 - - h
  refine WP.if_eq (tgt := 29) dX8_where_11 (by decide) (fun q => ?_) (fun q => ?_)
  · have h := h.1 q
    refine WP.iconst dX8_where_29 (by decide) ?_
    exact WP.iret rfl dX8_where_30 h
  · have h := h.2 q
    refine WP.aload_n dX8_where_14 rfl ?_
    refine WP.getR fd_X8_10 dX8_where_15 g0 rfl ?_
    refine WP.getR fd_X8_81 dX8_where_18 g1 rfl ?_
    refine WP.getR fd_X8_96 dX8_where_21 g8 rfl ?_
    refine WP.iload_n dX8_where_24 rfl ?_
    obtain ⟨hi, h⟩ := h
    refine WP.iald dX8_where_25 g10 hi ?_
    refine WP.goto (tgt := 30) dX8_where_26 (by decide) ?_
    exact WP.iret rfl dX8_where_30 h
theorem dX8_told_0 : decode cX8_told 0 = .ok (.aload_n 0, 1) := by decide +kernel
theorem dX8_told_1 : decode cX8_told 1 = .ok (.getfield 10, 3) := by decide +kernel
theorem dX8_told_4 : decode cX8_told 4 = .ok (.getfield 81, 3) := by decide +kernel
theorem dX8_told_7 : decode cX8_told 7 = .ok (.iload_n 1, 1) := by decide +kernel
theorem dX8_told_8 : decode cX8_told 8 = .ok (.invokevirtual 92, 3) := by decide +kernel
theorem dX8_told_11 : decode cX8_told 11 = .ok (.ifCond .ne 5, 3) := by decide +kernel
theorem dX8_told_14 : decode cX8_told 14 = .ok (.iconst (-1), 1) := by decide +kernel
theorem dX8_told_15 : decode cX8_told 15 = .ok (.ireturn, 1) := by decide +kernel
theorem dX8_told_16 : decode cX8_told 16 = .ok (.iload_n 2, 1) := by decide +kernel
theorem dX8_told_17 : decode cX8_told 17 = .ok (.tableswitch 66 0 2 #[27, 40, 53], 27) := by decide +kernel
theorem dX8_told_44 : decode cX8_told 44 = .ok (.aload_n 0, 1) := by decide +kernel
theorem dX8_told_45 : decode cX8_told 45 = .ok (.getfield 10, 3) := by decide +kernel
theorem dX8_told_48 : decode cX8_told 48 = .ok (.getfield 81, 3) := by decide +kernel
theorem dX8_told_51 : decode cX8_told 51 = .ok (.getfield 100, 3) := by decide +kernel
theorem dX8_told_54 : decode cX8_told 54 = .ok (.iload_n 1, 1) := by decide +kernel
theorem dX8_told_55 : decode cX8_told 55 = .ok (.iaload, 1) := by decide +kernel
theorem dX8_told_56 : decode cX8_told 56 = .ok (.ireturn, 1) := by decide +kernel
theorem dX8_told_57 : decode cX8_told 57 = .ok (.aload_n 0, 1) := by decide +kernel
theorem dX8_told_58 : decode cX8_told 58 = .ok (.getfield 10, 3) := by decide +kernel
theorem dX8_told_61 : decode cX8_told 61 = .ok (.getfield 81, 3) := by decide +kernel
theorem dX8_told_64 : decode cX8_told 64 = .ok (.getfield 103, 3) := by decide +kernel
theorem dX8_told_67 : decode cX8_told 67 = .ok (.iload_n 1, 1) := by decide +kernel
theorem dX8_told_68 : decode cX8_told 68 = .ok (.iaload, 1) := by decide +kernel
theorem dX8_told_69 : decode cX8_told 69 = .ok (.ireturn, 1) := by decide +kernel
theorem dX8_told_70 : decode cX8_told 70 = .ok (.aload_n 0, 1) := by decide +kernel
theorem dX8_told_71 : decode cX8_told 71 = .ok (.getfield 10, 3) := by decide +kernel
theorem dX8_told_74 : decode cX8_told 74 = .ok (.getfield 81, 3) := by decide +kernel
theorem dX8_told_77 : decode cX8_told 77 = .ok (.getfield 106, 3) := by decide +kernel
theorem dX8_told_80 : decode cX8_told 80 = .ok (.iload_n 1, 1) := by decide +kernel
theorem dX8_told_81 : decode cX8_told 81 = .ok (.iaload, 1) := by decide +kernel
theorem dX8_told_82 : decode cX8_told 82 = .ok (.ireturn, 1) := by decide +kernel
theorem dX8_told_83 : decode cX8_told 83 = .ok (.iconst (-1), 1) := by decide +kernel
theorem dX8_told_84 : decode cX8_told 84 = .ok (.ireturn, 1) := by decide +kernel
set_option maxRecDepth 100000 in
set_option maxHeartbeats 4000000 in
theorem e_X8_told_0 (x1 x2 : Int) {σ : Mem} {Q : Int → Mem → Prop} (h : HT GC M_X6_has [mr 8, mi x1] σ (fun r8 σ8 => (¬ r8 = 0 → (x2 = 0 → (0 ≤ x1 ∧ x1 < 8) ∧ (Q (σ8 9 x1) σ8)) ∧ (x2 = 1 → (0 ≤ x1 ∧ x1 < 8) ∧ (Q (σ8 11 x1) σ8)) ∧ (x2 = 2 → (0 ≤ x1 ∧ x1 < 8) ∧ (Q (σ8 12 x1) σ8)) ∧ (¬ x2 = 0 → ¬ x2 = 1 → ¬ x2 = 2 → Q (-1) σ8)) ∧ (r8 = 0 → Q (-1) σ8))) : HT GC M_X8_told [mr 0, mi x1, mi x2] σ Q := by
  refine HT.of pn_X8 (Nat.le_of_ble_eq_true rfl) ?_
  show WP GC M_X8_told 0 [some (mr 0), some (mi x1), some (mi x2)] [] σ Q
  refine WP.aload_n dX8_told_0 rfl ?_
  refine WP.getR fd_X8_10 dX8_told_1 g0 rfl ?_
  refine WP.getR fd_X8_81 dX8_told_4 g1 rfl ?_
  refine WP.iload_n dX8_told_7 rfl ?_
  refine WP.callV M_X6_has [mi x1] cv_X6_has dX8_told_8 lk_X8_92 g8 rfl ft_X8_told__X6_has rfl (Nat.le_of_ble_eq_true rfl) (HT.mono h ?_)
  rintro r8 σ8 - - h
  refine WP.if_ne (tgt := 16) dX8_told_11 (by decide) (fun q => ?_) (fun q => ?_)
  · have h := h.1 q
    refine WP.iload_n dX8_told_16 rfl ?_
    by_cases q0 : x2 = 0
    · have h := h.1 q0
      refine WP.tsw_at (tgt := 44) dX8_told_17 q0 (by decide) (by decide) rfl (by decide) ?_
      refine WP.aload_n dX8_told_44 rfl ?_
      refine WP.getR fd_X8_10 dX8_told_45 g0 rfl ?_
      refine WP.getR fd_X8_81 dX8_told_48 g1 rfl ?_
      refine WP.getR fd_X8_100 dX8_told_51 g8 rfl ?_
      refine WP.iload_n dX8_told_54 rfl ?_
      obtain ⟨hi, h⟩ := h
      refine WP.iald dX8_told_55 g9 hi ?_
      exact WP.iret rfl dX8_told_56 h
    by_cases q1 : x2 = 1
    · have h := h.2.1 q1
      refine WP.tsw_at (tgt := 57) dX8_told_17 q1 (by decide) (by decide) rfl (by decide) ?_
      refine WP.aload_n dX8_told_57 rfl ?_
      refine WP.getR fd_X8_10 dX8_told_58 g0 rfl ?_
      refine WP.getR fd_X8_81 dX8_told_61 g1 rfl ?_
      refine WP.getR fd_X8_103 dX8_told_64 g8 rfl ?_
      refine WP.iload_n dX8_told_67 rfl ?_
      obtain ⟨hi, h⟩ := h
      refine WP.iald dX8_told_68 g11 hi ?_
      exact WP.iret rfl dX8_told_69 h
    by_cases q2 : x2 = 2
    · have h := h.2.2.1 q2
      refine WP.tsw_at (tgt := 70) dX8_told_17 q2 (by decide) (by decide) rfl (by decide) ?_
      refine WP.aload_n dX8_told_70 rfl ?_
      refine WP.getR fd_X8_10 dX8_told_71 g0 rfl ?_
      refine WP.getR fd_X8_81 dX8_told_74 g1 rfl ?_
      refine WP.getR fd_X8_106 dX8_told_77 g8 rfl ?_
      refine WP.iload_n dX8_told_80 rfl ?_
      obtain ⟨hi, h⟩ := h
      refine WP.iald dX8_told_81 g12 hi ?_
      exact WP.iret rfl dX8_told_82 h
    have h := h.2.2.2 q0 q1 q2
    refine WP.tsw_out (tgt := 83) dX8_told_17 (by omega) (by decide) ?_
    refine WP.iconst dX8_told_83 (by decide) ?_
    exact WP.iret rfl dX8_told_84 h
  · have h := h.2 q
    refine WP.iconst dX8_told_14 (by decide) ?_
    exact WP.iret rfl dX8_told_15 h
theorem dX8_of_0 : decode cX8_of 0 = .ok (.aload_n 0, 1) := by decide +kernel
theorem dX8_of_1 : decode cX8_of 1 = .ok (.getfield 10, 3) := by decide +kernel
theorem dX8_of_4 : decode cX8_of 4 = .ok (.getfield 61, 3) := by decide +kernel
theorem dX8_of_7 : decode cX8_of 7 = .ok (.iload_n 1, 1) := by decide +kernel
theorem dX8_of_8 : decode cX8_of 8 = .ok (.invokevirtual 109, 3) := by decide +kernel
theorem dX8_of_11 : decode cX8_of 11 = .ok (.ifCond .eq 12, 3) := by decide +kernel
theorem dX8_of_14 : decode cX8_of 14 = .ok (.iload_n 2, 1) := by decide +kernel
theorem dX8_of_15 : decode cX8_of 15 = .ok (.bipush 9, 2) := by decide +kernel
theorem dX8_of_17 : decode cX8_of 17 = .ok (.invokestatic 58, 3) := by decide +kernel
theorem dX8_of_20 : decode cX8_of 20 = .ok (.ifCond .ne 5, 3) := by decide +kernel
theorem dX8_of_23 : decode cX8_of 23 = .ok (.iconst (-1), 1) := by decide +kernel
theorem dX8_of_24 : decode cX8_of 24 = .ok (.ireturn, 1) := by decide +kernel
theorem dX8_of_25 : decode cX8_of 25 = .ok (.iload_n 2, 1) := by decide +kernel
theorem dX8_of_26 : decode cX8_of 26 = .ok (.tableswitch 102 0 4 #[34, 46, 59, 72, 87], 34) := by decide +kernel
theorem dX8_of_60 : decode cX8_of 60 = .ok (.aload_n 0, 1) := by decide +kernel
theorem dX8_of_61 : decode cX8_of 61 = .ok (.getfield 10, 3) := by decide +kernel
theorem dX8_of_64 : decode cX8_of 64 = .ok (.getfield 61, 3) := by decide +kernel
theorem dX8_of_67 : decode cX8_of 67 = .ok (.iload_n 1, 1) := by decide +kernel
theorem dX8_of_68 : decode cX8_of 68 = .ok (.invokevirtual 110, 3) := by decide +kernel
theorem dX8_of_71 : decode cX8_of 71 = .ok (.ireturn, 1) := by decide +kernel
theorem dX8_of_72 : decode cX8_of 72 = .ok (.aload_n 0, 1) := by decide +kernel
theorem dX8_of_73 : decode cX8_of 73 = .ok (.getfield 10, 3) := by decide +kernel
theorem dX8_of_76 : decode cX8_of 76 = .ok (.getfield 61, 3) := by decide +kernel
theorem dX8_of_79 : decode cX8_of 79 = .ok (.getfield 114, 3) := by decide +kernel
theorem dX8_of_82 : decode cX8_of 82 = .ok (.iload_n 1, 1) := by decide +kernel
theorem dX8_of_83 : decode cX8_of 83 = .ok (.iaload, 1) := by decide +kernel
theorem dX8_of_84 : decode cX8_of 84 = .ok (.ireturn, 1) := by decide +kernel
theorem dX8_of_85 : decode cX8_of 85 = .ok (.aload_n 0, 1) := by decide +kernel
theorem dX8_of_86 : decode cX8_of 86 = .ok (.getfield 10, 3) := by decide +kernel
theorem dX8_of_89 : decode cX8_of 89 = .ok (.getfield 61, 3) := by decide +kernel
theorem dX8_of_92 : decode cX8_of 92 = .ok (.getfield 117, 3) := by decide +kernel
theorem dX8_of_95 : decode cX8_of 95 = .ok (.iload_n 1, 1) := by decide +kernel
theorem dX8_of_96 : decode cX8_of 96 = .ok (.iaload, 1) := by decide +kernel
theorem dX8_of_97 : decode cX8_of 97 = .ok (.ireturn, 1) := by decide +kernel
theorem dX8_of_98 : decode cX8_of 98 = .ok (.aload_n 0, 1) := by decide +kernel
theorem dX8_of_99 : decode cX8_of 99 = .ok (.getfield 10, 3) := by decide +kernel
theorem dX8_of_102 : decode cX8_of 102 = .ok (.getfield 81, 3) := by decide +kernel
theorem dX8_of_105 : decode cX8_of 105 = .ok (.bipush 10, 2) := by decide +kernel
theorem dX8_of_107 : decode cX8_of 107 = .ok (.iload_n 1, 1) := by decide +kernel
theorem dX8_of_108 : decode cX8_of 108 = .ok (.iadd, 1) := by decide +kernel
theorem dX8_of_109 : decode cX8_of 109 = .ok (.invokevirtual 120, 3) := by decide +kernel
theorem dX8_of_112 : decode cX8_of 112 = .ok (.ireturn, 1) := by decide +kernel
theorem dX8_of_113 : decode cX8_of 113 = .ok (.aload_n 0, 1) := by decide +kernel
theorem dX8_of_114 : decode cX8_of 114 = .ok (.getfield 10, 3) := by decide +kernel
theorem dX8_of_117 : decode cX8_of 117 = .ok (.getfield 81, 3) := by decide +kernel
theorem dX8_of_120 : decode cX8_of 120 = .ok (.bipush 20, 2) := by decide +kernel
theorem dX8_of_122 : decode cX8_of 122 = .ok (.iload_n 1, 1) := by decide +kernel
theorem dX8_of_123 : decode cX8_of 123 = .ok (.iadd, 1) := by decide +kernel
theorem dX8_of_124 : decode cX8_of 124 = .ok (.invokevirtual 120, 3) := by decide +kernel
theorem dX8_of_127 : decode cX8_of 127 = .ok (.ireturn, 1) := by decide +kernel
theorem dX8_of_128 : decode cX8_of 128 = .ok (.aload_n 0, 1) := by decide +kernel
theorem dX8_of_129 : decode cX8_of 129 = .ok (.getfield 10, 3) := by decide +kernel
theorem dX8_of_132 : decode cX8_of 132 = .ok (.getfield 61, 3) := by decide +kernel
theorem dX8_of_135 : decode cX8_of 135 = .ok (.iload_n 1, 1) := by decide +kernel
theorem dX8_of_136 : decode cX8_of 136 = .ok (.iload_n 2, 1) := by decide +kernel
theorem dX8_of_137 : decode cX8_of 137 = .ok (.iconst 5, 1) := by decide +kernel
theorem dX8_of_138 : decode cX8_of 138 = .ok (.isub, 1) := by decide +kernel
theorem dX8_of_139 : decode cX8_of 139 = .ok (.invokevirtual 123, 3) := by decide +kernel
theorem dX8_of_142 : decode cX8_of 142 = .ok (.ireturn, 1) := by decide +kernel
set_option maxRecDepth 100000 in
set_option maxHeartbeats 4000000 in
theorem e_X8_of_0 (x1 x2 : Int) {σ : Mem} {Q : Int → Mem → Prop} (h : HT GC M_X0_has [mr 3, mi x1] σ (fun r8 σ8 => (r8 = 0 → Q (-1) σ8) ∧ (¬ r8 = 0 → HT GC M_X8_within [mi x2, mi 9] σ8 (fun r17 σ17 => (¬ r17 = 0 → (x2 = 0 → HT GC M_X0_wearer [mr 3, mi x1] σ17 (fun r68 σ68 => Q r68 σ68)) ∧ (x2 = 1 → (0 ≤ x1 ∧ x1 < 4) ∧ (Q (σ17 5 x1) σ17)) ∧ (x2 = 2 → (0 ≤ x1 ∧ x1 < 4) ∧ (Q (σ17 7 x1) σ17)) ∧ (x2 = 3 → HT GC M_X6_at [mr 8, mi (jadd 10 x1)] σ17 (fun r109 σ109 => Q r109 σ109)) ∧ (x2 = 4 → HT GC M_X6_at [mr 8, mi (jadd 20 x1)] σ17 (fun r124 σ124 => Q r124 σ124)) ∧ (¬ x2 = 0 → ¬ x2 = 1 → ¬ x2 = 2 → ¬ x2 = 3 → ¬ x2 = 4 → HT GC M_X0_boyOfTurn [mr 3, mi x1, mi (jsub x2 5)] σ17 (fun r139 σ139 => Q r139 σ139))) ∧ (r17 = 0 → Q (-1) σ17))))) : HT GC M_X8_of [mr 0, mi x1, mi x2] σ Q := by
  refine HT.of pn_X8 (Nat.le_of_ble_eq_true rfl) ?_
  show WP GC M_X8_of 0 [some (mr 0), some (mi x1), some (mi x2)] [] σ Q
  refine WP.aload_n dX8_of_0 rfl ?_
  refine WP.getR fd_X8_10 dX8_of_1 g0 rfl ?_
  refine WP.getR fd_X8_61 dX8_of_4 g1 rfl ?_
  refine WP.iload_n dX8_of_7 rfl ?_
  refine WP.callV M_X0_has [mi x1] cv_X0_has dX8_of_8 lk_X8_109 g3 rfl ft_X8_of__X0_has rfl (Nat.le_of_ble_eq_true rfl) (HT.mono h ?_)
  rintro r8 σ8 - - h
  refine WP.if_eq (tgt := 23) dX8_of_11 (by decide) (fun q => ?_) (fun q => ?_)
  · have h := h.1 q
    refine WP.iconst dX8_of_23 (by decide) ?_
    exact WP.iret rfl dX8_of_24 h
  · have h := h.2 q
    refine WP.iload_n dX8_of_14 rfl ?_
    refine WP.bipush dX8_of_15 (by decide) bp_9 ?_
    refine WP.callS M_X8_within [mi x2, mi 9] cs_X8_within dX8_of_17 lk_X8_58 ft_X8_of__X8_within rfl (Nat.le_of_ble_eq_true rfl) (HT.mono h ?_)
    rintro r17 σ17 - - h
    refine WP.if_ne (tgt := 25) dX8_of_20 (by decide) (fun q => ?_) (fun q => ?_)
    · have h := h.1 q
      refine WP.iload_n dX8_of_25 rfl ?_
      by_cases q0 : x2 = 0
      · have h := h.1 q0
        refine WP.tsw_at (tgt := 60) dX8_of_26 q0 (by decide) (by decide) rfl (by decide) ?_
        refine WP.aload_n dX8_of_60 rfl ?_
        refine WP.getR fd_X8_10 dX8_of_61 g0 rfl ?_
        refine WP.getR fd_X8_61 dX8_of_64 g1 rfl ?_
        refine WP.iload_n dX8_of_67 rfl ?_
        refine WP.callV M_X0_wearer [mi x1] cv_X0_wearer dX8_of_68 lk_X8_110 g3 rfl ft_X8_of__X0_wearer rfl (Nat.le_of_ble_eq_true rfl) (HT.mono h ?_)
        rintro r68 σ68 - - h
        exact WP.iret rfl dX8_of_71 h
      by_cases q1 : x2 = 1
      · have h := h.2.1 q1
        refine WP.tsw_at (tgt := 72) dX8_of_26 q1 (by decide) (by decide) rfl (by decide) ?_
        refine WP.aload_n dX8_of_72 rfl ?_
        refine WP.getR fd_X8_10 dX8_of_73 g0 rfl ?_
        refine WP.getR fd_X8_61 dX8_of_76 g1 rfl ?_
        refine WP.getR fd_X8_114 dX8_of_79 g3 rfl ?_
        refine WP.iload_n dX8_of_82 rfl ?_
        obtain ⟨hi, h⟩ := h
        refine WP.iald dX8_of_83 g5 hi ?_
        exact WP.iret rfl dX8_of_84 h
      by_cases q2 : x2 = 2
      · have h := h.2.2.1 q2
        refine WP.tsw_at (tgt := 85) dX8_of_26 q2 (by decide) (by decide) rfl (by decide) ?_
        refine WP.aload_n dX8_of_85 rfl ?_
        refine WP.getR fd_X8_10 dX8_of_86 g0 rfl ?_
        refine WP.getR fd_X8_61 dX8_of_89 g1 rfl ?_
        refine WP.getR fd_X8_117 dX8_of_92 g3 rfl ?_
        refine WP.iload_n dX8_of_95 rfl ?_
        obtain ⟨hi, h⟩ := h
        refine WP.iald dX8_of_96 g7 hi ?_
        exact WP.iret rfl dX8_of_97 h
      by_cases q3 : x2 = 3
      · have h := h.2.2.2.1 q3
        refine WP.tsw_at (tgt := 98) dX8_of_26 q3 (by decide) (by decide) rfl (by decide) ?_
        refine WP.aload_n dX8_of_98 rfl ?_
        refine WP.getR fd_X8_10 dX8_of_99 g0 rfl ?_
        refine WP.getR fd_X8_81 dX8_of_102 g1 rfl ?_
        refine WP.bipush dX8_of_105 (by decide) bp_10 ?_
        refine WP.iload_n dX8_of_107 rfl ?_
        refine WP.iadd dX8_of_108 ?_
        refine WP.callV M_X6_at [mi (jadd 10 x1)] cv_X6_at dX8_of_109 lk_X8_120 g8 rfl ft_X8_of__X6_at rfl (Nat.le_of_ble_eq_true rfl) (HT.mono h ?_)
        rintro r109 σ109 - - h
        exact WP.iret rfl dX8_of_112 h
      by_cases q4 : x2 = 4
      · have h := h.2.2.2.2.1 q4
        refine WP.tsw_at (tgt := 113) dX8_of_26 q4 (by decide) (by decide) rfl (by decide) ?_
        refine WP.aload_n dX8_of_113 rfl ?_
        refine WP.getR fd_X8_10 dX8_of_114 g0 rfl ?_
        refine WP.getR fd_X8_81 dX8_of_117 g1 rfl ?_
        refine WP.bipush dX8_of_120 (by decide) bp_20 ?_
        refine WP.iload_n dX8_of_122 rfl ?_
        refine WP.iadd dX8_of_123 ?_
        refine WP.callV M_X6_at [mi (jadd 20 x1)] cv_X6_at dX8_of_124 lk_X8_120 g8 rfl ft_X8_of__X6_at rfl (Nat.le_of_ble_eq_true rfl) (HT.mono h ?_)
        rintro r124 σ124 - - h
        exact WP.iret rfl dX8_of_127 h
      have h := h.2.2.2.2.2 q0 q1 q2 q3 q4
      refine WP.tsw_out (tgt := 128) dX8_of_26 (by omega) (by decide) ?_
      refine WP.aload_n dX8_of_128 rfl ?_
      refine WP.getR fd_X8_10 dX8_of_129 g0 rfl ?_
      refine WP.getR fd_X8_61 dX8_of_132 g1 rfl ?_
      refine WP.iload_n dX8_of_135 rfl ?_
      refine WP.iload_n dX8_of_136 rfl ?_
      refine WP.iconst dX8_of_137 (by decide) ?_
      refine WP.isub dX8_of_138 ?_
      refine WP.callV M_X0_boyOfTurn [mi x1, mi (jsub x2 5)] cv_X0_boyOfTurn dX8_of_139 lk_X8_123 g3 rfl ft_X8_of__X0_boyOfTurn rfl (Nat.le_of_ble_eq_true rfl) (HT.mono h ?_)
      rintro r139 σ139 - - h
      exact WP.iret rfl dX8_of_142 h
    · have h := h.2 q
      refine WP.iconst dX8_of_23 (by decide) ?_
      exact WP.iret rfl dX8_of_24 h
theorem dX8_hole_0 : decode cX8_hole 0 = .ok (.aload_n 0, 1) := by decide +kernel
theorem dX8_hole_1 : decode cX8_hole 1 = .ok (.getfield 10, 3) := by decide +kernel
theorem dX8_hole_4 : decode cX8_hole 4 = .ok (.getfield 61, 3) := by decide +kernel
theorem dX8_hole_7 : decode cX8_hole 7 = .ok (.iload_n 1, 1) := by decide +kernel
theorem dX8_hole_8 : decode cX8_hole 8 = .ok (.invokevirtual 109, 3) := by decide +kernel
theorem dX8_hole_11 : decode cX8_hole 11 = .ok (.ifCond .eq 11, 3) := by decide +kernel
theorem dX8_hole_14 : decode cX8_hole 14 = .ok (.iload_n 2, 1) := by decide +kernel
theorem dX8_hole_15 : decode cX8_hole 15 = .ok (.iconst 4, 1) := by decide +kernel
theorem dX8_hole_16 : decode cX8_hole 16 = .ok (.invokestatic 58, 3) := by decide +kernel
theorem dX8_hole_19 : decode cX8_hole 19 = .ok (.ifCond .ne 5, 3) := by decide +kernel
theorem dX8_hole_22 : decode cX8_hole 22 = .ok (.iconst (-1), 1) := by decide +kernel
theorem dX8_hole_23 : decode cX8_hole 23 = .ok (.ireturn, 1) := by decide +kernel
theorem dX8_hole_24 : decode cX8_hole 24 = .ok (.aload_n 0, 1) := by decide +kernel
theorem dX8_hole_25 : decode cX8_hole 25 = .ok (.getfield 10, 3) := by decide +kernel
theorem dX8_hole_28 : decode cX8_hole 28 = .ok (.getfield 61, 3) := by decide +kernel
theorem dX8_hole_31 : decode cX8_hole 31 = .ok (.getfield 117, 3) := by decide +kernel
theorem dX8_hole_34 : decode cX8_hole 34 = .ok (.iload_n 1, 1) := by decide +kernel
theorem dX8_hole_35 : decode cX8_hole 35 = .ok (.iaload, 1) := by decide +kernel
theorem dX8_hole_36 : decode cX8_hole 36 = .ok (.istore_n 3, 1) := by decide +kernel
theorem dX8_hole_37 : decode cX8_hole 37 = .ok (.aload_n 0, 1) := by decide +kernel
theorem dX8_hole_38 : decode cX8_hole 38 = .ok (.getfield 10, 3) := by decide +kernel
theorem dX8_hole_41 : decode cX8_hole 41 = .ok (.getfield 61, 3) := by decide +kernel
theorem dX8_hole_44 : decode cX8_hole 44 = .ok (.getfield 117, 3) := by decide +kernel
theorem dX8_hole_47 : decode cX8_hole 47 = .ok (.iload_n 1, 1) := by decide +kernel
theorem dX8_hole_48 : decode cX8_hole 48 = .ok (.iload_n 2, 1) := by decide +kernel
theorem dX8_hole_49 : decode cX8_hole 49 = .ok (.iastore, 1) := by decide +kernel
theorem dX8_hole_50 : decode cX8_hole 50 = .ok (.iload_n 3, 1) := by decide +kernel
theorem dX8_hole_51 : decode cX8_hole 51 = .ok (.ireturn, 1) := by decide +kernel
set_option maxRecDepth 100000 in
set_option maxHeartbeats 4000000 in
theorem e_X8_hole_0 (x1 x2 : Int) {σ : Mem} {Q : Int → Mem → Prop} (h : HT GC M_X0_has [mr 3, mi x1] σ (fun r8 σ8 => (r8 = 0 → Q (-1) σ8) ∧ (¬ r8 = 0 → HT GC M_X8_within [mi x2, mi 4] σ8 (fun r16 σ16 => (¬ r16 = 0 → (0 ≤ x1 ∧ x1 < 4) ∧ ((0 ≤ x1 ∧ x1 < 4) ∧ (Q (σ16 7 x1) (mupd σ16 7 x1 x2)))) ∧ (r16 = 0 → Q (-1) σ16))))) : HT GC M_X8_hole [mr 0, mi x1, mi x2] σ Q := by
  refine HT.of pn_X8 (Nat.le_of_ble_eq_true rfl) ?_
  show WP GC M_X8_hole 0 [some (mr 0), some (mi x1), some (mi x2), none] [] σ Q
  refine WP.aload_n dX8_hole_0 rfl ?_
  refine WP.getR fd_X8_10 dX8_hole_1 g0 rfl ?_
  refine WP.getR fd_X8_61 dX8_hole_4 g1 rfl ?_
  refine WP.iload_n dX8_hole_7 rfl ?_
  refine WP.callV M_X0_has [mi x1] cv_X0_has dX8_hole_8 lk_X8_109 g3 rfl ft_X8_hole__X0_has rfl (Nat.le_of_ble_eq_true rfl) (HT.mono h ?_)
  rintro r8 σ8 - - h
  refine WP.if_eq (tgt := 22) dX8_hole_11 (by decide) (fun q => ?_) (fun q => ?_)
  · have h := h.1 q
    refine WP.iconst dX8_hole_22 (by decide) ?_
    exact WP.iret rfl dX8_hole_23 h
  · have h := h.2 q
    refine WP.iload_n dX8_hole_14 rfl ?_
    refine WP.iconst dX8_hole_15 (by decide) ?_
    refine WP.callS M_X8_within [mi x2, mi 4] cs_X8_within dX8_hole_16 lk_X8_58 ft_X8_hole__X8_within rfl (Nat.le_of_ble_eq_true rfl) (HT.mono h ?_)
    rintro r16 σ16 - - h
    refine WP.if_ne (tgt := 24) dX8_hole_19 (by decide) (fun q => ?_) (fun q => ?_)
    · have h := h.1 q
      refine WP.aload_n dX8_hole_24 rfl ?_
      refine WP.getR fd_X8_10 dX8_hole_25 g0 rfl ?_
      refine WP.getR fd_X8_61 dX8_hole_28 g1 rfl ?_
      refine WP.getR fd_X8_117 dX8_hole_31 g3 rfl ?_
      refine WP.iload_n dX8_hole_34 rfl ?_
      obtain ⟨hi, h⟩ := h
      refine WP.iald dX8_hole_35 g7 hi ?_
      refine WP.istore_n (L2 := [some (mr 0), some (mi x1), some (mi x2), some (mi (σ16 7 x1))]) dX8_hole_36 (by decide) rfl ?_
      refine WP.aload_n dX8_hole_37 rfl ?_
      refine WP.getR fd_X8_10 dX8_hole_38 g0 rfl ?_
      refine WP.getR fd_X8_61 dX8_hole_41 g1 rfl ?_
      refine WP.getR fd_X8_117 dX8_hole_44 g3 rfl ?_
      refine WP.iload_n dX8_hole_47 rfl ?_
      refine WP.iload_n dX8_hole_48 rfl ?_
      obtain ⟨hi, h⟩ := h
      refine WP.iast dX8_hole_49 g7 hi ?_
      refine WP.iload_n dX8_hole_50 rfl ?_
      exact WP.iret rfl dX8_hole_51 h
    · have h := h.2 q
      refine WP.iconst dX8_hole_22 (by decide) ?_
      exact WP.iret rfl dX8_hole_23 h
theorem dX8_isText_0 : decode cX8_isText 0 = .ok (.iconst 0, 1) := by decide +kernel
theorem dX8_isText_1 : decode cX8_isText 1 = .ok (.istore_n 3, 1) := by decide +kernel
theorem dX8_isText_2 : decode cX8_isText 2 = .ok (.iload_n 3, 1) := by decide +kernel
theorem dX8_isText_3 : decode cX8_isText 3 = .ok (.iload_n 2, 1) := by decide +kernel
theorem dX8_isText_4 : decode cX8_isText 4 = .ok (.if_icmp .ge 41, 3) := by decide +kernel
theorem dX8_isText_7 : decode cX8_isText 7 = .ok (.lload_n 0, 1) := by decide +kernel
theorem dX8_isText_8 : decode cX8_isText 8 = .ok (.bipush 8, 2) := by decide +kernel
theorem dX8_isText_10 : decode cX8_isText 10 = .ok (.iload_n 3, 1) := by decide +kernel
theorem dX8_isText_11 : decode cX8_isText 11 = .ok (.imul, 1) := by decide +kernel
theorem dX8_isText_12 : decode cX8_isText 12 = .ok (.lshr, 1) := by decide +kernel
theorem dX8_isText_13 : decode cX8_isText 13 = .ok (.ldc2_w 133, 3) := by decide +kernel
theorem dX8_isText_16 : decode cX8_isText 16 = .ok (.land, 1) := by decide +kernel
theorem dX8_isText_17 : decode cX8_isText 17 = .ok (.lstore 4, 2) := by decide +kernel
theorem dX8_isText_19 : decode cX8_isText 19 = .ok (.lload 4, 2) := by decide +kernel
theorem dX8_isText_21 : decode cX8_isText 21 = .ok (.ldc2_w 265, 3) := by decide +kernel
theorem dX8_isText_24 : decode cX8_isText 24 = .ok (.lcmp, 1) := by decide +kernel
theorem dX8_isText_25 : decode cX8_isText 25 = .ok (.ifCond .lt 12, 3) := by decide +kernel
theorem dX8_isText_28 : decode cX8_isText 28 = .ok (.lload 4, 2) := by decide +kernel
theorem dX8_isText_30 : decode cX8_isText 30 = .ok (.ldc2_w 267, 3) := by decide +kernel
theorem dX8_isText_33 : decode cX8_isText 33 = .ok (.lcmp, 1) := by decide +kernel
theorem dX8_isText_34 : decode cX8_isText 34 = .ok (.ifCond .le 5, 3) := by decide +kernel
theorem dX8_isText_37 : decode cX8_isText 37 = .ok (.iconst 0, 1) := by decide +kernel
theorem dX8_isText_38 : decode cX8_isText 38 = .ok (.ireturn, 1) := by decide +kernel
theorem dX8_isText_39 : decode cX8_isText 39 = .ok (.iinc 3 1, 3) := by decide +kernel
theorem dX8_isText_42 : decode cX8_isText 42 = .ok (.goto (-40), 3) := by decide +kernel
theorem dX8_isText_45 : decode cX8_isText 45 = .ok (.iconst 1, 1) := by decide +kernel
theorem dX8_isText_46 : decode cX8_isText 46 = .ok (.ireturn, 1) := by decide +kernel
set_option maxRecDepth 100000 in
set_option maxHeartbeats 4000000 in
theorem e_X8_isText (y0 x2 : Int) {σ : Mem} {Q : Int → Mem → Prop} (h : WP GC M_X8_isText 2 [some (ml y0), none, some (mi x2), some (mi 0), none, none] [] σ Q) : HT GC M_X8_isText [ml y0, mi x2] σ Q := by
  refine HT.of pn_X8 (Nat.le_of_ble_eq_true rfl) ?_
  show WP GC M_X8_isText 0 [some (ml y0), none, some (mi x2), none, none, none] [] σ Q
  refine WP.iconst dX8_isText_0 (by decide) ?_
  refine WP.istore_n (L2 := [some (ml y0), none, some (mi x2), some (mi 0), none, none]) dX8_isText_1 (by decide) rfl ?_
  exact h
set_option maxRecDepth 100000 in
set_option maxHeartbeats 4000000 in
theorem b_X8_isText_2 (y0 x2 x3 : Int) {σ : Mem} {Q : Int → Mem → Prop} (h : (x2 ≤ x3 → Q 1 σ) ∧ (¬ x2 ≤ x3 → (lcmpM (jland (jlshr y0 (jmul 8 x3)) 255) 32 < 0 → Q 0 σ) ∧ (¬ lcmpM (jland (jlshr y0 (jmul 8 x3)) 255) 32 < 0 → (lcmpM (jland (jlshr y0 (jmul 8 x3)) 255) 126 ≤ 0 → WP GC M_X8_isText 2 [some (ml y0), none, some (mi x2), some (mi (jadd x3 1)), none, none] [] σ Q) ∧ (¬ lcmpM (jland (jlshr y0 (jmul 8 x3)) 255) 126 ≤ 0 → Q 0 σ)))) : WP GC M_X8_isText 2 [some (ml y0), none, some (mi x2), some (mi x3), none, none] [] σ Q := by
  refine WP.iload_n dX8_isText_2 rfl ?_
  refine WP.iload_n dX8_isText_3 rfl ?_
  refine WP.icmp_ge (tgt := 45) dX8_isText_4 (by decide) (fun q => ?_) (fun q => ?_)
  · have h := h.1 q
    refine WP.iconst dX8_isText_45 (by decide) ?_
    exact WP.zret rfl dX8_isText_46 (by decide) h
  · have h := h.2 q
    refine WP.lload_n dX8_isText_7 rfl ?_
    refine WP.bipush dX8_isText_8 (by decide) bp_8 ?_
    refine WP.iload_n dX8_isText_10 rfl ?_
    refine WP.imul dX8_isText_11 ?_
    refine WP.lshr dX8_isText_12 ?_
    refine WP.ldc2 (x := 255) dX8_isText_13 ct_X8_133 (by decide) (by decide) ?_
    refine WP.land dX8_isText_16 ?_
    refine WP.lstore (L2 := [some (ml y0), none, some (mi x2), some (mi x3), some (ml (jland (jlshr y0 (jmul 8 x3)) 255)), none]) dX8_isText_17 (by decide) rfl ?_
    refine WP.lload dX8_isText_19 rfl ?_
    refine WP.ldc2 (x := 32) dX8_isText_21 ct_X8_265 (by decide) (by decide) ?_
    refine WP.lcmp dX8_isText_24 ?_
    refine WP.if_lt (tgt := 37) dX8_isText_25 (by decide) (fun q => ?_) (fun q => ?_)
    · have h := h.1 q
      refine WP.iconst dX8_isText_37 (by decide) ?_
      exact WP.zret rfl dX8_isText_38 (by decide) h
    · have h := h.2 q
      refine WP.lload dX8_isText_28 rfl ?_
      refine WP.ldc2 (x := 126) dX8_isText_30 ct_X8_267 (by decide) (by decide) ?_
      refine WP.lcmp dX8_isText_33 ?_
      refine WP.if_le (tgt := 39) dX8_isText_34 (by decide) (fun q => ?_) (fun q => ?_)
      · have h := h.1 q
        refine WP.iinc (L2 := [some (ml y0), none, some (mi x2), some (mi (jadd x3 1)), some (ml (jland (jlshr y0 (jmul 8 x3)) 255)), none]) dX8_isText_39 (by decide) rfl (by decide) rfl ?_
        refine WP.goto (tgt := 2) dX8_isText_42 (by decide) ?_
        refine WP.drop 4 (L2 := [some (ml y0), none, some (mi x2), some (mi (jadd x3 1)), none, none]) rfl ?_
        exact h
      · have h := h.2 q
        refine WP.iconst dX8_isText_37 (by decide) ?_
        exact WP.zret rfl dX8_isText_38 (by decide) h
theorem dX8_type_0 : decode cX8_type 0 = .ok (.iload_n 3, 1) := by decide +kernel
theorem dX8_type_1 : decode cX8_type 1 = .ok (.iconst 1, 1) := by decide +kernel
theorem dX8_type_2 : decode cX8_type 2 = .ok (.if_icmp .lt 17, 3) := by decide +kernel
theorem dX8_type_5 : decode cX8_type 5 = .ok (.iload_n 3, 1) := by decide +kernel
theorem dX8_type_6 : decode cX8_type 6 = .ok (.bipush 8, 2) := by decide +kernel
theorem dX8_type_8 : decode cX8_type 8 = .ok (.if_icmp .gt 11, 3) := by decide +kernel
theorem dX8_type_11 : decode cX8_type 11 = .ok (.lload_n 1, 1) := by decide +kernel
theorem dX8_type_12 : decode cX8_type 12 = .ok (.iload_n 3, 1) := by decide +kernel
theorem dX8_type_13 : decode cX8_type 13 = .ok (.invokestatic 126, 3) := by decide +kernel
theorem dX8_type_16 : decode cX8_type 16 = .ok (.ifCond .ne 5, 3) := by decide +kernel
theorem dX8_type_19 : decode cX8_type 19 = .ok (.iconst (-1), 1) := by decide +kernel
theorem dX8_type_20 : decode cX8_type 20 = .ok (.ireturn, 1) := by decide +kernel
theorem dX8_type_21 : decode cX8_type 21 = .ok (.aload_n 0, 1) := by decide +kernel
theorem dX8_type_22 : decode cX8_type 22 = .ok (.getfield 22, 3) := by decide +kernel
theorem dX8_type_25 : decode cX8_type 25 = .ok (.getfield 130, 3) := by decide +kernel
theorem dX8_type_28 : decode cX8_type 28 = .ok (.iload_n 3, 1) := by decide +kernel
theorem dX8_type_29 : decode cX8_type 29 = .ok (.iadd, 1) := by decide +kernel
theorem dX8_type_30 : decode cX8_type 30 = .ok (.bipush 100, 2) := by decide +kernel
theorem dX8_type_32 : decode cX8_type 32 = .ok (.if_icmp .le 6, 3) := by decide +kernel
theorem dX8_type_35 : decode cX8_type 35 = .ok (.bipush (-3), 2) := by decide +kernel
theorem dX8_type_37 : decode cX8_type 37 = .ok (.ireturn, 1) := by decide +kernel
theorem dX8_type_38 : decode cX8_type 38 = .ok (.iload_n 3, 1) := by decide +kernel
theorem dX8_type_39 : decode cX8_type 39 = .ok (.iconst 1, 1) := by decide +kernel
theorem dX8_type_40 : decode cX8_type 40 = .ok (.isub, 1) := by decide +kernel
theorem dX8_type_41 : decode cX8_type 41 = .ok (.istore 4, 2) := by decide +kernel
theorem dX8_type_43 : decode cX8_type 43 = .ok (.iload 4, 2) := by decide +kernel
theorem dX8_type_45 : decode cX8_type 45 = .ok (.ifCond .lt 28, 3) := by decide +kernel
theorem dX8_type_48 : decode cX8_type 48 = .ok (.aload_n 0, 1) := by decide +kernel
theorem dX8_type_49 : decode cX8_type 49 = .ok (.getfield 22, 3) := by decide +kernel
theorem dX8_type_52 : decode cX8_type 52 = .ok (.lload_n 1, 1) := by decide +kernel
theorem dX8_type_53 : decode cX8_type 53 = .ok (.bipush 8, 2) := by decide +kernel
theorem dX8_type_55 : decode cX8_type 55 = .ok (.iload 4, 2) := by decide +kernel
theorem dX8_type_57 : decode cX8_type 57 = .ok (.imul, 1) := by decide +kernel
theorem dX8_type_58 : decode cX8_type 58 = .ok (.lshr, 1) := by decide +kernel
theorem dX8_type_59 : decode cX8_type 59 = .ok (.ldc2_w 133, 3) := by decide +kernel
theorem dX8_type_62 : decode cX8_type 62 = .ok (.land, 1) := by decide +kernel
theorem dX8_type_63 : decode cX8_type 63 = .ok (.l2i, 1) := by decide +kernel
theorem dX8_type_64 : decode cX8_type 64 = .ok (.invokevirtual 135, 3) := by decide +kernel
theorem dX8_type_67 : decode cX8_type 67 = .ok (.iinc 4 (-1), 3) := by decide +kernel
theorem dX8_type_70 : decode cX8_type 70 = .ok (.goto (-27), 3) := by decide +kernel
theorem dX8_type_73 : decode cX8_type 73 = .ok (.aload_n 0, 1) := by decide +kernel
theorem dX8_type_74 : decode cX8_type 74 = .ok (.getfield 22, 3) := by decide +kernel
theorem dX8_type_77 : decode cX8_type 77 = .ok (.getfield 130, 3) := by decide +kernel
theorem dX8_type_80 : decode cX8_type 80 = .ok (.ireturn, 1) := by decide +kernel
set_option maxRecDepth 100000 in
set_option maxHeartbeats 4000000 in
theorem e_X8_type_0 (y1 x3 : Int) {σ : Mem} {Q : Int → Mem → Prop} (h : (x3 < 1 → Q (-1) σ) ∧ (¬ x3 < 1 → (8 < x3 → Q (-1) σ) ∧ (¬ 8 < x3 → HT GC M_X8_isText [ml y1, mi x3] σ (fun r13 σ13 => (¬ r13 = 0 → (jadd (σ13 25 1) x3 ≤ 100 → WP GC M_X8_type 43 [some (mr 0), some (ml y1), none, none, some (mi (jsub x3 1))] [] σ13 Q) ∧ (¬ jadd (σ13 25 1) x3 ≤ 100 → Q (-3) σ13)) ∧ (r13 = 0 → Q (-1) σ13))))) : HT GC M_X8_type [mr 0, ml y1, mi x3] σ Q := by
  refine HT.of pn_X8 (Nat.le_of_ble_eq_true rfl) ?_
  show WP GC M_X8_type 0 [some (mr 0), some (ml y1), none, some (mi x3), none] [] σ Q
  refine WP.iload_n dX8_type_0 rfl ?_
  refine WP.iconst dX8_type_1 (by decide) ?_
  refine WP.icmp_lt (tgt := 19) dX8_type_2 (by decide) (fun q => ?_) (fun q => ?_)
  · have h := h.1 q
    refine WP.iconst dX8_type_19 (by decide) ?_
    exact WP.iret rfl dX8_type_20 h
  · have h := h.2 q
    refine WP.iload_n dX8_type_5 rfl ?_
    refine WP.bipush dX8_type_6 (by decide) bp_8 ?_
    refine WP.icmp_gt (tgt := 19) dX8_type_8 (by decide) (fun q => ?_) (fun q => ?_)
    · have h := h.1 q
      refine WP.iconst dX8_type_19 (by decide) ?_
      exact WP.iret rfl dX8_type_20 h
    · have h := h.2 q
      refine WP.lload_n dX8_type_11 rfl ?_
      refine WP.iload_n dX8_type_12 rfl ?_
      refine WP.callS M_X8_isText [ml y1, mi x3] cs_X8_isText dX8_type_13 lk_X8_126 ft_X8_type__X8_isText rfl (Nat.le_of_ble_eq_true rfl) (HT.mono h ?_)
      rintro r13 σ13 - - h
      refine WP.if_ne (tgt := 21) dX8_type_16 (by decide) (fun q => ?_) (fun q => ?_)
      · have h := h.1 q
        refine WP.aload_n dX8_type_21 rfl ?_
        refine WP.getR fd_X8_22 dX8_type_22 g0 rfl ?_
        refine WP.getI (v := σ13 25 1) fd_X8_130 dX8_type_25 g25 rfl rfl ?_
        refine WP.iload_n dX8_type_28 rfl ?_
        refine WP.iadd dX8_type_29 ?_
        refine WP.bipush dX8_type_30 (by decide) bp_100 ?_
        refine WP.icmp_le (tgt := 38) dX8_type_32 (by decide) (fun q => ?_) (fun q => ?_)
        · have h := h.1 q
          refine WP.iload_n dX8_type_38 rfl ?_
          refine WP.iconst dX8_type_39 (by decide) ?_
          refine WP.isub dX8_type_40 ?_
          refine WP.istore (L2 := [some (mr 0), some (ml y1), none, some (mi x3), some (mi (jsub x3 1))]) dX8_type_41 (by decide) rfl ?_
          refine WP.drop 3 (L2 := [some (mr 0), some (ml y1), none, none, some (mi (jsub x3 1))]) rfl ?_
          exact h
        · have h := h.2 q
          refine WP.bipush dX8_type_35 (by decide) bp_m3 ?_
          exact WP.iret rfl dX8_type_37 h
      · have h := h.2 q
        refine WP.iconst dX8_type_19 (by decide) ?_
        exact WP.iret rfl dX8_type_20 h
set_option maxRecDepth 100000 in
set_option maxHeartbeats 4000000 in
theorem b_X8_type_0_43 (y1 x4 : Int) {σ : Mem} {Q : Int → Mem → Prop} (h : (x4 < 0 → Q (σ 25 1) σ) ∧ (¬ x4 < 0 → HT GC M_X5_append [mr 25, mi (jl2i (jland (jlshr y1 (jmul 8 x4)) 255))] σ (fun _ σ64 => WP GC M_X8_type 43 [some (mr 0), some (ml y1), none, none, some (mi (jadd x4 (-1)))] [] σ64 Q))) : WP GC M_X8_type 43 [some (mr 0), some (ml y1), none, none, some (mi x4)] [] σ Q := by
  refine WP.iload dX8_type_43 rfl ?_
  refine WP.if_lt (tgt := 73) dX8_type_45 (by decide) (fun q => ?_) (fun q => ?_)
  · have h := h.1 q
    refine WP.aload_n dX8_type_73 rfl ?_
    refine WP.getR fd_X8_22 dX8_type_74 g0 rfl ?_
    refine WP.getI (v := σ 25 1) fd_X8_130 dX8_type_77 g25 rfl rfl ?_
    exact WP.iret rfl dX8_type_80 h
  · have h := h.2 q
    refine WP.aload_n dX8_type_48 rfl ?_
    refine WP.getR fd_X8_22 dX8_type_49 g0 rfl ?_
    refine WP.lload_n dX8_type_52 rfl ?_
    refine WP.bipush dX8_type_53 (by decide) bp_8 ?_
    refine WP.iload dX8_type_55 rfl ?_
    refine WP.imul dX8_type_57 ?_
    refine WP.lshr dX8_type_58 ?_
    refine WP.ldc2 (x := 255) dX8_type_59 ct_X8_133 (by decide) (by decide) ?_
    refine WP.land dX8_type_62 ?_
    refine WP.l2i dX8_type_63 ?_
    refine WP.callV M_X5_append [mi (jl2i (jland (jlshr y1 (jmul 8 x4)) 255))] cv_X5_append dX8_type_64 lk_X8_135 g25 rfl ft_X8_type__X5_append rfl (Nat.le_of_ble_eq_true rfl) (HT.mono h ?_)
    rintro _ σ64 - - h
    refine WP.iinc (L2 := [some (mr 0), some (ml y1), none, none, some (mi (jadd x4 (-1)))]) dX8_type_67 (by decide) rfl (by decide) rfl ?_
    refine WP.goto (tgt := 43) dX8_type_70 (by decide) ?_
    exact h
theorem dX8_school_0 : decode cX8_school 0 = .ok (.aload_n 0, 1) := by decide +kernel
theorem dX8_school_1 : decode cX8_school 1 = .ok (.getfield 29, 3) := by decide +kernel
theorem dX8_school_4 : decode cX8_school 4 = .ok (.aload_n 0, 1) := by decide +kernel
theorem dX8_school_5 : decode cX8_school 5 = .ok (.getfield 22, 3) := by decide +kernel
theorem dX8_school_8 : decode cX8_school 8 = .ok (.invokevirtual 138, 3) := by decide +kernel
theorem dX8_school_11 : decode cX8_school 11 = .ok (.istore_n 1, 1) := by decide +kernel
theorem dX8_school_12 : decode cX8_school 12 = .ok (.aload_n 0, 1) := by decide +kernel
theorem dX8_school_13 : decode cX8_school 13 = .ok (.getfield 22, 3) := by decide +kernel
theorem dX8_school_16 : decode cX8_school 16 = .ok (.invokevirtual 142, 3) := by decide +kernel
theorem dX8_school_19 : decode cX8_school 19 = .ok (.iload_n 1, 1) := by decide +kernel
theorem dX8_school_20 : decode cX8_school 20 = .ok (.ifCond .eq 5, 3) := by decide +kernel
theorem dX8_school_23 : decode cX8_school 23 = .ok (.iload_n 1, 1) := by decide +kernel
theorem dX8_school_24 : decode cX8_school 24 = .ok (.ireturn, 1) := by decide +kernel
theorem dX8_school_25 : decode cX8_school 25 = .ok (.aload_n 0, 1) := by decide +kernel
theorem dX8_school_26 : decode cX8_school 26 = .ok (.getfield 10, 3) := by decide +kernel
theorem dX8_school_29 : decode cX8_school 29 = .ok (.getfield 61, 3) := by decide +kernel
theorem dX8_school_32 : decode cX8_school 32 = .ok (.aload_n 0, 1) := by decide +kernel
theorem dX8_school_33 : decode cX8_school 33 = .ok (.getfield 29, 3) := by decide +kernel
theorem dX8_school_36 : decode cX8_school 36 = .ok (.getfield 145, 3) := by decide +kernel
theorem dX8_school_39 : decode cX8_school 39 = .ok (.invokevirtual 146, 3) := by decide +kernel
theorem dX8_school_42 : decode cX8_school 42 = .ok (.aload_n 0, 1) := by decide +kernel
theorem dX8_school_43 : decode cX8_school 43 = .ok (.getfield 10, 3) := by decide +kernel
theorem dX8_school_46 : decode cX8_school 46 = .ok (.getfield 81, 3) := by decide +kernel
theorem dX8_school_49 : decode cX8_school 49 = .ok (.invokevirtual 150, 3) := by decide +kernel
theorem dX8_school_52 : decode cX8_school 52 = .ok (.aload_n 0, 1) := by decide +kernel
theorem dX8_school_53 : decode cX8_school 53 = .ok (.getfield 10, 3) := by decide +kernel
theorem dX8_school_56 : decode cX8_school 56 = .ok (.getfield 61, 3) := by decide +kernel
theorem dX8_school_59 : decode cX8_school 59 = .ok (.getfield 65, 3) := by decide +kernel
theorem dX8_school_62 : decode cX8_school 62 = .ok (.ireturn, 1) := by decide +kernel
set_option maxRecDepth 100000 in
set_option maxHeartbeats 4000000 in
theorem e_X8_school_0 {σ : Mem} {Q : Int → Mem → Prop} (h : HT GC M_X2_readSchool [mr 27, mr 25] σ (fun r8 σ8 => HT GC M_X5_clear [mr 25] σ8 (fun _ σ16 => (r8 = 0 → HT GC M_X0_become [mr 3, mr 28] σ16 (fun _ σ39 => HT GC M_X6_leaveCoats [mr 8] σ39 (fun _ σ49 => Q (σ49 3 0) σ49))) ∧ (¬ r8 = 0 → Q r8 σ16)))) : HT GC M_X8_school [mr 0] σ Q := by
  refine HT.of pn_X8 (Nat.le_of_ble_eq_true rfl) ?_
  show WP GC M_X8_school 0 [some (mr 0), none] [] σ Q
  refine WP.aload_n dX8_school_0 rfl ?_
  refine WP.getR fd_X8_29 dX8_school_1 g0 rfl ?_
  refine WP.aload_n dX8_school_4 rfl ?_
  refine WP.getR fd_X8_22 dX8_school_5 g0 rfl ?_
  refine WP.callV M_X2_readSchool [mr 25] cv_X2_readSchool dX8_school_8 lk_X8_138 g27 rfl ft_X8_school__X2_readSchool rfl (Nat.le_of_ble_eq_true rfl) (HT.mono h ?_)
  rintro r8 σ8 - - h
  refine WP.istore_n (L2 := [some (mr 0), some (mi r8)]) dX8_school_11 (by decide) rfl ?_
  refine WP.aload_n dX8_school_12 rfl ?_
  refine WP.getR fd_X8_22 dX8_school_13 g0 rfl ?_
  refine WP.callV M_X5_clear [] cv_X5_clear dX8_school_16 lk_X8_142 g25 rfl ft_X8_school__X5_clear rfl (Nat.le_of_ble_eq_true rfl) (HT.mono h ?_)
  rintro _ σ16 - - h
  refine WP.iload_n dX8_school_19 rfl ?_
  refine WP.if_eq (tgt := 25) dX8_school_20 (by decide) (fun q => ?_) (fun q => ?_)
  · have h := h.1 q
    refine WP.aload_n dX8_school_25 rfl ?_
    refine WP.getR fd_X8_10 dX8_school_26 g0 rfl ?_
    refine WP.getR fd_X8_61 dX8_school_29 g1 rfl ?_
    refine WP.aload_n dX8_school_32 rfl ?_
    refine WP.getR fd_X8_29 dX8_school_33 g0 rfl ?_
    refine WP.getR fd_X8_145 dX8_school_36 g27 rfl ?_
    refine WP.callV M_X0_become [mr 28] cv_X0_become dX8_school_39 lk_X8_146 g3 rfl ft_X8_school__X0_become rfl (Nat.le_of_ble_eq_true rfl) (HT.mono h ?_)
    rintro _ σ39 - - h
    refine WP.aload_n dX8_school_42 rfl ?_
    refine WP.getR fd_X8_10 dX8_school_43 g0 rfl ?_
    refine WP.getR fd_X8_81 dX8_school_46 g1 rfl ?_
    refine WP.callV M_X6_leaveCoats [] cv_X6_leaveCoats dX8_school_49 lk_X8_150 g8 rfl ft_X8_school__X6_leaveCoats rfl (Nat.le_of_ble_eq_true rfl) (HT.mono h ?_)
    rintro _ σ49 - - h
    refine WP.aload_n dX8_school_52 rfl ?_
    refine WP.getR fd_X8_10 dX8_school_53 g0 rfl ?_
    refine WP.getR fd_X8_61 dX8_school_56 g1 rfl ?_
    refine WP.getI (v := σ49 3 0) fd_X8_65 dX8_school_59 g3 rfl rfl ?_
    exact WP.iret rfl dX8_school_62 h
  · have h := h.2 q
    refine WP.iload_n dX8_school_23 rfl ?_
    exact WP.iret rfl dX8_school_24 h
theorem dX8_day_0 : decode cX8_day 0 = .ok (.aload_n 0, 1) := by decide +kernel
theorem dX8_day_1 : decode cX8_day 1 = .ok (.getfield 29, 3) := by decide +kernel
theorem dX8_day_4 : decode cX8_day 4 = .ok (.aload_n 0, 1) := by decide +kernel
theorem dX8_day_5 : decode cX8_day 5 = .ok (.getfield 22, 3) := by decide +kernel
theorem dX8_day_8 : decode cX8_day 8 = .ok (.aload_n 0, 1) := by decide +kernel
theorem dX8_day_9 : decode cX8_day 9 = .ok (.getfield 10, 3) := by decide +kernel
theorem dX8_day_12 : decode cX8_day 12 = .ok (.invokevirtual 153, 3) := by decide +kernel
theorem dX8_day_15 : decode cX8_day 15 = .ok (.istore_n 1, 1) := by decide +kernel
theorem dX8_day_16 : decode cX8_day 16 = .ok (.iload_n 1, 1) := by decide +kernel
theorem dX8_day_17 : decode cX8_day 17 = .ok (.ifCond .ne 21, 3) := by decide +kernel
theorem dX8_day_20 : decode cX8_day 20 = .ok (.aload_n 0, 1) := by decide +kernel
theorem dX8_day_21 : decode cX8_day 21 = .ok (.getfield 29, 3) := by decide +kernel
theorem dX8_day_24 : decode cX8_day 24 = .ok (.aload_n 0, 1) := by decide +kernel
theorem dX8_day_25 : decode cX8_day 25 = .ok (.getfield 22, 3) := by decide +kernel
theorem dX8_day_28 : decode cX8_day 28 = .ok (.aload_n 0, 1) := by decide +kernel
theorem dX8_day_29 : decode cX8_day 29 = .ok (.getfield 10, 3) := by decide +kernel
theorem dX8_day_32 : decode cX8_day 32 = .ok (.invokevirtual 157, 3) := by decide +kernel
theorem dX8_day_35 : decode cX8_day 35 = .ok (.goto 4, 3) := by decide +kernel
theorem dX8_day_38 : decode cX8_day 38 = .ok (.iload_n 1, 1) := by decide +kernel
theorem dX8_day_39 : decode cX8_day 39 = .ok (.istore_n 2, 1) := by decide +kernel
theorem dX8_day_40 : decode cX8_day 40 = .ok (.aload_n 0, 1) := by decide +kernel
theorem dX8_day_41 : decode cX8_day 41 = .ok (.getfield 22, 3) := by decide +kernel
theorem dX8_day_44 : decode cX8_day 44 = .ok (.invokevirtual 142, 3) := by decide +kernel
theorem dX8_day_47 : decode cX8_day 47 = .ok (.iload_n 2, 1) := by decide +kernel
theorem dX8_day_48 : decode cX8_day 48 = .ok (.ireturn, 1) := by decide +kernel
set_option maxRecDepth 100000 in
set_option maxHeartbeats 4000000 in
theorem e_X8_day_0 {σ : Mem} {Q : Int → Mem → Prop} (h : HT GC M_X2_checkDay [mr 27, mr 25, mr 1] σ (fun r12 σ12 => (¬ r12 = 0 → WP GC M_X8_day 39 [some (mr 0), none, none] [mi r12] σ12 Q) ∧ (r12 = 0 → HT GC M_X2_runDay [mr 27, mr 25, mr 1] σ12 (fun r32 σ32 => WP GC M_X8_day 39 [some (mr 0), none, none] [mi r32] σ32 Q)))) : HT GC M_X8_day [mr 0] σ Q := by
  refine HT.of pn_X8 (Nat.le_of_ble_eq_true rfl) ?_
  show WP GC M_X8_day 0 [some (mr 0), none, none] [] σ Q
  refine WP.aload_n dX8_day_0 rfl ?_
  refine WP.getR fd_X8_29 dX8_day_1 g0 rfl ?_
  refine WP.aload_n dX8_day_4 rfl ?_
  refine WP.getR fd_X8_22 dX8_day_5 g0 rfl ?_
  refine WP.aload_n dX8_day_8 rfl ?_
  refine WP.getR fd_X8_10 dX8_day_9 g0 rfl ?_
  refine WP.callV M_X2_checkDay [mr 25, mr 1] cv_X2_checkDay dX8_day_12 lk_X8_153 g27 rfl ft_X8_day__X2_checkDay rfl (Nat.le_of_ble_eq_true rfl) (HT.mono h ?_)
  rintro r12 σ12 - - h
  refine WP.istore_n (L2 := [some (mr 0), some (mi r12), none]) dX8_day_15 (by decide) rfl ?_
  refine WP.iload_n dX8_day_16 rfl ?_
  refine WP.if_ne (tgt := 38) dX8_day_17 (by decide) (fun q => ?_) (fun q => ?_)
  · have h := h.1 q
    refine WP.iload_n dX8_day_38 rfl ?_
    refine WP.drop 1 (L2 := [some (mr 0), none, none]) rfl ?_
    exact h
  · have h := h.2 q
    refine WP.aload_n dX8_day_20 rfl ?_
    refine WP.getR fd_X8_29 dX8_day_21 g0 rfl ?_
    refine WP.aload_n dX8_day_24 rfl ?_
    refine WP.getR fd_X8_22 dX8_day_25 g0 rfl ?_
    refine WP.aload_n dX8_day_28 rfl ?_
    refine WP.getR fd_X8_10 dX8_day_29 g0 rfl ?_
    refine WP.callV M_X2_runDay [mr 25, mr 1] cv_X2_runDay dX8_day_32 lk_X8_157 g27 rfl ft_X8_day__X2_runDay rfl (Nat.le_of_ble_eq_true rfl) (HT.mono h ?_)
    rintro r32 σ32 - - h
    refine WP.goto (tgt := 39) dX8_day_35 (by decide) ?_
    refine WP.drop 1 (L2 := [some (mr 0), none, none]) rfl ?_
    exact h
set_option maxRecDepth 100000 in
set_option maxHeartbeats 4000000 in
theorem b_X8_day_0_39 (s0 : Int) {σ : Mem} {Q : Int → Mem → Prop} (h : HT GC M_X5_clear [mr 25] σ (fun _ σ44 => Q s0 σ44)) : WP GC M_X8_day 39 [some (mr 0), none, none] [mi s0] σ Q := by
  refine WP.istore_n (L2 := [some (mr 0), none, some (mi s0)]) dX8_day_39 (by decide) rfl ?_
  refine WP.aload_n dX8_day_40 rfl ?_
  refine WP.getR fd_X8_22 dX8_day_41 g0 rfl ?_
  refine WP.callV M_X5_clear [] cv_X5_clear dX8_day_44 lk_X8_142 g25 rfl ft_X8_day__X5_clear rfl (Nat.le_of_ble_eq_true rfl) (HT.mono h ?_)
  rintro _ σ44 - - h
  refine WP.iload_n dX8_day_47 rfl ?_
  exact WP.iret rfl dX8_day_48 h
theorem dX8_count_0 : decode cX8_count 0 = .ok (.iload_n 1, 1) := by decide +kernel
theorem dX8_count_1 : decode cX8_count 1 = .ok (.tableswitch 114 0 5 #[39, 50, 61, 69, 84, 99], 39) := by decide +kernel
theorem dX8_count_40 : decode cX8_count 40 = .ok (.aload_n 0, 1) := by decide +kernel
theorem dX8_count_41 : decode cX8_count 41 = .ok (.getfield 10, 3) := by decide +kernel
theorem dX8_count_44 : decode cX8_count 44 = .ok (.getfield 61, 3) := by decide +kernel
theorem dX8_count_47 : decode cX8_count 47 = .ok (.getfield 65, 3) := by decide +kernel
theorem dX8_count_50 : decode cX8_count 50 = .ok (.ireturn, 1) := by decide +kernel
theorem dX8_count_51 : decode cX8_count 51 = .ok (.aload_n 0, 1) := by decide +kernel
theorem dX8_count_52 : decode cX8_count 52 = .ok (.getfield 10, 3) := by decide +kernel
theorem dX8_count_55 : decode cX8_count 55 = .ok (.getfield 81, 3) := by decide +kernel
theorem dX8_count_58 : decode cX8_count 58 = .ok (.getfield 85, 3) := by decide +kernel
theorem dX8_count_61 : decode cX8_count 61 = .ok (.ireturn, 1) := by decide +kernel
theorem dX8_count_62 : decode cX8_count 62 = .ok (.aload_n 0, 1) := by decide +kernel
theorem dX8_count_63 : decode cX8_count 63 = .ok (.getfield 10, 3) := by decide +kernel
theorem dX8_count_66 : decode cX8_count 66 = .ok (.getfield 160, 3) := by decide +kernel
theorem dX8_count_69 : decode cX8_count 69 = .ok (.ireturn, 1) := by decide +kernel
theorem dX8_count_70 : decode cX8_count 70 = .ok (.aload_n 0, 1) := by decide +kernel
theorem dX8_count_71 : decode cX8_count 71 = .ok (.getfield 10, 3) := by decide +kernel
theorem dX8_count_74 : decode cX8_count 74 = .ok (.getfield 81, 3) := by decide +kernel
theorem dX8_count_77 : decode cX8_count 77 = .ok (.bipush 10, 2) := by decide +kernel
theorem dX8_count_79 : decode cX8_count 79 = .ok (.bipush 20, 2) := by decide +kernel
theorem dX8_count_81 : decode cX8_count 81 = .ok (.invokevirtual 163, 3) := by decide +kernel
theorem dX8_count_84 : decode cX8_count 84 = .ok (.ireturn, 1) := by decide +kernel
theorem dX8_count_85 : decode cX8_count 85 = .ok (.aload_n 0, 1) := by decide +kernel
theorem dX8_count_86 : decode cX8_count 86 = .ok (.getfield 10, 3) := by decide +kernel
theorem dX8_count_89 : decode cX8_count 89 = .ok (.getfield 81, 3) := by decide +kernel
theorem dX8_count_92 : decode cX8_count 92 = .ok (.bipush 20, 2) := by decide +kernel
theorem dX8_count_94 : decode cX8_count 94 = .ok (.bipush 30, 2) := by decide +kernel
theorem dX8_count_96 : decode cX8_count 96 = .ok (.invokevirtual 163, 3) := by decide +kernel
theorem dX8_count_99 : decode cX8_count 99 = .ok (.ireturn, 1) := by decide +kernel
theorem dX8_count_100 : decode cX8_count 100 = .ok (.aload_n 0, 1) := by decide +kernel
theorem dX8_count_101 : decode cX8_count 101 = .ok (.getfield 10, 3) := by decide +kernel
theorem dX8_count_104 : decode cX8_count 104 = .ok (.getfield 81, 3) := by decide +kernel
theorem dX8_count_107 : decode cX8_count 107 = .ok (.bipush 30, 2) := by decide +kernel
theorem dX8_count_109 : decode cX8_count 109 = .ok (.bipush 31, 2) := by decide +kernel
theorem dX8_count_111 : decode cX8_count 111 = .ok (.invokevirtual 163, 3) := by decide +kernel
theorem dX8_count_114 : decode cX8_count 114 = .ok (.ireturn, 1) := by decide +kernel
theorem dX8_count_115 : decode cX8_count 115 = .ok (.iconst (-1), 1) := by decide +kernel
theorem dX8_count_116 : decode cX8_count 116 = .ok (.ireturn, 1) := by decide +kernel
set_option maxRecDepth 100000 in
set_option maxHeartbeats 4000000 in
theorem e_X8_count_0 (x1 : Int) {σ : Mem} {Q : Int → Mem → Prop} (h : (x1 = 0 → Q (σ 3 0) σ) ∧ (x1 = 1 → Q (σ 8 0) σ) ∧ (x1 = 2 → Q (σ 1 3) σ) ∧ (x1 = 3 → HT GC M_X6_between [mr 8, mi 10, mi 20] σ (fun r81 σ81 => Q r81 σ81)) ∧ (x1 = 4 → HT GC M_X6_between [mr 8, mi 20, mi 30] σ (fun r96 σ96 => Q r96 σ96)) ∧ (x1 = 5 → HT GC M_X6_between [mr 8, mi 30, mi 31] σ (fun r111 σ111 => Q r111 σ111)) ∧ (¬ x1 = 0 → ¬ x1 = 1 → ¬ x1 = 2 → ¬ x1 = 3 → ¬ x1 = 4 → ¬ x1 = 5 → Q (-1) σ)) : HT GC M_X8_count [mr 0, mi x1] σ Q := by
  refine HT.of pn_X8 (Nat.le_of_ble_eq_true rfl) ?_
  show WP GC M_X8_count 0 [some (mr 0), some (mi x1)] [] σ Q
  refine WP.iload_n dX8_count_0 rfl ?_
  by_cases q0 : x1 = 0
  · have h := h.1 q0
    refine WP.tsw_at (tgt := 40) dX8_count_1 q0 (by decide) (by decide) rfl (by decide) ?_
    refine WP.aload_n dX8_count_40 rfl ?_
    refine WP.getR fd_X8_10 dX8_count_41 g0 rfl ?_
    refine WP.getR fd_X8_61 dX8_count_44 g1 rfl ?_
    refine WP.getI (v := σ 3 0) fd_X8_65 dX8_count_47 g3 rfl rfl ?_
    exact WP.iret rfl dX8_count_50 h
  by_cases q1 : x1 = 1
  · have h := h.2.1 q1
    refine WP.tsw_at (tgt := 51) dX8_count_1 q1 (by decide) (by decide) rfl (by decide) ?_
    refine WP.aload_n dX8_count_51 rfl ?_
    refine WP.getR fd_X8_10 dX8_count_52 g0 rfl ?_
    refine WP.getR fd_X8_81 dX8_count_55 g1 rfl ?_
    refine WP.getI (v := σ 8 0) fd_X8_85 dX8_count_58 g8 rfl rfl ?_
    exact WP.iret rfl dX8_count_61 h
  by_cases q2 : x1 = 2
  · have h := h.2.2.1 q2
    refine WP.tsw_at (tgt := 62) dX8_count_1 q2 (by decide) (by decide) rfl (by decide) ?_
    refine WP.aload_n dX8_count_62 rfl ?_
    refine WP.getR fd_X8_10 dX8_count_63 g0 rfl ?_
    refine WP.getI (v := σ 1 3) fd_X8_160 dX8_count_66 g1 rfl rfl ?_
    exact WP.iret rfl dX8_count_69 h
  by_cases q3 : x1 = 3
  · have h := h.2.2.2.1 q3
    refine WP.tsw_at (tgt := 70) dX8_count_1 q3 (by decide) (by decide) rfl (by decide) ?_
    refine WP.aload_n dX8_count_70 rfl ?_
    refine WP.getR fd_X8_10 dX8_count_71 g0 rfl ?_
    refine WP.getR fd_X8_81 dX8_count_74 g1 rfl ?_
    refine WP.bipush dX8_count_77 (by decide) bp_10 ?_
    refine WP.bipush dX8_count_79 (by decide) bp_20 ?_
    refine WP.callV M_X6_between [mi 10, mi 20] cv_X6_between dX8_count_81 lk_X8_163 g8 rfl ft_X8_count__X6_between rfl (Nat.le_of_ble_eq_true rfl) (HT.mono h ?_)
    rintro r81 σ81 - - h
    exact WP.iret rfl dX8_count_84 h
  by_cases q4 : x1 = 4
  · have h := h.2.2.2.2.1 q4
    refine WP.tsw_at (tgt := 85) dX8_count_1 q4 (by decide) (by decide) rfl (by decide) ?_
    refine WP.aload_n dX8_count_85 rfl ?_
    refine WP.getR fd_X8_10 dX8_count_86 g0 rfl ?_
    refine WP.getR fd_X8_81 dX8_count_89 g1 rfl ?_
    refine WP.bipush dX8_count_92 (by decide) bp_20 ?_
    refine WP.bipush dX8_count_94 (by decide) bp_30 ?_
    refine WP.callV M_X6_between [mi 20, mi 30] cv_X6_between dX8_count_96 lk_X8_163 g8 rfl ft_X8_count__X6_between rfl (Nat.le_of_ble_eq_true rfl) (HT.mono h ?_)
    rintro r96 σ96 - - h
    exact WP.iret rfl dX8_count_99 h
  by_cases q5 : x1 = 5
  · have h := h.2.2.2.2.2.1 q5
    refine WP.tsw_at (tgt := 100) dX8_count_1 q5 (by decide) (by decide) rfl (by decide) ?_
    refine WP.aload_n dX8_count_100 rfl ?_
    refine WP.getR fd_X8_10 dX8_count_101 g0 rfl ?_
    refine WP.getR fd_X8_81 dX8_count_104 g1 rfl ?_
    refine WP.bipush dX8_count_107 (by decide) bp_30 ?_
    refine WP.bipush dX8_count_109 (by decide) bp_31 ?_
    refine WP.callV M_X6_between [mi 30, mi 31] cv_X6_between dX8_count_111 lk_X8_163 g8 rfl ft_X8_count__X6_between rfl (Nat.le_of_ble_eq_true rfl) (HT.mono h ?_)
    rintro r111 σ111 - - h
    exact WP.iret rfl dX8_count_114 h
  have h := h.2.2.2.2.2.2 q0 q1 q2 q3 q4 q5
  refine WP.tsw_out (tgt := 115) dX8_count_1 (by omega) (by decide) ?_
  refine WP.iconst dX8_count_115 (by decide) ?_
  exact WP.iret rfl dX8_count_116 h
theorem dX8_put_0 : decode cX8_put 0 = .ok (.aload_n 0, 1) := by decide +kernel
theorem dX8_put_1 : decode cX8_put 1 = .ok (.getfield 10, 3) := by decide +kernel
theorem dX8_put_4 : decode cX8_put 4 = .ok (.getfield 81, 3) := by decide +kernel
theorem dX8_put_7 : decode cX8_put 7 = .ok (.iload_n 1, 1) := by decide +kernel
theorem dX8_put_8 : decode cX8_put 8 = .ok (.invokevirtual 92, 3) := by decide +kernel
theorem dX8_put_11 : decode cX8_put 11 = .ok (.ifCond .eq 29, 3) := by decide +kernel
theorem dX8_put_14 : decode cX8_put 14 = .ok (.aload_n 0, 1) := by decide +kernel
theorem dX8_put_15 : decode cX8_put 15 = .ok (.getfield 10, 3) := by decide +kernel
theorem dX8_put_18 : decode cX8_put 18 = .ok (.getfield 61, 3) := by decide +kernel
theorem dX8_put_21 : decode cX8_put 21 = .ok (.iload_n 2, 1) := by decide +kernel
theorem dX8_put_22 : decode cX8_put 22 = .ok (.invokevirtual 109, 3) := by decide +kernel
theorem dX8_put_25 : decode cX8_put 25 = .ok (.ifCond .eq 15, 3) := by decide +kernel
theorem dX8_put_28 : decode cX8_put 28 = .ok (.aload_n 0, 1) := by decide +kernel
theorem dX8_put_29 : decode cX8_put 29 = .ok (.getfield 10, 3) := by decide +kernel
theorem dX8_put_32 : decode cX8_put 32 = .ok (.iload_n 1, 1) := by decide +kernel
theorem dX8_put_33 : decode cX8_put 33 = .ok (.iload_n 2, 1) := by decide +kernel
theorem dX8_put_34 : decode cX8_put 34 = .ok (.invokevirtual 166, 3) := by decide +kernel
theorem dX8_put_37 : decode cX8_put 37 = .ok (.goto 4, 3) := by decide +kernel
theorem dX8_put_40 : decode cX8_put 40 = .ok (.iconst (-1), 1) := by decide +kernel
theorem dX8_put_41 : decode cX8_put 41 = .ok (.ireturn, 1) := by decide +kernel
set_option maxRecDepth 100000 in
set_option maxHeartbeats 4000000 in
theorem e_X8_put_0 (x1 x2 : Int) {σ : Mem} {Q : Int → Mem → Prop} (h : HT GC M_X6_has [mr 8, mi x1] σ (fun r8 σ8 => (r8 = 0 → Q (-1) σ8) ∧ (¬ r8 = 0 → HT GC M_X0_has [mr 3, mi x2] σ8 (fun r22 σ22 => (r22 = 0 → Q (-1) σ22) ∧ (¬ r22 = 0 → HT GC M_X4_putIn [mr 1, mi x1, mi x2] σ22 (fun r34 σ34 => Q r34 σ34)))))) : HT GC M_X8_put [mr 0, mi x1, mi x2] σ Q := by
  refine HT.of pn_X8 (Nat.le_of_ble_eq_true rfl) ?_
  show WP GC M_X8_put 0 [some (mr 0), some (mi x1), some (mi x2)] [] σ Q
  refine WP.aload_n dX8_put_0 rfl ?_
  refine WP.getR fd_X8_10 dX8_put_1 g0 rfl ?_
  refine WP.getR fd_X8_81 dX8_put_4 g1 rfl ?_
  refine WP.iload_n dX8_put_7 rfl ?_
  refine WP.callV M_X6_has [mi x1] cv_X6_has dX8_put_8 lk_X8_92 g8 rfl ft_X8_put__X6_has rfl (Nat.le_of_ble_eq_true rfl) (HT.mono h ?_)
  rintro r8 σ8 - - h
  refine WP.if_eq (tgt := 40) dX8_put_11 (by decide) (fun q => ?_) (fun q => ?_)
  · have h := h.1 q
    refine WP.iconst dX8_put_40 (by decide) ?_
    exact WP.iret rfl dX8_put_41 h
  · have h := h.2 q
    refine WP.aload_n dX8_put_14 rfl ?_
    refine WP.getR fd_X8_10 dX8_put_15 g0 rfl ?_
    refine WP.getR fd_X8_61 dX8_put_18 g1 rfl ?_
    refine WP.iload_n dX8_put_21 rfl ?_
    refine WP.callV M_X0_has [mi x2] cv_X0_has dX8_put_22 lk_X8_109 g3 rfl ft_X8_put__X0_has rfl (Nat.le_of_ble_eq_true rfl) (HT.mono h ?_)
    rintro r22 σ22 - - h
    refine WP.if_eq (tgt := 40) dX8_put_25 (by decide) (fun q => ?_) (fun q => ?_)
    · have h := h.1 q
      refine WP.iconst dX8_put_40 (by decide) ?_
      exact WP.iret rfl dX8_put_41 h
    · have h := h.2 q
      refine WP.aload_n dX8_put_28 rfl ?_
      refine WP.getR fd_X8_10 dX8_put_29 g0 rfl ?_
      refine WP.iload_n dX8_put_32 rfl ?_
      refine WP.iload_n dX8_put_33 rfl ?_
      refine WP.callV M_X4_putIn [mi x1, mi x2] cv_X4_putIn dX8_put_34 lk_X8_166 g1 rfl ft_X8_put__X4_putIn rfl (Nat.le_of_ble_eq_true rfl) (HT.mono h ?_)
      rintro r34 σ34 - - h
      refine WP.goto (tgt := 41) dX8_put_37 (by decide) ?_
      exact WP.iret rfl dX8_put_41 h
theorem dX8_take_0 : decode cX8_take 0 = .ok (.aload_n 0, 1) := by decide +kernel
theorem dX8_take_1 : decode cX8_take 1 = .ok (.getfield 10, 3) := by decide +kernel
theorem dX8_take_4 : decode cX8_take 4 = .ok (.getfield 81, 3) := by decide +kernel
theorem dX8_take_7 : decode cX8_take 7 = .ok (.iload_n 1, 1) := by decide +kernel
theorem dX8_take_8 : decode cX8_take 8 = .ok (.invokevirtual 92, 3) := by decide +kernel
theorem dX8_take_11 : decode cX8_take 11 = .ok (.ifCond .eq 29, 3) := by decide +kernel
theorem dX8_take_14 : decode cX8_take 14 = .ok (.aload_n 0, 1) := by decide +kernel
theorem dX8_take_15 : decode cX8_take 15 = .ok (.getfield 10, 3) := by decide +kernel
theorem dX8_take_18 : decode cX8_take 18 = .ok (.getfield 61, 3) := by decide +kernel
theorem dX8_take_21 : decode cX8_take 21 = .ok (.iload_n 2, 1) := by decide +kernel
theorem dX8_take_22 : decode cX8_take 22 = .ok (.invokevirtual 109, 3) := by decide +kernel
theorem dX8_take_25 : decode cX8_take 25 = .ok (.ifCond .eq 15, 3) := by decide +kernel
theorem dX8_take_28 : decode cX8_take 28 = .ok (.aload_n 0, 1) := by decide +kernel
theorem dX8_take_29 : decode cX8_take 29 = .ok (.getfield 10, 3) := by decide +kernel
theorem dX8_take_32 : decode cX8_take 32 = .ok (.iload_n 1, 1) := by decide +kernel
theorem dX8_take_33 : decode cX8_take 33 = .ok (.iload_n 2, 1) := by decide +kernel
theorem dX8_take_34 : decode cX8_take 34 = .ok (.invokevirtual 169, 3) := by decide +kernel
theorem dX8_take_37 : decode cX8_take 37 = .ok (.goto 4, 3) := by decide +kernel
theorem dX8_take_40 : decode cX8_take 40 = .ok (.iconst (-1), 1) := by decide +kernel
theorem dX8_take_41 : decode cX8_take 41 = .ok (.ireturn, 1) := by decide +kernel
set_option maxRecDepth 100000 in
set_option maxHeartbeats 4000000 in
theorem e_X8_take_0 (x1 x2 : Int) {σ : Mem} {Q : Int → Mem → Prop} (h : HT GC M_X6_has [mr 8, mi x1] σ (fun r8 σ8 => (r8 = 0 → Q (-1) σ8) ∧ (¬ r8 = 0 → HT GC M_X0_has [mr 3, mi x2] σ8 (fun r22 σ22 => (r22 = 0 → Q (-1) σ22) ∧ (¬ r22 = 0 → HT GC M_X4_takeOut [mr 1, mi x1, mi x2] σ22 (fun r34 σ34 => Q r34 σ34)))))) : HT GC M_X8_take [mr 0, mi x1, mi x2] σ Q := by
  refine HT.of pn_X8 (Nat.le_of_ble_eq_true rfl) ?_
  show WP GC M_X8_take 0 [some (mr 0), some (mi x1), some (mi x2)] [] σ Q
  refine WP.aload_n dX8_take_0 rfl ?_
  refine WP.getR fd_X8_10 dX8_take_1 g0 rfl ?_
  refine WP.getR fd_X8_81 dX8_take_4 g1 rfl ?_
  refine WP.iload_n dX8_take_7 rfl ?_
  refine WP.callV M_X6_has [mi x1] cv_X6_has dX8_take_8 lk_X8_92 g8 rfl ft_X8_take__X6_has rfl (Nat.le_of_ble_eq_true rfl) (HT.mono h ?_)
  rintro r8 σ8 - - h
  refine WP.if_eq (tgt := 40) dX8_take_11 (by decide) (fun q => ?_) (fun q => ?_)
  · have h := h.1 q
    refine WP.iconst dX8_take_40 (by decide) ?_
    exact WP.iret rfl dX8_take_41 h
  · have h := h.2 q
    refine WP.aload_n dX8_take_14 rfl ?_
    refine WP.getR fd_X8_10 dX8_take_15 g0 rfl ?_
    refine WP.getR fd_X8_61 dX8_take_18 g1 rfl ?_
    refine WP.iload_n dX8_take_21 rfl ?_
    refine WP.callV M_X0_has [mi x2] cv_X0_has dX8_take_22 lk_X8_109 g3 rfl ft_X8_take__X0_has rfl (Nat.le_of_ble_eq_true rfl) (HT.mono h ?_)
    rintro r22 σ22 - - h
    refine WP.if_eq (tgt := 40) dX8_take_25 (by decide) (fun q => ?_) (fun q => ?_)
    · have h := h.1 q
      refine WP.iconst dX8_take_40 (by decide) ?_
      exact WP.iret rfl dX8_take_41 h
    · have h := h.2 q
      refine WP.aload_n dX8_take_28 rfl ?_
      refine WP.getR fd_X8_10 dX8_take_29 g0 rfl ?_
      refine WP.iload_n dX8_take_32 rfl ?_
      refine WP.iload_n dX8_take_33 rfl ?_
      refine WP.callV M_X4_takeOut [mi x1, mi x2] cv_X4_takeOut dX8_take_34 lk_X8_169 g1 rfl ft_X8_take__X4_takeOut rfl (Nat.le_of_ble_eq_true rfl) (HT.mono h ?_)
      rintro r34 σ34 - - h
      refine WP.goto (tgt := 41) dX8_take_37 (by decide) ?_
      exact WP.iret rfl dX8_take_41 h
theorem dX8_search_0 : decode cX8_search 0 = .ok (.aload_n 0, 1) := by decide +kernel
theorem dX8_search_1 : decode cX8_search 1 = .ok (.getfield 10, 3) := by decide +kernel
theorem dX8_search_4 : decode cX8_search 4 = .ok (.getfield 61, 3) := by decide +kernel
theorem dX8_search_7 : decode cX8_search 7 = .ok (.iload_n 1, 1) := by decide +kernel
theorem dX8_search_8 : decode cX8_search 8 = .ok (.invokevirtual 109, 3) := by decide +kernel
theorem dX8_search_11 : decode cX8_search 11 = .ok (.ifCond .eq 14, 3) := by decide +kernel
theorem dX8_search_14 : decode cX8_search 14 = .ok (.aload_n 0, 1) := by decide +kernel
theorem dX8_search_15 : decode cX8_search 15 = .ok (.getfield 10, 3) := by decide +kernel
theorem dX8_search_18 : decode cX8_search 18 = .ok (.iload_n 1, 1) := by decide +kernel
theorem dX8_search_19 : decode cX8_search 19 = .ok (.invokevirtual 172, 3) := by decide +kernel
theorem dX8_search_22 : decode cX8_search 22 = .ok (.goto 4, 3) := by decide +kernel
theorem dX8_search_25 : decode cX8_search 25 = .ok (.iconst (-1), 1) := by decide +kernel
theorem dX8_search_26 : decode cX8_search 26 = .ok (.ireturn, 1) := by decide +kernel
set_option maxRecDepth 100000 in
set_option maxHeartbeats 4000000 in
theorem e_X8_search_0 (x1 : Int) {σ : Mem} {Q : Int → Mem → Prop} (h : HT GC M_X0_has [mr 3, mi x1] σ (fun r8 σ8 => (r8 = 0 → Q (-1) σ8) ∧ (¬ r8 = 0 → HT GC M_X4_searchLining [mr 1, mi x1] σ8 (fun r19 σ19 => Q r19 σ19)))) : HT GC M_X8_search [mr 0, mi x1] σ Q := by
  refine HT.of pn_X8 (Nat.le_of_ble_eq_true rfl) ?_
  show WP GC M_X8_search 0 [some (mr 0), some (mi x1)] [] σ Q
  refine WP.aload_n dX8_search_0 rfl ?_
  refine WP.getR fd_X8_10 dX8_search_1 g0 rfl ?_
  refine WP.getR fd_X8_61 dX8_search_4 g1 rfl ?_
  refine WP.iload_n dX8_search_7 rfl ?_
  refine WP.callV M_X0_has [mi x1] cv_X0_has dX8_search_8 lk_X8_109 g3 rfl ft_X8_search__X0_has rfl (Nat.le_of_ble_eq_true rfl) (HT.mono h ?_)
  rintro r8 σ8 - - h
  refine WP.if_eq (tgt := 25) dX8_search_11 (by decide) (fun q => ?_) (fun q => ?_)
  · have h := h.1 q
    refine WP.iconst dX8_search_25 (by decide) ?_
    exact WP.iret rfl dX8_search_26 h
  · have h := h.2 q
    refine WP.aload_n dX8_search_14 rfl ?_
    refine WP.getR fd_X8_10 dX8_search_15 g0 rfl ?_
    refine WP.iload_n dX8_search_18 rfl ?_
    refine WP.callV M_X4_searchLining [mi x1] cv_X4_searchLining dX8_search_19 lk_X8_172 g1 rfl ft_X8_search__X4_searchLining rfl (Nat.le_of_ble_eq_true rfl) (HT.mono h ?_)
    rintro r19 σ19 - - h
    refine WP.goto (tgt := 26) dX8_search_22 (by decide) ?_
    exact WP.iret rfl dX8_search_26 h
theorem dX8_give_0 : decode cX8_give 0 = .ok (.aload_n 0, 1) := by decide +kernel
theorem dX8_give_1 : decode cX8_give 1 = .ok (.getfield 10, 3) := by decide +kernel
theorem dX8_give_4 : decode cX8_give 4 = .ok (.getfield 81, 3) := by decide +kernel
theorem dX8_give_7 : decode cX8_give 7 = .ok (.iload_n 1, 1) := by decide +kernel
theorem dX8_give_8 : decode cX8_give 8 = .ok (.invokevirtual 92, 3) := by decide +kernel
theorem dX8_give_11 : decode cX8_give 11 = .ok (.ifCond .eq 24, 3) := by decide +kernel
theorem dX8_give_14 : decode cX8_give 14 = .ok (.iload_n 2, 1) := by decide +kernel
theorem dX8_give_15 : decode cX8_give 15 = .ok (.bipush 8, 2) := by decide +kernel
theorem dX8_give_17 : decode cX8_give 17 = .ok (.invokestatic 58, 3) := by decide +kernel
theorem dX8_give_20 : decode cX8_give 20 = .ok (.ifCond .eq 15, 3) := by decide +kernel
theorem dX8_give_23 : decode cX8_give 23 = .ok (.aload_n 0, 1) := by decide +kernel
theorem dX8_give_24 : decode cX8_give 24 = .ok (.getfield 10, 3) := by decide +kernel
theorem dX8_give_27 : decode cX8_give 27 = .ok (.iload_n 1, 1) := by decide +kernel
theorem dX8_give_28 : decode cX8_give 28 = .ok (.iload_n 2, 1) := by decide +kernel
theorem dX8_give_29 : decode cX8_give 29 = .ok (.invokevirtual 175, 3) := by decide +kernel
theorem dX8_give_32 : decode cX8_give 32 = .ok (.goto 4, 3) := by decide +kernel
theorem dX8_give_35 : decode cX8_give 35 = .ok (.iconst (-1), 1) := by decide +kernel
theorem dX8_give_36 : decode cX8_give 36 = .ok (.ireturn, 1) := by decide +kernel
set_option maxRecDepth 100000 in
set_option maxHeartbeats 4000000 in
theorem e_X8_give_0 (x1 x2 : Int) {σ : Mem} {Q : Int → Mem → Prop} (h : HT GC M_X6_has [mr 8, mi x1] σ (fun r8 σ8 => (r8 = 0 → Q (-1) σ8) ∧ (¬ r8 = 0 → HT GC M_X8_within [mi x2, mi 8] σ8 (fun r17 σ17 => (r17 = 0 → Q (-1) σ17) ∧ (¬ r17 = 0 → HT GC M_X4_handOver [mr 1, mi x1, mi x2] σ17 (fun r29 σ29 => Q r29 σ29)))))) : HT GC M_X8_give [mr 0, mi x1, mi x2] σ Q := by
  refine HT.of pn_X8 (Nat.le_of_ble_eq_true rfl) ?_
  show WP GC M_X8_give 0 [some (mr 0), some (mi x1), some (mi x2)] [] σ Q
  refine WP.aload_n dX8_give_0 rfl ?_
  refine WP.getR fd_X8_10 dX8_give_1 g0 rfl ?_
  refine WP.getR fd_X8_81 dX8_give_4 g1 rfl ?_
  refine WP.iload_n dX8_give_7 rfl ?_
  refine WP.callV M_X6_has [mi x1] cv_X6_has dX8_give_8 lk_X8_92 g8 rfl ft_X8_give__X6_has rfl (Nat.le_of_ble_eq_true rfl) (HT.mono h ?_)
  rintro r8 σ8 - - h
  refine WP.if_eq (tgt := 35) dX8_give_11 (by decide) (fun q => ?_) (fun q => ?_)
  · have h := h.1 q
    refine WP.iconst dX8_give_35 (by decide) ?_
    exact WP.iret rfl dX8_give_36 h
  · have h := h.2 q
    refine WP.iload_n dX8_give_14 rfl ?_
    refine WP.bipush dX8_give_15 (by decide) bp_8 ?_
    refine WP.callS M_X8_within [mi x2, mi 8] cs_X8_within dX8_give_17 lk_X8_58 ft_X8_give__X8_within rfl (Nat.le_of_ble_eq_true rfl) (HT.mono h ?_)
    rintro r17 σ17 - - h
    refine WP.if_eq (tgt := 35) dX8_give_20 (by decide) (fun q => ?_) (fun q => ?_)
    · have h := h.1 q
      refine WP.iconst dX8_give_35 (by decide) ?_
      exact WP.iret rfl dX8_give_36 h
    · have h := h.2 q
      refine WP.aload_n dX8_give_23 rfl ?_
      refine WP.getR fd_X8_10 dX8_give_24 g0 rfl ?_
      refine WP.iload_n dX8_give_27 rfl ?_
      refine WP.iload_n dX8_give_28 rfl ?_
      refine WP.callV M_X4_handOver [mi x1, mi x2] cv_X4_handOver dX8_give_29 lk_X8_175 g1 rfl ft_X8_give__X4_handOver rfl (Nat.le_of_ble_eq_true rfl) (HT.mono h ?_)
      rintro r29 σ29 - - h
      refine WP.goto (tgt := 36) dX8_give_32 (by decide) ?_
      exact WP.iret rfl dX8_give_36 h
theorem dX8_bell_0 : decode cX8_bell 0 = .ok (.aload_n 0, 1) := by decide +kernel
theorem dX8_bell_1 : decode cX8_bell 1 = .ok (.getfield 10, 3) := by decide +kernel
theorem dX8_bell_4 : decode cX8_bell 4 = .ok (.invokevirtual 178, 3) := by decide +kernel
theorem dX8_bell_7 : decode cX8_bell 7 = .ok (.ireturn, 1) := by decide +kernel
set_option maxRecDepth 100000 in
set_option maxHeartbeats 4000000 in
theorem e_X8_bell_0 {σ : Mem} {Q : Int → Mem → Prop} (h : HT GC M_X4_ring [mr 1] σ (fun r4 σ4 => Q r4 σ4)) : HT GC M_X8_bell [mr 0] σ Q := by
  refine HT.of pn_X8 (Nat.le_of_ble_eq_true rfl) ?_
  show WP GC M_X8_bell 0 [some (mr 0)] [] σ Q
  refine WP.aload_n dX8_bell_0 rfl ?_
  refine WP.getR fd_X8_10 dX8_bell_1 g0 rfl ?_
  refine WP.callV M_X4_ring [] cv_X4_ring dX8_bell_4 lk_X8_178 g1 rfl ft_X8_bell__X4_ring rfl (Nat.le_of_ble_eq_true rfl) (HT.mono h ?_)
  rintro r4 σ4 - - h
  exact WP.iret rfl dX8_bell_7 h
theorem dX8_isBoys_0 : decode cX8_isBoys 0 = .ok (.iload_n 0, 1) := by decide +kernel
theorem dX8_isBoys_1 : decode cX8_isBoys 1 = .ok (.sipush 256, 3) := by decide +kernel
theorem dX8_isBoys_4 : decode cX8_isBoys 4 = .ok (.invokestatic 58, 3) := by decide +kernel
theorem dX8_isBoys_7 : decode cX8_isBoys 7 = .ok (.ireturn, 1) := by decide +kernel
set_option maxRecDepth 100000 in
set_option maxHeartbeats 4000000 in
theorem e_X8_isBoys (x0 : Int) {σ : Mem} {Q : Int → Mem → Prop} (h : HT GC M_X8_within [mi x0, mi 256] σ (fun r4 σ4 => (r4 = 0 ∨ r4 = 1) ∧ Q r4 σ4)) : HT GC M_X8_isBoys [mi x0] σ Q := by
  refine HT.of pn_X8 (Nat.le_of_ble_eq_true rfl) ?_
  show WP GC M_X8_isBoys 0 [some (mi x0)] [] σ Q
  refine WP.iload_n dX8_isBoys_0 rfl ?_
  refine WP.sipush dX8_isBoys_1 (by decide) sp_256 ?_
  refine WP.callS M_X8_within [mi x0, mi 256] cs_X8_within dX8_isBoys_4 lk_X8_58 ft_X8_isBoys__X8_within rfl (Nat.le_of_ble_eq_true rfl) (HT.mono h ?_)
  rintro r4 σ4 - - h
  exact WP.zret rfl dX8_isBoys_7 h.1 h.2
theorem dX8_reach_0 : decode cX8_reach 0 = .ok (.iload_n 1, 1) := by decide +kernel
theorem dX8_reach_1 : decode cX8_reach 1 = .ok (.bipush 8, 2) := by decide +kernel
theorem dX8_reach_3 : decode cX8_reach 3 = .ok (.invokestatic 58, 3) := by decide +kernel
theorem dX8_reach_6 : decode cX8_reach 6 = .ok (.ifCond .eq 19, 3) := by decide +kernel
theorem dX8_reach_9 : decode cX8_reach 9 = .ok (.iload_n 2, 1) := by decide +kernel
theorem dX8_reach_10 : decode cX8_reach 10 = .ok (.bipush 25, 2) := by decide +kernel
theorem dX8_reach_12 : decode cX8_reach 12 = .ok (.invokestatic 58, 3) := by decide +kernel
theorem dX8_reach_15 : decode cX8_reach 15 = .ok (.ifCond .eq 10, 3) := by decide +kernel
theorem dX8_reach_18 : decode cX8_reach 18 = .ok (.iload_n 3, 1) := by decide +kernel
theorem dX8_reach_19 : decode cX8_reach 19 = .ok (.invokestatic 182, 3) := by decide +kernel
theorem dX8_reach_22 : decode cX8_reach 22 = .ok (.ifCond .ne 5, 3) := by decide +kernel
theorem dX8_reach_25 : decode cX8_reach 25 = .ok (.iconst (-1), 1) := by decide +kernel
theorem dX8_reach_26 : decode cX8_reach 26 = .ok (.ireturn, 1) := by decide +kernel
theorem dX8_reach_27 : decode cX8_reach 27 = .ok (.aload_n 0, 1) := by decide +kernel
theorem dX8_reach_28 : decode cX8_reach 28 = .ok (.getfield 36, 3) := by decide +kernel
theorem dX8_reach_31 : decode cX8_reach 31 = .ok (.aload_n 0, 1) := by decide +kernel
theorem dX8_reach_32 : decode cX8_reach 32 = .ok (.getfield 10, 3) := by decide +kernel
theorem dX8_reach_35 : decode cX8_reach 35 = .ok (.getfield 61, 3) := by decide +kernel
theorem dX8_reach_38 : decode cX8_reach 38 = .ok (.iload_n 1, 1) := by decide +kernel
theorem dX8_reach_39 : decode cX8_reach 39 = .ok (.iload_n 2, 1) := by decide +kernel
theorem dX8_reach_40 : decode cX8_reach 40 = .ok (.iload_n 3, 1) := by decide +kernel
theorem dX8_reach_41 : decode cX8_reach 41 = .ok (.invokevirtual 185, 3) := by decide +kernel
theorem dX8_reach_44 : decode cX8_reach 44 = .ok (.ireturn, 1) := by decide +kernel
set_option maxRecDepth 100000 in
set_option maxHeartbeats 4000000 in
theorem e_X8_reach_0 (x1 x2 x3 : Int) {σ : Mem} {Q : Int → Mem → Prop} (h : HT GC M_X8_within [mi x1, mi 8] σ (fun r3 σ3 => (r3 = 0 → Q (-1) σ3) ∧ (¬ r3 = 0 → HT GC M_X8_within [mi x2, mi 25] σ3 (fun r12 σ12 => (r12 = 0 → Q (-1) σ12) ∧ (¬ r12 = 0 → HT GC M_X8_isBoys [mi x3] σ12 (fun r19 σ19 => (¬ r19 = 0 → HT GC M_X7_handsAfter [mr 33, mr 3, mi x1, mi x2, mi x3] σ19 (fun r41 σ41 => Q r41 σ41)) ∧ (r19 = 0 → Q (-1) σ19))))))) : HT GC M_X8_reach [mr 0, mi x1, mi x2, mi x3] σ Q := by
  refine HT.of pn_X8 (Nat.le_of_ble_eq_true rfl) ?_
  show WP GC M_X8_reach 0 [some (mr 0), some (mi x1), some (mi x2), some (mi x3)] [] σ Q
  refine WP.iload_n dX8_reach_0 rfl ?_
  refine WP.bipush dX8_reach_1 (by decide) bp_8 ?_
  refine WP.callS M_X8_within [mi x1, mi 8] cs_X8_within dX8_reach_3 lk_X8_58 ft_X8_reach__X8_within rfl (Nat.le_of_ble_eq_true rfl) (HT.mono h ?_)
  rintro r3 σ3 - - h
  refine WP.if_eq (tgt := 25) dX8_reach_6 (by decide) (fun q => ?_) (fun q => ?_)
  · have h := h.1 q
    refine WP.iconst dX8_reach_25 (by decide) ?_
    exact WP.iret rfl dX8_reach_26 h
  · have h := h.2 q
    refine WP.iload_n dX8_reach_9 rfl ?_
    refine WP.bipush dX8_reach_10 (by decide) bp_25 ?_
    refine WP.callS M_X8_within [mi x2, mi 25] cs_X8_within dX8_reach_12 lk_X8_58 ft_X8_reach__X8_within rfl (Nat.le_of_ble_eq_true rfl) (HT.mono h ?_)
    rintro r12 σ12 - - h
    refine WP.if_eq (tgt := 25) dX8_reach_15 (by decide) (fun q => ?_) (fun q => ?_)
    · have h := h.1 q
      refine WP.iconst dX8_reach_25 (by decide) ?_
      exact WP.iret rfl dX8_reach_26 h
    · have h := h.2 q
      refine WP.iload_n dX8_reach_18 rfl ?_
      refine WP.callS M_X8_isBoys [mi x3] cs_X8_isBoys dX8_reach_19 lk_X8_182 ft_X8_reach__X8_isBoys rfl (Nat.le_of_ble_eq_true rfl) (HT.mono h ?_)
      rintro r19 σ19 - - h
      refine WP.if_ne (tgt := 27) dX8_reach_22 (by decide) (fun q => ?_) (fun q => ?_)
      · have h := h.1 q
        refine WP.aload_n dX8_reach_27 rfl ?_
        refine WP.getR fd_X8_36 dX8_reach_28 g0 rfl ?_
        refine WP.aload_n dX8_reach_31 rfl ?_
        refine WP.getR fd_X8_10 dX8_reach_32 g0 rfl ?_
        refine WP.getR fd_X8_61 dX8_reach_35 g1 rfl ?_
        refine WP.iload_n dX8_reach_38 rfl ?_
        refine WP.iload_n dX8_reach_39 rfl ?_
        refine WP.iload_n dX8_reach_40 rfl ?_
        refine WP.callV M_X7_handsAfter [mr 3, mi x1, mi x2, mi x3] cv_X7_handsAfter dX8_reach_41 lk_X8_185 g33 rfl ft_X8_reach__X7_handsAfter rfl (Nat.le_of_ble_eq_true rfl) (HT.mono h ?_)
        rintro r41 σ41 - - h
        exact WP.iret rfl dX8_reach_44 h
      · have h := h.2 q
        refine WP.iconst dX8_reach_25 (by decide) ?_
        exact WP.iret rfl dX8_reach_26 h
theorem dX8_soonest_0 : decode cX8_soonest 0 = .ok (.iload_n 1, 1) := by decide +kernel
theorem dX8_soonest_1 : decode cX8_soonest 1 = .ok (.bipush 8, 2) := by decide +kernel
theorem dX8_soonest_3 : decode cX8_soonest 3 = .ok (.invokestatic 58, 3) := by decide +kernel
theorem dX8_soonest_6 : decode cX8_soonest 6 = .ok (.ifCond .eq 28, 3) := by decide +kernel
theorem dX8_soonest_9 : decode cX8_soonest 9 = .ok (.iload_n 2, 1) := by decide +kernel
theorem dX8_soonest_10 : decode cX8_soonest 10 = .ok (.bipush 8, 2) := by decide +kernel
theorem dX8_soonest_12 : decode cX8_soonest 12 = .ok (.invokestatic 58, 3) := by decide +kernel
theorem dX8_soonest_15 : decode cX8_soonest 15 = .ok (.ifCond .eq 19, 3) := by decide +kernel
theorem dX8_soonest_18 : decode cX8_soonest 18 = .ok (.iload_n 3, 1) := by decide +kernel
theorem dX8_soonest_19 : decode cX8_soonest 19 = .ok (.invokestatic 182, 3) := by decide +kernel
theorem dX8_soonest_22 : decode cX8_soonest 22 = .ok (.ifCond .eq 12, 3) := by decide +kernel
theorem dX8_soonest_25 : decode cX8_soonest 25 = .ok (.iload 4, 2) := by decide +kernel
theorem dX8_soonest_27 : decode cX8_soonest 27 = .ok (.iconst 2, 1) := by decide +kernel
theorem dX8_soonest_28 : decode cX8_soonest 28 = .ok (.invokestatic 58, 3) := by decide +kernel
theorem dX8_soonest_31 : decode cX8_soonest 31 = .ok (.ifCond .ne 5, 3) := by decide +kernel
theorem dX8_soonest_34 : decode cX8_soonest 34 = .ok (.iconst (-1), 1) := by decide +kernel
theorem dX8_soonest_35 : decode cX8_soonest 35 = .ok (.ireturn, 1) := by decide +kernel
theorem dX8_soonest_36 : decode cX8_soonest 36 = .ok (.aload_n 0, 1) := by decide +kernel
theorem dX8_soonest_37 : decode cX8_soonest 37 = .ok (.getfield 36, 3) := by decide +kernel
theorem dX8_soonest_40 : decode cX8_soonest 40 = .ok (.aload_n 0, 1) := by decide +kernel
theorem dX8_soonest_41 : decode cX8_soonest 41 = .ok (.getfield 10, 3) := by decide +kernel
theorem dX8_soonest_44 : decode cX8_soonest 44 = .ok (.getfield 61, 3) := by decide +kernel
theorem dX8_soonest_47 : decode cX8_soonest 47 = .ok (.iload_n 1, 1) := by decide +kernel
theorem dX8_soonest_48 : decode cX8_soonest 48 = .ok (.iload_n 2, 1) := by decide +kernel
theorem dX8_soonest_49 : decode cX8_soonest 49 = .ok (.iload_n 3, 1) := by decide +kernel
theorem dX8_soonest_50 : decode cX8_soonest 50 = .ok (.invokevirtual 189, 3) := by decide +kernel
theorem dX8_soonest_53 : decode cX8_soonest 53 = .ok (.istore 5, 2) := by decide +kernel
theorem dX8_soonest_55 : decode cX8_soonest 55 = .ok (.iload 5, 2) := by decide +kernel
theorem dX8_soonest_57 : decode cX8_soonest 57 = .ok (.bipush (-4), 2) := by decide +kernel
theorem dX8_soonest_59 : decode cX8_soonest 59 = .ok (.if_icmp .eq 8, 3) := by decide +kernel
theorem dX8_soonest_62 : decode cX8_soonest 62 = .ok (.iload 4, 2) := by decide +kernel
theorem dX8_soonest_64 : decode cX8_soonest 64 = .ok (.ifCond .ne 6, 3) := by decide +kernel
theorem dX8_soonest_67 : decode cX8_soonest 67 = .ok (.iload 5, 2) := by decide +kernel
theorem dX8_soonest_69 : decode cX8_soonest 69 = .ok (.ireturn, 1) := by decide +kernel
theorem dX8_soonest_70 : decode cX8_soonest 70 = .ok (.aload_n 0, 1) := by decide +kernel
theorem dX8_soonest_71 : decode cX8_soonest 71 = .ok (.getfield 36, 3) := by decide +kernel
theorem dX8_soonest_74 : decode cX8_soonest 74 = .ok (.iload_n 2, 1) := by decide +kernel
theorem dX8_soonest_75 : decode cX8_soonest 75 = .ok (.invokevirtual 192, 3) := by decide +kernel
theorem dX8_soonest_78 : decode cX8_soonest 78 = .ok (.ireturn, 1) := by decide +kernel
set_option maxRecDepth 100000 in
set_option maxHeartbeats 4000000 in
theorem e_X8_soonest_0 (x1 x2 x3 x4 : Int) {σ : Mem} {Q : Int → Mem → Prop} (h : HT GC M_X8_within [mi x1, mi 8] σ (fun r3 σ3 => (r3 = 0 → Q (-1) σ3) ∧ (¬ r3 = 0 → HT GC M_X8_within [mi x2, mi 8] σ3 (fun r12 σ12 => (r12 = 0 → Q (-1) σ12) ∧ (¬ r12 = 0 → HT GC M_X8_isBoys [mi x3] σ12 (fun r19 σ19 => (r19 = 0 → Q (-1) σ19) ∧ (¬ r19 = 0 → HT GC M_X8_within [mi x4, mi 2] σ19 (fun r28 σ28 => (¬ r28 = 0 → HT GC M_X7_fewestBells [mr 33, mr 3, mi x1, mi x2, mi x3] σ28 (fun r50 σ50 => (r50 = (-4) → Q r50 σ50) ∧ (¬ r50 = (-4) → (¬ x4 = 0 → HT GC M_X7_comingTo [mr 33, mi x2] σ50 (fun r75 σ75 => Q r75 σ75)) ∧ (x4 = 0 → Q r50 σ50)))) ∧ (r28 = 0 → Q (-1) σ28))))))))) : HT GC M_X8_soonest [mr 0, mi x1, mi x2, mi x3, mi x4] σ Q := by
  refine HT.of pn_X8 (Nat.le_of_ble_eq_true rfl) ?_
  show WP GC M_X8_soonest 0 [some (mr 0), some (mi x1), some (mi x2), some (mi x3), some (mi x4), none] [] σ Q
  refine WP.iload_n dX8_soonest_0 rfl ?_
  refine WP.bipush dX8_soonest_1 (by decide) bp_8 ?_
  refine WP.callS M_X8_within [mi x1, mi 8] cs_X8_within dX8_soonest_3 lk_X8_58 ft_X8_soonest__X8_within rfl (Nat.le_of_ble_eq_true rfl) (HT.mono h ?_)
  rintro r3 σ3 - - h
  refine WP.if_eq (tgt := 34) dX8_soonest_6 (by decide) (fun q => ?_) (fun q => ?_)
  · have h := h.1 q
    refine WP.iconst dX8_soonest_34 (by decide) ?_
    exact WP.iret rfl dX8_soonest_35 h
  · have h := h.2 q
    refine WP.iload_n dX8_soonest_9 rfl ?_
    refine WP.bipush dX8_soonest_10 (by decide) bp_8 ?_
    refine WP.callS M_X8_within [mi x2, mi 8] cs_X8_within dX8_soonest_12 lk_X8_58 ft_X8_soonest__X8_within rfl (Nat.le_of_ble_eq_true rfl) (HT.mono h ?_)
    rintro r12 σ12 - - h
    refine WP.if_eq (tgt := 34) dX8_soonest_15 (by decide) (fun q => ?_) (fun q => ?_)
    · have h := h.1 q
      refine WP.iconst dX8_soonest_34 (by decide) ?_
      exact WP.iret rfl dX8_soonest_35 h
    · have h := h.2 q
      refine WP.iload_n dX8_soonest_18 rfl ?_
      refine WP.callS M_X8_isBoys [mi x3] cs_X8_isBoys dX8_soonest_19 lk_X8_182 ft_X8_soonest__X8_isBoys rfl (Nat.le_of_ble_eq_true rfl) (HT.mono h ?_)
      rintro r19 σ19 - - h
      refine WP.if_eq (tgt := 34) dX8_soonest_22 (by decide) (fun q => ?_) (fun q => ?_)
      · have h := h.1 q
        refine WP.iconst dX8_soonest_34 (by decide) ?_
        exact WP.iret rfl dX8_soonest_35 h
      · have h := h.2 q
        refine WP.iload dX8_soonest_25 rfl ?_
        refine WP.iconst dX8_soonest_27 (by decide) ?_
        refine WP.callS M_X8_within [mi x4, mi 2] cs_X8_within dX8_soonest_28 lk_X8_58 ft_X8_soonest__X8_within rfl (Nat.le_of_ble_eq_true rfl) (HT.mono h ?_)
        rintro r28 σ28 - - h
        refine WP.if_ne (tgt := 36) dX8_soonest_31 (by decide) (fun q => ?_) (fun q => ?_)
        · have h := h.1 q
          refine WP.aload_n dX8_soonest_36 rfl ?_
          refine WP.getR fd_X8_36 dX8_soonest_37 g0 rfl ?_
          refine WP.aload_n dX8_soonest_40 rfl ?_
          refine WP.getR fd_X8_10 dX8_soonest_41 g0 rfl ?_
          refine WP.getR fd_X8_61 dX8_soonest_44 g1 rfl ?_
          refine WP.iload_n dX8_soonest_47 rfl ?_
          refine WP.iload_n dX8_soonest_48 rfl ?_
          refine WP.iload_n dX8_soonest_49 rfl ?_
          refine WP.callV M_X7_fewestBells [mr 3, mi x1, mi x2, mi x3] cv_X7_fewestBells dX8_soonest_50 lk_X8_189 g33 rfl ft_X8_soonest__X7_fewestBells rfl (Nat.le_of_ble_eq_true rfl) (HT.mono h ?_)
          rintro r50 σ50 - - h
          refine WP.istore (L2 := [some (mr 0), some (mi x1), some (mi x2), some (mi x3), some (mi x4), some (mi r50)]) dX8_soonest_53 (by decide) rfl ?_
          refine WP.iload dX8_soonest_55 rfl ?_
          refine WP.bipush dX8_soonest_57 (by decide) bp_m4 ?_
          refine WP.icmp_eq (tgt := 67) dX8_soonest_59 (by decide) (fun q => ?_) (fun q => ?_)
          · have h := h.1 q
            refine WP.iload dX8_soonest_67 rfl ?_
            exact WP.iret rfl dX8_soonest_69 h
          · have h := h.2 q
            refine WP.iload dX8_soonest_62 rfl ?_
            refine WP.if_ne (tgt := 70) dX8_soonest_64 (by decide) (fun q => ?_) (fun q => ?_)
            · have h := h.1 q
              refine WP.aload_n dX8_soonest_70 rfl ?_
              refine WP.getR fd_X8_36 dX8_soonest_71 g0 rfl ?_
              refine WP.iload_n dX8_soonest_74 rfl ?_
              refine WP.callV M_X7_comingTo [mi x2] cv_X7_comingTo dX8_soonest_75 lk_X8_192 g33 rfl ft_X8_soonest__X7_comingTo rfl (Nat.le_of_ble_eq_true rfl) (HT.mono h ?_)
              rintro r75 σ75 - - h
              exact WP.iret rfl dX8_soonest_78 h
            · have h := h.2 q
              refine WP.iload dX8_soonest_67 rfl ?_
              exact WP.iret rfl dX8_soonest_69 h
        · have h := h.2 q
          refine WP.iconst dX8_soonest_34 (by decide) ?_
          exact WP.iret rfl dX8_soonest_35 h
theorem dX8_dealt_0 : decode cX8_dealt 0 = .ok (.aload_n 0, 1) := by decide +kernel
theorem dX8_dealt_1 : decode cX8_dealt 1 = .ok (.getfield 10, 3) := by decide +kernel
theorem dX8_dealt_4 : decode cX8_dealt 4 = .ok (.getfield 61, 3) := by decide +kernel
theorem dX8_dealt_7 : decode cX8_dealt 7 = .ok (.iload_n 1, 1) := by decide +kernel
theorem dX8_dealt_8 : decode cX8_dealt 8 = .ok (.invokevirtual 109, 3) := by decide +kernel
theorem dX8_dealt_11 : decode cX8_dealt 11 = .ok (.ifCond .eq 33, 3) := by decide +kernel
theorem dX8_dealt_14 : decode cX8_dealt 14 = .ok (.iload_n 2, 1) := by decide +kernel
theorem dX8_dealt_15 : decode cX8_dealt 15 = .ok (.bipush 8, 2) := by decide +kernel
theorem dX8_dealt_17 : decode cX8_dealt 17 = .ok (.invokestatic 58, 3) := by decide +kernel
theorem dX8_dealt_20 : decode cX8_dealt 20 = .ok (.ifCond .eq 24, 3) := by decide +kernel
theorem dX8_dealt_23 : decode cX8_dealt 23 = .ok (.iload_n 3, 1) := by decide +kernel
theorem dX8_dealt_24 : decode cX8_dealt 24 = .ok (.bipush 8, 2) := by decide +kernel
theorem dX8_dealt_26 : decode cX8_dealt 26 = .ok (.invokestatic 58, 3) := by decide +kernel
theorem dX8_dealt_29 : decode cX8_dealt 29 = .ok (.ifCond .eq 15, 3) := by decide +kernel
theorem dX8_dealt_32 : decode cX8_dealt 32 = .ok (.iload 4, 2) := by decide +kernel
theorem dX8_dealt_34 : decode cX8_dealt 34 = .ok (.iconst (-1), 1) := by decide +kernel
theorem dX8_dealt_35 : decode cX8_dealt 35 = .ok (.if_icmp .lt 9, 3) := by decide +kernel
theorem dX8_dealt_38 : decode cX8_dealt 38 = .ok (.iload 4, 2) := by decide +kernel
theorem dX8_dealt_40 : decode cX8_dealt 40 = .ok (.iconst 4, 1) := by decide +kernel
theorem dX8_dealt_41 : decode cX8_dealt 41 = .ok (.if_icmp .lt 5, 3) := by decide +kernel
theorem dX8_dealt_44 : decode cX8_dealt 44 = .ok (.iconst (-1), 1) := by decide +kernel
theorem dX8_dealt_45 : decode cX8_dealt 45 = .ok (.ireturn, 1) := by decide +kernel
theorem dX8_dealt_46 : decode cX8_dealt 46 = .ok (.aload_n 0, 1) := by decide +kernel
theorem dX8_dealt_47 : decode cX8_dealt 47 = .ok (.getfield 36, 3) := by decide +kernel
theorem dX8_dealt_50 : decode cX8_dealt 50 = .ok (.aload_n 0, 1) := by decide +kernel
theorem dX8_dealt_51 : decode cX8_dealt 51 = .ok (.getfield 10, 3) := by decide +kernel
theorem dX8_dealt_54 : decode cX8_dealt 54 = .ok (.getfield 61, 3) := by decide +kernel
theorem dX8_dealt_57 : decode cX8_dealt 57 = .ok (.iload_n 1, 1) := by decide +kernel
theorem dX8_dealt_58 : decode cX8_dealt 58 = .ok (.iload_n 2, 1) := by decide +kernel
theorem dX8_dealt_59 : decode cX8_dealt 59 = .ok (.iload_n 3, 1) := by decide +kernel
theorem dX8_dealt_60 : decode cX8_dealt 60 = .ok (.invokevirtual 195, 3) := by decide +kernel
theorem dX8_dealt_63 : decode cX8_dealt 63 = .ok (.istore 5, 2) := by decide +kernel
theorem dX8_dealt_65 : decode cX8_dealt 65 = .ok (.iload 5, 2) := by decide +kernel
theorem dX8_dealt_67 : decode cX8_dealt 67 = .ok (.bipush (-4), 2) := by decide +kernel
theorem dX8_dealt_69 : decode cX8_dealt 69 = .ok (.if_icmp .eq 20, 3) := by decide +kernel
theorem dX8_dealt_72 : decode cX8_dealt 72 = .ok (.iload 4, 2) := by decide +kernel
theorem dX8_dealt_74 : decode cX8_dealt 74 = .ok (.aload_n 0, 1) := by decide +kernel
theorem dX8_dealt_75 : decode cX8_dealt 75 = .ok (.getfield 10, 3) := by decide +kernel
theorem dX8_dealt_78 : decode cX8_dealt 78 = .ok (.getfield 61, 3) := by decide +kernel
theorem dX8_dealt_81 : decode cX8_dealt 81 = .ok (.getfield 114, 3) := by decide +kernel
theorem dX8_dealt_84 : decode cX8_dealt 84 = .ok (.iload_n 1, 1) := by decide +kernel
theorem dX8_dealt_85 : decode cX8_dealt 85 = .ok (.iaload, 1) := by decide +kernel
theorem dX8_dealt_86 : decode cX8_dealt 86 = .ok (.if_icmp .lt 6, 3) := by decide +kernel
theorem dX8_dealt_89 : decode cX8_dealt 89 = .ok (.bipush (-4), 2) := by decide +kernel
theorem dX8_dealt_91 : decode cX8_dealt 91 = .ok (.ireturn, 1) := by decide +kernel
theorem dX8_dealt_92 : decode cX8_dealt 92 = .ok (.iload 4, 2) := by decide +kernel
theorem dX8_dealt_94 : decode cX8_dealt 94 = .ok (.ifCond .ge 8, 3) := by decide +kernel
theorem dX8_dealt_97 : decode cX8_dealt 97 = .ok (.iload 5, 2) := by decide +kernel
theorem dX8_dealt_99 : decode cX8_dealt 99 = .ok (.goto 13, 3) := by decide +kernel
theorem dX8_dealt_102 : decode cX8_dealt 102 = .ok (.aload_n 0, 1) := by decide +kernel
theorem dX8_dealt_103 : decode cX8_dealt 103 = .ok (.getfield 36, 3) := by decide +kernel
theorem dX8_dealt_106 : decode cX8_dealt 106 = .ok (.getfield 198, 3) := by decide +kernel
theorem dX8_dealt_109 : decode cX8_dealt 109 = .ok (.iload 4, 2) := by decide +kernel
theorem dX8_dealt_111 : decode cX8_dealt 111 = .ok (.iaload, 1) := by decide +kernel
theorem dX8_dealt_112 : decode cX8_dealt 112 = .ok (.ireturn, 1) := by decide +kernel
set_option maxRecDepth 100000 in
set_option maxHeartbeats 4000000 in
theorem e_X8_dealt_0 (x1 x2 x3 x4 : Int) {σ : Mem} {Q : Int → Mem → Prop} (h : HT GC M_X0_has [mr 3, mi x1] σ (fun r8 σ8 => (r8 = 0 → Q (-1) σ8) ∧ (¬ r8 = 0 → HT GC M_X8_within [mi x2, mi 8] σ8 (fun r17 σ17 => (r17 = 0 → Q (-1) σ17) ∧ (¬ r17 = 0 → HT GC M_X8_within [mi x3, mi 8] σ17 (fun r26 σ26 => (r26 = 0 → Q (-1) σ26) ∧ (¬ r26 = 0 → (x4 < (-1) → Q (-1) σ26) ∧ (¬ x4 < (-1) → (x4 < 4 → HT GC M_X7_dealBest [mr 33, mr 3, mi x1, mi x2, mi x3] σ26 (fun r60 σ60 => (r60 = (-4) → Q (-4) σ60) ∧ (¬ r60 = (-4) → (0 ≤ x1 ∧ x1 < 4) ∧ ((x4 < σ60 5 x1 → (0 ≤ x4 → (0 ≤ x4 ∧ x4 < 4) ∧ (Q (σ60 34 x4) σ60)) ∧ (¬ 0 ≤ x4 → Q r60 σ60)) ∧ (¬ x4 < σ60 5 x1 → Q (-4) σ60))))) ∧ (¬ x4 < 4 → Q (-1) σ26))))))))) : HT GC M_X8_dealt [mr 0, mi x1, mi x2, mi x3, mi x4] σ Q := by
  refine HT.of pn_X8 (Nat.le_of_ble_eq_true rfl) ?_
  show WP GC M_X8_dealt 0 [some (mr 0), some (mi x1), some (mi x2), some (mi x3), some (mi x4), none] [] σ Q
  refine WP.aload_n dX8_dealt_0 rfl ?_
  refine WP.getR fd_X8_10 dX8_dealt_1 g0 rfl ?_
  refine WP.getR fd_X8_61 dX8_dealt_4 g1 rfl ?_
  refine WP.iload_n dX8_dealt_7 rfl ?_
  refine WP.callV M_X0_has [mi x1] cv_X0_has dX8_dealt_8 lk_X8_109 g3 rfl ft_X8_dealt__X0_has rfl (Nat.le_of_ble_eq_true rfl) (HT.mono h ?_)
  rintro r8 σ8 - - h
  refine WP.if_eq (tgt := 44) dX8_dealt_11 (by decide) (fun q => ?_) (fun q => ?_)
  · have h := h.1 q
    refine WP.iconst dX8_dealt_44 (by decide) ?_
    exact WP.iret rfl dX8_dealt_45 h
  · have h := h.2 q
    refine WP.iload_n dX8_dealt_14 rfl ?_
    refine WP.bipush dX8_dealt_15 (by decide) bp_8 ?_
    refine WP.callS M_X8_within [mi x2, mi 8] cs_X8_within dX8_dealt_17 lk_X8_58 ft_X8_dealt__X8_within rfl (Nat.le_of_ble_eq_true rfl) (HT.mono h ?_)
    rintro r17 σ17 - - h
    refine WP.if_eq (tgt := 44) dX8_dealt_20 (by decide) (fun q => ?_) (fun q => ?_)
    · have h := h.1 q
      refine WP.iconst dX8_dealt_44 (by decide) ?_
      exact WP.iret rfl dX8_dealt_45 h
    · have h := h.2 q
      refine WP.iload_n dX8_dealt_23 rfl ?_
      refine WP.bipush dX8_dealt_24 (by decide) bp_8 ?_
      refine WP.callS M_X8_within [mi x3, mi 8] cs_X8_within dX8_dealt_26 lk_X8_58 ft_X8_dealt__X8_within rfl (Nat.le_of_ble_eq_true rfl) (HT.mono h ?_)
      rintro r26 σ26 - - h
      refine WP.if_eq (tgt := 44) dX8_dealt_29 (by decide) (fun q => ?_) (fun q => ?_)
      · have h := h.1 q
        refine WP.iconst dX8_dealt_44 (by decide) ?_
        exact WP.iret rfl dX8_dealt_45 h
      · have h := h.2 q
        refine WP.iload dX8_dealt_32 rfl ?_
        refine WP.iconst dX8_dealt_34 (by decide) ?_
        refine WP.icmp_lt (tgt := 44) dX8_dealt_35 (by decide) (fun q => ?_) (fun q => ?_)
        · have h := h.1 q
          refine WP.iconst dX8_dealt_44 (by decide) ?_
          exact WP.iret rfl dX8_dealt_45 h
        · have h := h.2 q
          refine WP.iload dX8_dealt_38 rfl ?_
          refine WP.iconst dX8_dealt_40 (by decide) ?_
          refine WP.icmp_lt (tgt := 46) dX8_dealt_41 (by decide) (fun q => ?_) (fun q => ?_)
          · have h := h.1 q
            refine WP.aload_n dX8_dealt_46 rfl ?_
            refine WP.getR fd_X8_36 dX8_dealt_47 g0 rfl ?_
            refine WP.aload_n dX8_dealt_50 rfl ?_
            refine WP.getR fd_X8_10 dX8_dealt_51 g0 rfl ?_
            refine WP.getR fd_X8_61 dX8_dealt_54 g1 rfl ?_
            refine WP.iload_n dX8_dealt_57 rfl ?_
            refine WP.iload_n dX8_dealt_58 rfl ?_
            refine WP.iload_n dX8_dealt_59 rfl ?_
            refine WP.callV M_X7_dealBest [mr 3, mi x1, mi x2, mi x3] cv_X7_dealBest dX8_dealt_60 lk_X8_195 g33 rfl ft_X8_dealt__X7_dealBest rfl (Nat.le_of_ble_eq_true rfl) (HT.mono h ?_)
            rintro r60 σ60 - - h
            refine WP.istore (L2 := [some (mr 0), some (mi x1), some (mi x2), some (mi x3), some (mi x4), some (mi r60)]) dX8_dealt_63 (by decide) rfl ?_
            refine WP.iload dX8_dealt_65 rfl ?_
            refine WP.bipush dX8_dealt_67 (by decide) bp_m4 ?_
            refine WP.icmp_eq (tgt := 89) dX8_dealt_69 (by decide) (fun q => ?_) (fun q => ?_)
            · have h := h.1 q
              refine WP.bipush dX8_dealt_89 (by decide) bp_m4 ?_
              exact WP.iret rfl dX8_dealt_91 h
            · have h := h.2 q
              refine WP.iload dX8_dealt_72 rfl ?_
              refine WP.aload_n dX8_dealt_74 rfl ?_
              refine WP.getR fd_X8_10 dX8_dealt_75 g0 rfl ?_
              refine WP.getR fd_X8_61 dX8_dealt_78 g1 rfl ?_
              refine WP.getR fd_X8_114 dX8_dealt_81 g3 rfl ?_
              refine WP.iload_n dX8_dealt_84 rfl ?_
              obtain ⟨hi, h⟩ := h
              refine WP.iald dX8_dealt_85 g5 hi ?_
              refine WP.icmp_lt (tgt := 92) dX8_dealt_86 (by decide) (fun q => ?_) (fun q => ?_)
              · have h := h.1 q
                refine WP.iload dX8_dealt_92 rfl ?_
                refine WP.if_ge (tgt := 102) dX8_dealt_94 (by decide) (fun q => ?_) (fun q => ?_)
                · have h := h.1 q
                  refine WP.aload_n dX8_dealt_102 rfl ?_
                  refine WP.getR fd_X8_36 dX8_dealt_103 g0 rfl ?_
                  refine WP.getR fd_X8_198 dX8_dealt_106 g33 rfl ?_
                  refine WP.iload dX8_dealt_109 rfl ?_
                  obtain ⟨hi, h⟩ := h
                  refine WP.iald dX8_dealt_111 g34 hi ?_
                  exact WP.iret rfl dX8_dealt_112 h
                · have h := h.2 q
                  refine WP.iload dX8_dealt_97 rfl ?_
                  refine WP.goto (tgt := 112) dX8_dealt_99 (by decide) ?_
                  exact WP.iret rfl dX8_dealt_112 h
              · have h := h.2 q
                refine WP.bipush dX8_dealt_89 (by decide) bp_m4 ?_
                exact WP.iret rfl dX8_dealt_91 h
          · have h := h.2 q
            refine WP.iconst dX8_dealt_44 (by decide) ?_
            exact WP.iret rfl dX8_dealt_45 h
theorem dX8_wore_0 : decode cX8_wore 0 = .ok (.aload_n 0, 1) := by decide +kernel
theorem dX8_wore_1 : decode cX8_wore 1 = .ok (.getfield 10, 3) := by decide +kernel
theorem dX8_wore_4 : decode cX8_wore 4 = .ok (.getfield 61, 3) := by decide +kernel
theorem dX8_wore_7 : decode cX8_wore 7 = .ok (.iload_n 1, 1) := by decide +kernel
theorem dX8_wore_8 : decode cX8_wore 8 = .ok (.invokevirtual 109, 3) := by decide +kernel
theorem dX8_wore_11 : decode cX8_wore 11 = .ok (.ifCond .eq 27, 3) := by decide +kernel
theorem dX8_wore_14 : decode cX8_wore 14 = .ok (.iload_n 2, 1) := by decide +kernel
theorem dX8_wore_15 : decode cX8_wore 15 = .ok (.bipush 25, 2) := by decide +kernel
theorem dX8_wore_17 : decode cX8_wore 17 = .ok (.invokestatic 58, 3) := by decide +kernel
theorem dX8_wore_20 : decode cX8_wore 20 = .ok (.ifCond .eq 18, 3) := by decide +kernel
theorem dX8_wore_23 : decode cX8_wore 23 = .ok (.aload_n 0, 1) := by decide +kernel
theorem dX8_wore_24 : decode cX8_wore 24 = .ok (.getfield 10, 3) := by decide +kernel
theorem dX8_wore_27 : decode cX8_wore 27 = .ok (.getfield 61, 3) := by decide +kernel
theorem dX8_wore_30 : decode cX8_wore 30 = .ok (.iload_n 1, 1) := by decide +kernel
theorem dX8_wore_31 : decode cX8_wore 31 = .ok (.iload_n 2, 1) := by decide +kernel
theorem dX8_wore_32 : decode cX8_wore 32 = .ok (.invokevirtual 201, 3) := by decide +kernel
theorem dX8_wore_35 : decode cX8_wore 35 = .ok (.goto 4, 3) := by decide +kernel
theorem dX8_wore_38 : decode cX8_wore 38 = .ok (.iconst (-1), 1) := by decide +kernel
theorem dX8_wore_39 : decode cX8_wore 39 = .ok (.ireturn, 1) := by decide +kernel
set_option maxRecDepth 100000 in
set_option maxHeartbeats 4000000 in
theorem e_X8_wore_0 (x1 x2 : Int) {σ : Mem} {Q : Int → Mem → Prop} (h : HT GC M_X0_has [mr 3, mi x1] σ (fun r8 σ8 => (r8 = 0 → Q (-1) σ8) ∧ (¬ r8 = 0 → HT GC M_X8_within [mi x2, mi 25] σ8 (fun r17 σ17 => (r17 = 0 → Q (-1) σ17) ∧ (¬ r17 = 0 → HT GC M_X0_wearers [mr 3, mi x1, mi x2] σ17 (fun r32 σ32 => Q r32 σ32)))))) : HT GC M_X8_wore [mr 0, mi x1, mi x2] σ Q := by
  refine HT.of pn_X8 (Nat.le_of_ble_eq_true rfl) ?_
  show WP GC M_X8_wore 0 [some (mr 0), some (mi x1), some (mi x2)] [] σ Q
  refine WP.aload_n dX8_wore_0 rfl ?_
  refine WP.getR fd_X8_10 dX8_wore_1 g0 rfl ?_
  refine WP.getR fd_X8_61 dX8_wore_4 g1 rfl ?_
  refine WP.iload_n dX8_wore_7 rfl ?_
  refine WP.callV M_X0_has [mi x1] cv_X0_has dX8_wore_8 lk_X8_109 g3 rfl ft_X8_wore__X0_has rfl (Nat.le_of_ble_eq_true rfl) (HT.mono h ?_)
  rintro r8 σ8 - - h
  refine WP.if_eq (tgt := 38) dX8_wore_11 (by decide) (fun q => ?_) (fun q => ?_)
  · have h := h.1 q
    refine WP.iconst dX8_wore_38 (by decide) ?_
    exact WP.iret rfl dX8_wore_39 h
  · have h := h.2 q
    refine WP.iload_n dX8_wore_14 rfl ?_
    refine WP.bipush dX8_wore_15 (by decide) bp_25 ?_
    refine WP.callS M_X8_within [mi x2, mi 25] cs_X8_within dX8_wore_17 lk_X8_58 ft_X8_wore__X8_within rfl (Nat.le_of_ble_eq_true rfl) (HT.mono h ?_)
    rintro r17 σ17 - - h
    refine WP.if_eq (tgt := 38) dX8_wore_20 (by decide) (fun q => ?_) (fun q => ?_)
    · have h := h.1 q
      refine WP.iconst dX8_wore_38 (by decide) ?_
      exact WP.iret rfl dX8_wore_39 h
    · have h := h.2 q
      refine WP.aload_n dX8_wore_23 rfl ?_
      refine WP.getR fd_X8_10 dX8_wore_24 g0 rfl ?_
      refine WP.getR fd_X8_61 dX8_wore_27 g1 rfl ?_
      refine WP.iload_n dX8_wore_30 rfl ?_
      refine WP.iload_n dX8_wore_31 rfl ?_
      refine WP.callV M_X0_wearers [mi x1, mi x2] cv_X0_wearers dX8_wore_32 lk_X8_201 g3 rfl ft_X8_wore__X0_wearers rfl (Nat.le_of_ble_eq_true rfl) (HT.mono h ?_)
      rintro r32 σ32 - - h
      refine WP.goto (tgt := 39) dX8_wore_35 (by decide) ?_
      exact WP.iret rfl dX8_wore_39 h
theorem dX8_isPair_0 : decode cX8_isPair 0 = .ok (.iload_n 0, 1) := by decide +kernel
theorem dX8_isPair_1 : decode cX8_isPair 1 = .ok (.bipush 8, 2) := by decide +kernel
theorem dX8_isPair_3 : decode cX8_isPair 3 = .ok (.invokestatic 58, 3) := by decide +kernel
theorem dX8_isPair_6 : decode cX8_isPair 6 = .ok (.ifCond .eq 21, 3) := by decide +kernel
theorem dX8_isPair_9 : decode cX8_isPair 9 = .ok (.iload_n 1, 1) := by decide +kernel
theorem dX8_isPair_10 : decode cX8_isPair 10 = .ok (.bipush 8, 2) := by decide +kernel
theorem dX8_isPair_12 : decode cX8_isPair 12 = .ok (.invokestatic 58, 3) := by decide +kernel
theorem dX8_isPair_15 : decode cX8_isPair 15 = .ok (.ifCond .eq 12, 3) := by decide +kernel
theorem dX8_isPair_18 : decode cX8_isPair 18 = .ok (.iload_n 0, 1) := by decide +kernel
theorem dX8_isPair_19 : decode cX8_isPair 19 = .ok (.iload_n 1, 1) := by decide +kernel
theorem dX8_isPair_20 : decode cX8_isPair 20 = .ok (.if_icmp .eq 7, 3) := by decide +kernel
theorem dX8_isPair_23 : decode cX8_isPair 23 = .ok (.iconst 1, 1) := by decide +kernel
theorem dX8_isPair_24 : decode cX8_isPair 24 = .ok (.goto 4, 3) := by decide +kernel
theorem dX8_isPair_27 : decode cX8_isPair 27 = .ok (.iconst 0, 1) := by decide +kernel
theorem dX8_isPair_28 : decode cX8_isPair 28 = .ok (.ireturn, 1) := by decide +kernel
set_option maxRecDepth 100000 in
set_option maxHeartbeats 4000000 in
theorem e_X8_isPair (x0 x1 : Int) {σ : Mem} {Q : Int → Mem → Prop} (h : HT GC M_X8_within [mi x0, mi 8] σ (fun r3 σ3 => (r3 = 0 → Q 0 σ3) ∧ (¬ r3 = 0 → HT GC M_X8_within [mi x1, mi 8] σ3 (fun r12 σ12 => (r12 = 0 → Q 0 σ12) ∧ (¬ r12 = 0 → (x0 = x1 → Q 0 σ12) ∧ (¬ x0 = x1 → Q 1 σ12)))))) : HT GC M_X8_isPair [mi x0, mi x1] σ Q := by
  refine HT.of pn_X8 (Nat.le_of_ble_eq_true rfl) ?_
  show WP GC M_X8_isPair 0 [some (mi x0), some (mi x1)] [] σ Q
  refine WP.iload_n dX8_isPair_0 rfl ?_
  refine WP.bipush dX8_isPair_1 (by decide) bp_8 ?_
  refine WP.callS M_X8_within [mi x0, mi 8] cs_X8_within dX8_isPair_3 lk_X8_58 ft_X8_isPair__X8_within rfl (Nat.le_of_ble_eq_true rfl) (HT.mono h ?_)
  rintro r3 σ3 - - h
  refine WP.if_eq (tgt := 27) dX8_isPair_6 (by decide) (fun q => ?_) (fun q => ?_)
  · have h := h.1 q
    refine WP.iconst dX8_isPair_27 (by decide) ?_
    exact WP.zret rfl dX8_isPair_28 (by decide) h
  · have h := h.2 q
    refine WP.iload_n dX8_isPair_9 rfl ?_
    refine WP.bipush dX8_isPair_10 (by decide) bp_8 ?_
    refine WP.callS M_X8_within [mi x1, mi 8] cs_X8_within dX8_isPair_12 lk_X8_58 ft_X8_isPair__X8_within rfl (Nat.le_of_ble_eq_true rfl) (HT.mono h ?_)
    rintro r12 σ12 - - h
    refine WP.if_eq (tgt := 27) dX8_isPair_15 (by decide) (fun q => ?_) (fun q => ?_)
    · have h := h.1 q
      refine WP.iconst dX8_isPair_27 (by decide) ?_
      exact WP.zret rfl dX8_isPair_28 (by decide) h
    · have h := h.2 q
      refine WP.iload_n dX8_isPair_18 rfl ?_
      refine WP.iload_n dX8_isPair_19 rfl ?_
      refine WP.icmp_eq (tgt := 27) dX8_isPair_20 (by decide) (fun q => ?_) (fun q => ?_)
      · have h := h.1 q
        refine WP.iconst dX8_isPair_27 (by decide) ?_
        exact WP.zret rfl dX8_isPair_28 (by decide) h
      · have h := h.2 q
        refine WP.iconst dX8_isPair_23 (by decide) ?_
        refine WP.goto (tgt := 28) dX8_isPair_24 (by decide) ?_
        exact WP.zret rfl dX8_isPair_28 (by decide) h
theorem dX8_owe_0 : decode cX8_owe 0 = .ok (.iload_n 1, 1) := by decide +kernel
theorem dX8_owe_1 : decode cX8_owe 1 = .ok (.iload_n 2, 1) := by decide +kernel
theorem dX8_owe_2 : decode cX8_owe 2 = .ok (.invokestatic 204, 3) := by decide +kernel
theorem dX8_owe_5 : decode cX8_owe 5 = .ok (.ifCond .eq 13, 3) := by decide +kernel
theorem dX8_owe_8 : decode cX8_owe 8 = .ok (.iload_n 3, 1) := by decide +kernel
theorem dX8_owe_9 : decode cX8_owe 9 = .ok (.sipush 1000, 3) := by decide +kernel
theorem dX8_owe_12 : decode cX8_owe 12 = .ok (.invokestatic 58, 3) := by decide +kernel
theorem dX8_owe_15 : decode cX8_owe 15 = .ok (.ifCond .ne 5, 3) := by decide +kernel
theorem dX8_owe_18 : decode cX8_owe 18 = .ok (.iconst (-1), 1) := by decide +kernel
theorem dX8_owe_19 : decode cX8_owe 19 = .ok (.ireturn, 1) := by decide +kernel
theorem dX8_owe_20 : decode cX8_owe 20 = .ok (.aload_n 0, 1) := by decide +kernel
theorem dX8_owe_21 : decode cX8_owe 21 = .ok (.getfield 10, 3) := by decide +kernel
theorem dX8_owe_24 : decode cX8_owe 24 = .ok (.getfield 207, 3) := by decide +kernel
theorem dX8_owe_27 : decode cX8_owe 27 = .ok (.iload_n 1, 1) := by decide +kernel
theorem dX8_owe_28 : decode cX8_owe 28 = .ok (.bipush 8, 2) := by decide +kernel
theorem dX8_owe_30 : decode cX8_owe 30 = .ok (.imul, 1) := by decide +kernel
theorem dX8_owe_31 : decode cX8_owe 31 = .ok (.iload_n 2, 1) := by decide +kernel
theorem dX8_owe_32 : decode cX8_owe 32 = .ok (.iadd, 1) := by decide +kernel
theorem dX8_owe_33 : decode cX8_owe 33 = .ok (.iaload, 1) := by decide +kernel
theorem dX8_owe_34 : decode cX8_owe 34 = .ok (.istore 4, 2) := by decide +kernel
theorem dX8_owe_36 : decode cX8_owe 36 = .ok (.aload_n 0, 1) := by decide +kernel
theorem dX8_owe_37 : decode cX8_owe 37 = .ok (.getfield 10, 3) := by decide +kernel
theorem dX8_owe_40 : decode cX8_owe 40 = .ok (.getfield 207, 3) := by decide +kernel
theorem dX8_owe_43 : decode cX8_owe 43 = .ok (.iload_n 1, 1) := by decide +kernel
theorem dX8_owe_44 : decode cX8_owe 44 = .ok (.bipush 8, 2) := by decide +kernel
theorem dX8_owe_46 : decode cX8_owe 46 = .ok (.imul, 1) := by decide +kernel
theorem dX8_owe_47 : decode cX8_owe 47 = .ok (.iload_n 2, 1) := by decide +kernel
theorem dX8_owe_48 : decode cX8_owe 48 = .ok (.iadd, 1) := by decide +kernel
theorem dX8_owe_49 : decode cX8_owe 49 = .ok (.iload_n 3, 1) := by decide +kernel
theorem dX8_owe_50 : decode cX8_owe 50 = .ok (.iastore, 1) := by decide +kernel
theorem dX8_owe_51 : decode cX8_owe 51 = .ok (.iload 4, 2) := by decide +kernel
theorem dX8_owe_53 : decode cX8_owe 53 = .ok (.ireturn, 1) := by decide +kernel
set_option maxRecDepth 100000 in
set_option maxHeartbeats 4000000 in
theorem e_X8_owe_0 (x1 x2 x3 : Int) {σ : Mem} {Q : Int → Mem → Prop} (h : HT GC M_X8_isPair [mi x1, mi x2] σ (fun r2 σ2 => (r2 = 0 → Q (-1) σ2) ∧ (¬ r2 = 0 → HT GC M_X8_within [mi x3, mi 1000] σ2 (fun r12 σ12 => (¬ r12 = 0 → (0 ≤ jadd (jmul x1 8) x2 ∧ jadd (jmul x1 8) x2 < 64) ∧ ((0 ≤ jadd (jmul x1 8) x2 ∧ jadd (jmul x1 8) x2 < 64) ∧ (Q (σ12 2 (jadd (jmul x1 8) x2)) (mupd σ12 2 (jadd (jmul x1 8) x2) x3)))) ∧ (r12 = 0 → Q (-1) σ12))))) : HT GC M_X8_owe [mr 0, mi x1, mi x2, mi x3] σ Q := by
  refine HT.of pn_X8 (Nat.le_of_ble_eq_true rfl) ?_
  show WP GC M_X8_owe 0 [some (mr 0), some (mi x1), some (mi x2), some (mi x3), none] [] σ Q
  refine WP.iload_n dX8_owe_0 rfl ?_
  refine WP.iload_n dX8_owe_1 rfl ?_
  refine WP.callS M_X8_isPair [mi x1, mi x2] cs_X8_isPair dX8_owe_2 lk_X8_204 ft_X8_owe__X8_isPair rfl (Nat.le_of_ble_eq_true rfl) (HT.mono h ?_)
  rintro r2 σ2 - - h
  refine WP.if_eq (tgt := 18) dX8_owe_5 (by decide) (fun q => ?_) (fun q => ?_)
  · have h := h.1 q
    refine WP.iconst dX8_owe_18 (by decide) ?_
    exact WP.iret rfl dX8_owe_19 h
  · have h := h.2 q
    refine WP.iload_n dX8_owe_8 rfl ?_
    refine WP.sipush dX8_owe_9 (by decide) sp_1000 ?_
    refine WP.callS M_X8_within [mi x3, mi 1000] cs_X8_within dX8_owe_12 lk_X8_58 ft_X8_owe__X8_within rfl (Nat.le_of_ble_eq_true rfl) (HT.mono h ?_)
    rintro r12 σ12 - - h
    refine WP.if_ne (tgt := 20) dX8_owe_15 (by decide) (fun q => ?_) (fun q => ?_)
    · have h := h.1 q
      refine WP.aload_n dX8_owe_20 rfl ?_
      refine WP.getR fd_X8_10 dX8_owe_21 g0 rfl ?_
      refine WP.getR fd_X8_207 dX8_owe_24 g1 rfl ?_
      refine WP.iload_n dX8_owe_27 rfl ?_
      refine WP.bipush dX8_owe_28 (by decide) bp_8 ?_
      refine WP.imul dX8_owe_30 ?_
      refine WP.iload_n dX8_owe_31 rfl ?_
      refine WP.iadd dX8_owe_32 ?_
      obtain ⟨hi, h⟩ := h
      refine WP.iald dX8_owe_33 g2 hi ?_
      refine WP.istore (L2 := [some (mr 0), some (mi x1), some (mi x2), some (mi x3), some (mi (σ12 2 (jadd (jmul x1 8) x2)))]) dX8_owe_34 (by decide) rfl ?_
      refine WP.aload_n dX8_owe_36 rfl ?_
      refine WP.getR fd_X8_10 dX8_owe_37 g0 rfl ?_
      refine WP.getR fd_X8_207 dX8_owe_40 g1 rfl ?_
      refine WP.iload_n dX8_owe_43 rfl ?_
      refine WP.bipush dX8_owe_44 (by decide) bp_8 ?_
      refine WP.imul dX8_owe_46 ?_
      refine WP.iload_n dX8_owe_47 rfl ?_
      refine WP.iadd dX8_owe_48 ?_
      refine WP.iload_n dX8_owe_49 rfl ?_
      obtain ⟨hi, h⟩ := h
      refine WP.iast dX8_owe_50 g2 hi ?_
      refine WP.iload dX8_owe_51 rfl ?_
      exact WP.iret rfl dX8_owe_53 h
    · have h := h.2 q
      refine WP.iconst dX8_owe_18 (by decide) ?_
      exact WP.iret rfl dX8_owe_19 h
theorem dX8_balance_0 : decode cX8_balance 0 = .ok (.iload_n 1, 1) := by decide +kernel
theorem dX8_balance_1 : decode cX8_balance 1 = .ok (.bipush 8, 2) := by decide +kernel
theorem dX8_balance_3 : decode cX8_balance 3 = .ok (.invokestatic 58, 3) := by decide +kernel
theorem dX8_balance_6 : decode cX8_balance 6 = .ok (.ifCond .eq 14, 3) := by decide +kernel
theorem dX8_balance_9 : decode cX8_balance 9 = .ok (.aload_n 0, 1) := by decide +kernel
theorem dX8_balance_10 : decode cX8_balance 10 = .ok (.getfield 10, 3) := by decide +kernel
theorem dX8_balance_13 : decode cX8_balance 13 = .ok (.iload_n 1, 1) := by decide +kernel
theorem dX8_balance_14 : decode cX8_balance 14 = .ok (.invokevirtual 210, 3) := by decide +kernel
theorem dX8_balance_17 : decode cX8_balance 17 = .ok (.goto 5, 3) := by decide +kernel
theorem dX8_balance_20 : decode cX8_balance 20 = .ok (.ldc 213, 2) := by decide +kernel
theorem dX8_balance_22 : decode cX8_balance 22 = .ok (.ireturn, 1) := by decide +kernel
set_option maxRecDepth 100000 in
set_option maxHeartbeats 4000000 in
theorem e_X8_balance_0 (x1 : Int) {σ : Mem} {Q : Int → Mem → Prop} (h : HT GC M_X8_within [mi x1, mi 8] σ (fun r3 σ3 => (r3 = 0 → Q (-100001) σ3) ∧ (¬ r3 = 0 → HT GC M_X4_balanceOf [mr 1, mi x1] σ3 (fun r14 σ14 => Q r14 σ14)))) : HT GC M_X8_balance [mr 0, mi x1] σ Q := by
  refine HT.of pn_X8 (Nat.le_of_ble_eq_true rfl) ?_
  show WP GC M_X8_balance 0 [some (mr 0), some (mi x1)] [] σ Q
  refine WP.iload_n dX8_balance_0 rfl ?_
  refine WP.bipush dX8_balance_1 (by decide) bp_8 ?_
  refine WP.callS M_X8_within [mi x1, mi 8] cs_X8_within dX8_balance_3 lk_X8_58 ft_X8_balance__X8_within rfl (Nat.le_of_ble_eq_true rfl) (HT.mono h ?_)
  rintro r3 σ3 - - h
  refine WP.if_eq (tgt := 20) dX8_balance_6 (by decide) (fun q => ?_) (fun q => ?_)
  · have h := h.1 q
    refine WP.ldc (x := (-100001)) dX8_balance_20 ct_X8_213 (by decide) (by decide) ?_
    exact WP.iret rfl dX8_balance_22 h
  · have h := h.2 q
    refine WP.aload_n dX8_balance_9 rfl ?_
    refine WP.getR fd_X8_10 dX8_balance_10 g0 rfl ?_
    refine WP.iload_n dX8_balance_13 rfl ?_
    refine WP.callV M_X4_balanceOf [mi x1] cv_X4_balanceOf dX8_balance_14 lk_X8_210 g1 rfl ft_X8_balance__X4_balanceOf rfl (Nat.le_of_ble_eq_true rfl) (HT.mono h ?_)
    rintro r14 σ14 - - h
    refine WP.goto (tgt := 22) dX8_balance_17 (by decide) ?_
    exact WP.iret rfl dX8_balance_22 h
theorem dX8_payments_0 : decode cX8_payments 0 = .ok (.aload_n 0, 1) := by decide +kernel
theorem dX8_payments_1 : decode cX8_payments 1 = .ok (.getfield 43, 3) := by decide +kernel
theorem dX8_payments_4 : decode cX8_payments 4 = .ok (.aload_n 0, 1) := by decide +kernel
theorem dX8_payments_5 : decode cX8_payments 5 = .ok (.getfield 10, 3) := by decide +kernel
theorem dX8_payments_8 : decode cX8_payments 8 = .ok (.invokevirtual 214, 3) := by decide +kernel
theorem dX8_payments_11 : decode cX8_payments 11 = .ok (.ireturn, 1) := by decide +kernel
set_option maxRecDepth 100000 in
set_option maxHeartbeats 4000000 in
theorem e_X8_payments_0 {σ : Mem} {Q : Int → Mem → Prop} (h : HT GC M_X1_fewest [mr 40, mr 1] σ (fun r8 σ8 => Q r8 σ8)) : HT GC M_X8_payments [mr 0] σ Q := by
  refine HT.of pn_X8 (Nat.le_of_ble_eq_true rfl) ?_
  show WP GC M_X8_payments 0 [some (mr 0)] [] σ Q
  refine WP.aload_n dX8_payments_0 rfl ?_
  refine WP.getR fd_X8_43 dX8_payments_1 g0 rfl ?_
  refine WP.aload_n dX8_payments_4 rfl ?_
  refine WP.getR fd_X8_10 dX8_payments_5 g0 rfl ?_
  refine WP.callV M_X1_fewest [mr 1] cv_X1_fewest dX8_payments_8 lk_X8_214 g40 rfl ft_X8_payments__X1_fewest rfl (Nat.le_of_ble_eq_true rfl) (HT.mono h ?_)
  rintro r8 σ8 - - h
  exact WP.iret rfl dX8_payments_11 h
theorem dX8_seed_0 : decode cX8_seed 0 = .ok (.iload_n 1, 1) := by decide +kernel
theorem dX8_seed_1 : decode cX8_seed 1 = .ok (.ifCond .ge 5, 3) := by decide +kernel
theorem dX8_seed_4 : decode cX8_seed 4 = .ok (.iconst (-1), 1) := by decide +kernel
theorem dX8_seed_5 : decode cX8_seed 5 = .ok (.ireturn, 1) := by decide +kernel
theorem dX8_seed_6 : decode cX8_seed 6 = .ok (.aload_n 0, 1) := by decide +kernel
theorem dX8_seed_7 : decode cX8_seed 7 = .ok (.getfield 10, 3) := by decide +kernel
theorem dX8_seed_10 : decode cX8_seed 10 = .ok (.getfield 218, 3) := by decide +kernel
theorem dX8_seed_13 : decode cX8_seed 13 = .ok (.istore_n 2, 1) := by decide +kernel
theorem dX8_seed_14 : decode cX8_seed 14 = .ok (.aload_n 0, 1) := by decide +kernel
theorem dX8_seed_15 : decode cX8_seed 15 = .ok (.getfield 10, 3) := by decide +kernel
theorem dX8_seed_18 : decode cX8_seed 18 = .ok (.iload_n 1, 1) := by decide +kernel
theorem dX8_seed_19 : decode cX8_seed 19 = .ok (.putfield 218, 3) := by decide +kernel
theorem dX8_seed_22 : decode cX8_seed 22 = .ok (.iload_n 2, 1) := by decide +kernel
theorem dX8_seed_23 : decode cX8_seed 23 = .ok (.ireturn, 1) := by decide +kernel
set_option maxRecDepth 100000 in
set_option maxHeartbeats 4000000 in
theorem e_X8_seed_0 (x1 : Int) {σ : Mem} {Q : Int → Mem → Prop} (h : (0 ≤ x1 → Q (σ 1 4) (mupd σ 1 4 x1)) ∧ (¬ 0 ≤ x1 → Q (-1) σ)) : HT GC M_X8_seed [mr 0, mi x1] σ Q := by
  refine HT.of pn_X8 (Nat.le_of_ble_eq_true rfl) ?_
  show WP GC M_X8_seed 0 [some (mr 0), some (mi x1), none] [] σ Q
  refine WP.iload_n dX8_seed_0 rfl ?_
  refine WP.if_ge (tgt := 6) dX8_seed_1 (by decide) (fun q => ?_) (fun q => ?_)
  · have h := h.1 q
    refine WP.aload_n dX8_seed_6 rfl ?_
    refine WP.getR fd_X8_10 dX8_seed_7 g0 rfl ?_
    refine WP.getI (v := σ 1 4) fd_X8_218 dX8_seed_10 g1 rfl rfl ?_
    refine WP.istore_n (L2 := [some (mr 0), some (mi x1), some (mi (σ 1 4))]) dX8_seed_13 (by decide) rfl ?_
    refine WP.aload_n dX8_seed_14 rfl ?_
    refine WP.getR fd_X8_10 dX8_seed_15 g0 rfl ?_
    refine WP.iload_n dX8_seed_18 rfl ?_
    refine WP.put fp_X8_218 dX8_seed_19 g1 rfl rfl rfl ?_
    refine WP.iload_n dX8_seed_22 rfl ?_
    exact WP.iret rfl dX8_seed_23 h
  · have h := h.2 q
    refine WP.iconst dX8_seed_4 (by decide) ?_
    exact WP.iret rfl dX8_seed_5 h
theorem dX8_image_0 : decode cX8_image 0 = .ok (.aload_n 0, 1) := by decide +kernel
theorem dX8_image_1 : decode cX8_image 1 = .ok (.getfield 16, 3) := by decide +kernel
theorem dX8_image_4 : decode cX8_image 4 = .ok (.aload_n 0, 1) := by decide +kernel
theorem dX8_image_5 : decode cX8_image 5 = .ok (.getfield 10, 3) := by decide +kernel
theorem dX8_image_8 : decode cX8_image 8 = .ok (.invokevirtual 221, 3) := by decide +kernel
theorem dX8_image_11 : decode cX8_image 11 = .ok (.aload_n 0, 1) := by decide +kernel
theorem dX8_image_12 : decode cX8_image 12 = .ok (.iconst 1, 1) := by decide +kernel
theorem dX8_image_13 : decode cX8_image 13 = .ok (.putfield 224, 3) := by decide +kernel
theorem dX8_image_16 : decode cX8_image 16 = .ok (.iconst 1, 1) := by decide +kernel
theorem dX8_image_17 : decode cX8_image 17 = .ok (.ireturn, 1) := by decide +kernel
set_option maxRecDepth 100000 in
set_option maxHeartbeats 4000000 in
theorem e_X8_image_0 {σ : Mem} {Q : Int → Mem → Prop} (h : HT GC M_X4_become [mr 13, mr 1] σ (fun _ σ8 => Q 1 (mupd σ8 0 2 1))) : HT GC M_X8_image [mr 0] σ Q := by
  refine HT.of pn_X8 (Nat.le_of_ble_eq_true rfl) ?_
  show WP GC M_X8_image 0 [some (mr 0)] [] σ Q
  refine WP.aload_n dX8_image_0 rfl ?_
  refine WP.getR fd_X8_16 dX8_image_1 g0 rfl ?_
  refine WP.aload_n dX8_image_4 rfl ?_
  refine WP.getR fd_X8_10 dX8_image_5 g0 rfl ?_
  refine WP.callV M_X4_become [mr 1] cv_X4_become dX8_image_8 lk_X8_221 g13 rfl ft_X8_image__X4_become rfl (Nat.le_of_ble_eq_true rfl) (HT.mono h ?_)
  rintro _ σ8 - - h
  refine WP.aload_n dX8_image_11 rfl ?_
  refine WP.iconst dX8_image_12 (by decide) ?_
  refine WP.put fp_X8_224 dX8_image_13 g0 rfl (by decide) (by decide) ?_
  refine WP.iconst dX8_image_16 (by decide) ?_
  exact WP.iret rfl dX8_image_17 h
theorem dX8_restore_0 : decode cX8_restore 0 = .ok (.aload_n 0, 1) := by decide +kernel
theorem dX8_restore_1 : decode cX8_restore 1 = .ok (.getfield 224, 3) := by decide +kernel
theorem dX8_restore_4 : decode cX8_restore 4 = .ok (.ifCond .ne 6, 3) := by decide +kernel
theorem dX8_restore_7 : decode cX8_restore 7 = .ok (.bipush (-4), 2) := by decide +kernel
theorem dX8_restore_9 : decode cX8_restore 9 = .ok (.ireturn, 1) := by decide +kernel
theorem dX8_restore_10 : decode cX8_restore 10 = .ok (.aload_n 0, 1) := by decide +kernel
theorem dX8_restore_11 : decode cX8_restore 11 = .ok (.getfield 10, 3) := by decide +kernel
theorem dX8_restore_14 : decode cX8_restore 14 = .ok (.aload_n 0, 1) := by decide +kernel
theorem dX8_restore_15 : decode cX8_restore 15 = .ok (.getfield 16, 3) := by decide +kernel
theorem dX8_restore_18 : decode cX8_restore 18 = .ok (.invokevirtual 221, 3) := by decide +kernel
theorem dX8_restore_21 : decode cX8_restore 21 = .ok (.iconst 1, 1) := by decide +kernel
theorem dX8_restore_22 : decode cX8_restore 22 = .ok (.ireturn, 1) := by decide +kernel
set_option maxRecDepth 100000 in
set_option maxHeartbeats 4000000 in
theorem e_X8_restore_0 {σ : Mem} {Q : Int → Mem → Prop} (h : (¬ σ 0 2 = 0 → HT GC M_X4_become [mr 1, mr 13] σ (fun _ σ18 => Q 1 σ18)) ∧ (σ 0 2 = 0 → Q (-4) σ)) : HT GC M_X8_restore [mr 0] σ Q := by
  refine HT.of pn_X8 (Nat.le_of_ble_eq_true rfl) ?_
  show WP GC M_X8_restore 0 [some (mr 0)] [] σ Q
  refine WP.aload_n dX8_restore_0 rfl ?_
  refine WP.getI (v := σ 0 2) fd_X8_224 dX8_restore_1 g0 rfl rfl ?_
  refine WP.if_ne (tgt := 10) dX8_restore_4 (by decide) (fun q => ?_) (fun q => ?_)
  · have h := h.1 q
    refine WP.aload_n dX8_restore_10 rfl ?_
    refine WP.getR fd_X8_10 dX8_restore_11 g0 rfl ?_
    refine WP.aload_n dX8_restore_14 rfl ?_
    refine WP.getR fd_X8_16 dX8_restore_15 g0 rfl ?_
    refine WP.callV M_X4_become [mr 13] cv_X4_become dX8_restore_18 lk_X8_221 g1 rfl ft_X8_restore__X4_become rfl (Nat.le_of_ble_eq_true rfl) (HT.mono h ?_)
    rintro _ σ18 - - h
    refine WP.iconst dX8_restore_21 (by decide) ?_
    exact WP.iret rfl dX8_restore_22 h
  · have h := h.2 q
    refine WP.bipush dX8_restore_7 (by decide) bp_m4 ?_
    exact WP.iret rfl dX8_restore_9 h
theorem dX8_owes_0 : decode cX8_owes 0 = .ok (.iload_n 1, 1) := by decide +kernel
theorem dX8_owes_1 : decode cX8_owes 1 = .ok (.iconst 4, 1) := by decide +kernel
theorem dX8_owes_2 : decode cX8_owes 2 = .ok (.invokestatic 58, 3) := by decide +kernel
theorem dX8_owes_5 : decode cX8_owes 5 = .ok (.ifCond .eq 24, 3) := by decide +kernel
theorem dX8_owes_8 : decode cX8_owes 8 = .ok (.iload_n 2, 1) := by decide +kernel
theorem dX8_owes_9 : decode cX8_owes 9 = .ok (.iconst 3, 1) := by decide +kernel
theorem dX8_owes_10 : decode cX8_owes 10 = .ok (.invokestatic 58, 3) := by decide +kernel
theorem dX8_owes_13 : decode cX8_owes 13 = .ok (.ifCond .eq 16, 3) := by decide +kernel
theorem dX8_owes_16 : decode cX8_owes 16 = .ok (.iload 4, 2) := by decide +kernel
theorem dX8_owes_18 : decode cX8_owes 18 = .ok (.iconst 1, 1) := by decide +kernel
theorem dX8_owes_19 : decode cX8_owes 19 = .ok (.if_icmp .lt 10, 3) := by decide +kernel
theorem dX8_owes_22 : decode cX8_owes 22 = .ok (.iload 4, 2) := by decide +kernel
theorem dX8_owes_24 : decode cX8_owes 24 = .ok (.bipush 6, 2) := by decide +kernel
theorem dX8_owes_26 : decode cX8_owes 26 = .ok (.if_icmp .le 5, 3) := by decide +kernel
theorem dX8_owes_29 : decode cX8_owes 29 = .ok (.iconst (-1), 1) := by decide +kernel
theorem dX8_owes_30 : decode cX8_owes 30 = .ok (.ireturn, 1) := by decide +kernel
theorem dX8_owes_31 : decode cX8_owes 31 = .ok (.aload_n 0, 1) := by decide +kernel
theorem dX8_owes_32 : decode cX8_owes 32 = .ok (.getfield 50, 3) := by decide +kernel
theorem dX8_owes_35 : decode cX8_owes 35 = .ok (.iload_n 1, 1) := by decide +kernel
theorem dX8_owes_36 : decode cX8_owes 36 = .ok (.iload_n 2, 1) := by decide +kernel
theorem dX8_owes_37 : decode cX8_owes 37 = .ok (.iload_n 3, 1) := by decide +kernel
theorem dX8_owes_38 : decode cX8_owes 38 = .ok (.iload 4, 2) := by decide +kernel
theorem dX8_owes_40 : decode cX8_owes 40 = .ok (.iconst 3, 1) := by decide +kernel
theorem dX8_owes_41 : decode cX8_owes 41 = .ok (.imul, 1) := by decide +kernel
theorem dX8_owes_42 : decode cX8_owes 42 = .ok (.invokevirtual 228, 3) := by decide +kernel
theorem dX8_owes_45 : decode cX8_owes 45 = .ok (.istore 5, 2) := by decide +kernel
theorem dX8_owes_47 : decode cX8_owes 47 = .ok (.iload 5, 2) := by decide +kernel
theorem dX8_owes_49 : decode cX8_owes 49 = .ok (.ifCond .eq 6, 3) := by decide +kernel
theorem dX8_owes_52 : decode cX8_owes 52 = .ok (.iload 5, 2) := by decide +kernel
theorem dX8_owes_54 : decode cX8_owes 54 = .ok (.ireturn, 1) := by decide +kernel
theorem dX8_owes_55 : decode cX8_owes 55 = .ok (.aload_n 0, 1) := by decide +kernel
theorem dX8_owes_56 : decode cX8_owes 56 = .ok (.getfield 43, 3) := by decide +kernel
theorem dX8_owes_59 : decode cX8_owes 59 = .ok (.aload_n 0, 1) := by decide +kernel
theorem dX8_owes_60 : decode cX8_owes 60 = .ok (.getfield 10, 3) := by decide +kernel
theorem dX8_owes_63 : decode cX8_owes 63 = .ok (.aload_n 0, 1) := by decide +kernel
theorem dX8_owes_64 : decode cX8_owes 64 = .ok (.getfield 50, 3) := by decide +kernel
theorem dX8_owes_67 : decode cX8_owes 67 = .ok (.getfield 232, 3) := by decide +kernel
theorem dX8_owes_70 : decode cX8_owes 70 = .ok (.iload_n 1, 1) := by decide +kernel
theorem dX8_owes_71 : decode cX8_owes 71 = .ok (.bipush 24, 2) := by decide +kernel
theorem dX8_owes_73 : decode cX8_owes 73 = .ok (.imul, 1) := by decide +kernel
theorem dX8_owes_74 : decode cX8_owes 74 = .ok (.iload_n 3, 1) := by decide +kernel
theorem dX8_owes_75 : decode cX8_owes 75 = .ok (.iadd, 1) := by decide +kernel
theorem dX8_owes_76 : decode cX8_owes 76 = .ok (.iload 4, 2) := by decide +kernel
theorem dX8_owes_78 : decode cX8_owes 78 = .ok (.invokevirtual 235, 3) := by decide +kernel
theorem dX8_owes_81 : decode cX8_owes 81 = .ok (.ireturn, 1) := by decide +kernel
set_option maxRecDepth 100000 in
set_option maxHeartbeats 4000000 in
theorem e_X8_owes_0 (x1 x2 x3 x4 : Int) {σ : Mem} {Q : Int → Mem → Prop} (h : HT GC M_X8_within [mi x1, mi 4] σ (fun r2 σ2 => (r2 = 0 → Q (-1) σ2) ∧ (¬ r2 = 0 → HT GC M_X8_within [mi x2, mi 3] σ2 (fun r10 σ10 => (r10 = 0 → Q (-1) σ10) ∧ (¬ r10 = 0 → (x4 < 1 → Q (-1) σ10) ∧ (¬ x4 < 1 → (x4 ≤ 6 → HT GC M_X3_find [mr 45, mi x1, mi x2, mi x3, mi (jmul x4 3)] σ10 (fun r42 σ42 => (r42 = 0 → HT GC M_X1_addDebts [mr 40, mr 1, mr 49, mi (jadd (jmul x1 24) x3), mi x4] σ42 (fun r78 σ78 => Q r78 σ78)) ∧ (¬ r42 = 0 → Q r42 σ42))) ∧ (¬ x4 ≤ 6 → Q (-1) σ10))))))) : HT GC M_X8_owes [mr 0, mi x1, mi x2, mi x3, mi x4] σ Q := by
  refine HT.of pn_X8 (Nat.le_of_ble_eq_true rfl) ?_
  show WP GC M_X8_owes 0 [some (mr 0), some (mi x1), some (mi x2), some (mi x3), some (mi x4), none] [] σ Q
  refine WP.iload_n dX8_owes_0 rfl ?_
  refine WP.iconst dX8_owes_1 (by decide) ?_
  refine WP.callS M_X8_within [mi x1, mi 4] cs_X8_within dX8_owes_2 lk_X8_58 ft_X8_owes__X8_within rfl (Nat.le_of_ble_eq_true rfl) (HT.mono h ?_)
  rintro r2 σ2 - - h
  refine WP.if_eq (tgt := 29) dX8_owes_5 (by decide) (fun q => ?_) (fun q => ?_)
  · have h := h.1 q
    refine WP.iconst dX8_owes_29 (by decide) ?_
    exact WP.iret rfl dX8_owes_30 h
  · have h := h.2 q
    refine WP.iload_n dX8_owes_8 rfl ?_
    refine WP.iconst dX8_owes_9 (by decide) ?_
    refine WP.callS M_X8_within [mi x2, mi 3] cs_X8_within dX8_owes_10 lk_X8_58 ft_X8_owes__X8_within rfl (Nat.le_of_ble_eq_true rfl) (HT.mono h ?_)
    rintro r10 σ10 - - h
    refine WP.if_eq (tgt := 29) dX8_owes_13 (by decide) (fun q => ?_) (fun q => ?_)
    · have h := h.1 q
      refine WP.iconst dX8_owes_29 (by decide) ?_
      exact WP.iret rfl dX8_owes_30 h
    · have h := h.2 q
      refine WP.iload dX8_owes_16 rfl ?_
      refine WP.iconst dX8_owes_18 (by decide) ?_
      refine WP.icmp_lt (tgt := 29) dX8_owes_19 (by decide) (fun q => ?_) (fun q => ?_)
      · have h := h.1 q
        refine WP.iconst dX8_owes_29 (by decide) ?_
        exact WP.iret rfl dX8_owes_30 h
      · have h := h.2 q
        refine WP.iload dX8_owes_22 rfl ?_
        refine WP.bipush dX8_owes_24 (by decide) bp_6 ?_
        refine WP.icmp_le (tgt := 31) dX8_owes_26 (by decide) (fun q => ?_) (fun q => ?_)
        · have h := h.1 q
          refine WP.aload_n dX8_owes_31 rfl ?_
          refine WP.getR fd_X8_50 dX8_owes_32 g0 rfl ?_
          refine WP.iload_n dX8_owes_35 rfl ?_
          refine WP.iload_n dX8_owes_36 rfl ?_
          refine WP.iload_n dX8_owes_37 rfl ?_
          refine WP.iload dX8_owes_38 rfl ?_
          refine WP.iconst dX8_owes_40 (by decide) ?_
          refine WP.imul dX8_owes_41 ?_
          refine WP.callV M_X3_find [mi x1, mi x2, mi x3, mi (jmul x4 3)] cv_X3_find dX8_owes_42 lk_X8_228 g45 rfl ft_X8_owes__X3_find rfl (Nat.le_of_ble_eq_true rfl) (HT.mono h ?_)
          rintro r42 σ42 - - h
          refine WP.istore (L2 := [some (mr 0), some (mi x1), some (mi x2), some (mi x3), some (mi x4), some (mi r42)]) dX8_owes_45 (by decide) rfl ?_
          refine WP.iload dX8_owes_47 rfl ?_
          refine WP.if_eq (tgt := 55) dX8_owes_49 (by decide) (fun q => ?_) (fun q => ?_)
          · have h := h.1 q
            refine WP.aload_n dX8_owes_55 rfl ?_
            refine WP.getR fd_X8_43 dX8_owes_56 g0 rfl ?_
            refine WP.aload_n dX8_owes_59 rfl ?_
            refine WP.getR fd_X8_10 dX8_owes_60 g0 rfl ?_
            refine WP.aload_n dX8_owes_63 rfl ?_
            refine WP.getR fd_X8_50 dX8_owes_64 g0 rfl ?_
            refine WP.getR fd_X8_232 dX8_owes_67 g45 rfl ?_
            refine WP.iload_n dX8_owes_70 rfl ?_
            refine WP.bipush dX8_owes_71 (by decide) bp_24 ?_
            refine WP.imul dX8_owes_73 ?_
            refine WP.iload_n dX8_owes_74 rfl ?_
            refine WP.iadd dX8_owes_75 ?_
            refine WP.iload dX8_owes_76 rfl ?_
            refine WP.callV M_X1_addDebts [mr 1, mr 49, mi (jadd (jmul x1 24) x3), mi x4] cv_X1_addDebts dX8_owes_78 lk_X8_235 g40 rfl ft_X8_owes__X1_addDebts rfl (Nat.le_of_ble_eq_true rfl) (HT.mono h ?_)
            rintro r78 σ78 - - h
            exact WP.iret rfl dX8_owes_81 h
          · have h := h.2 q
            refine WP.iload dX8_owes_52 rfl ?_
            exact WP.iret rfl dX8_owes_54 h
        · have h := h.2 q
          refine WP.iconst dX8_owes_29 (by decide) ?_
          exact WP.iret rfl dX8_owes_30 h
theorem dX8_film_0 : decode cX8_film 0 = .ok (.iload_n 1, 1) := by decide +kernel
theorem dX8_film_1 : decode cX8_film 1 = .ok (.iconst 4, 1) := by decide +kernel
theorem dX8_film_2 : decode cX8_film 2 = .ok (.invokestatic 58, 3) := by decide +kernel
theorem dX8_film_5 : decode cX8_film 5 = .ok (.ifCond .eq 11, 3) := by decide +kernel
theorem dX8_film_8 : decode cX8_film 8 = .ok (.iload_n 2, 1) := by decide +kernel
theorem dX8_film_9 : decode cX8_film 9 = .ok (.iconst 3, 1) := by decide +kernel
theorem dX8_film_10 : decode cX8_film 10 = .ok (.invokestatic 58, 3) := by decide +kernel
theorem dX8_film_13 : decode cX8_film 13 = .ok (.ifCond .ne 5, 3) := by decide +kernel
theorem dX8_film_16 : decode cX8_film 16 = .ok (.iconst (-1), 1) := by decide +kernel
theorem dX8_film_17 : decode cX8_film 17 = .ok (.ireturn, 1) := by decide +kernel
theorem dX8_film_18 : decode cX8_film 18 = .ok (.aload_n 0, 1) := by decide +kernel
theorem dX8_film_19 : decode cX8_film 19 = .ok (.getfield 10, 3) := by decide +kernel
theorem dX8_film_22 : decode cX8_film 22 = .ok (.getfield 81, 3) := by decide +kernel
theorem dX8_film_25 : decode cX8_film 25 = .ok (.getfield 85, 3) := by decide +kernel
theorem dX8_film_28 : decode cX8_film 28 = .ok (.istore 4, 2) := by decide +kernel
theorem dX8_film_30 : decode cX8_film 30 = .ok (.aload_n 0, 1) := by decide +kernel
theorem dX8_film_31 : decode cX8_film 31 = .ok (.getfield 50, 3) := by decide +kernel
theorem dX8_film_34 : decode cX8_film 34 = .ok (.iload_n 1, 1) := by decide +kernel
theorem dX8_film_35 : decode cX8_film 35 = .ok (.iload_n 2, 1) := by decide +kernel
theorem dX8_film_36 : decode cX8_film 36 = .ok (.iload_n 3, 1) := by decide +kernel
theorem dX8_film_37 : decode cX8_film 37 = .ok (.iload 4, 2) := by decide +kernel
theorem dX8_film_39 : decode cX8_film 39 = .ok (.invokevirtual 228, 3) := by decide +kernel
theorem dX8_film_42 : decode cX8_film 42 = .ok (.istore 5, 2) := by decide +kernel
theorem dX8_film_44 : decode cX8_film 44 = .ok (.iload 5, 2) := by decide +kernel
theorem dX8_film_46 : decode cX8_film 46 = .ok (.ifCond .eq 6, 3) := by decide +kernel
theorem dX8_film_49 : decode cX8_film 49 = .ok (.iload 5, 2) := by decide +kernel
theorem dX8_film_51 : decode cX8_film 51 = .ok (.ireturn, 1) := by decide +kernel
theorem dX8_film_52 : decode cX8_film 52 = .ok (.aload_n 0, 1) := by decide +kernel
theorem dX8_film_53 : decode cX8_film 53 = .ok (.getfield 10, 3) := by decide +kernel
theorem dX8_film_56 : decode cX8_film 56 = .ok (.getfield 81, 3) := by decide +kernel
theorem dX8_film_59 : decode cX8_film 59 = .ok (.getfield 96, 3) := by decide +kernel
theorem dX8_film_62 : decode cX8_film 62 = .ok (.iconst 0, 1) := by decide +kernel
theorem dX8_film_63 : decode cX8_film 63 = .ok (.aload_n 0, 1) := by decide +kernel
theorem dX8_film_64 : decode cX8_film 64 = .ok (.getfield 50, 3) := by decide +kernel
theorem dX8_film_67 : decode cX8_film 67 = .ok (.getfield 232, 3) := by decide +kernel
theorem dX8_film_70 : decode cX8_film 70 = .ok (.iload_n 1, 1) := by decide +kernel
theorem dX8_film_71 : decode cX8_film 71 = .ok (.bipush 24, 2) := by decide +kernel
theorem dX8_film_73 : decode cX8_film 73 = .ok (.imul, 1) := by decide +kernel
theorem dX8_film_74 : decode cX8_film 74 = .ok (.iload_n 3, 1) := by decide +kernel
theorem dX8_film_75 : decode cX8_film 75 = .ok (.iadd, 1) := by decide +kernel
theorem dX8_film_76 : decode cX8_film 76 = .ok (.iload 4, 2) := by decide +kernel
theorem dX8_film_78 : decode cX8_film 78 = .ok (.invokestatic 239, 3) := by decide +kernel
theorem dX8_film_81 : decode cX8_film 81 = .ok (.iload 4, 2) := by decide +kernel
theorem dX8_film_83 : decode cX8_film 83 = .ok (.ireturn, 1) := by decide +kernel
set_option maxRecDepth 100000 in
set_option maxHeartbeats 4000000 in
theorem e_X8_film_0 (x1 x2 x3 : Int) {σ : Mem} {Q : Int → Mem → Prop} (h : HT GC M_X8_within [mi x1, mi 4] σ (fun r2 σ2 => (r2 = 0 → Q (-1) σ2) ∧ (¬ r2 = 0 → HT GC M_X8_within [mi x2, mi 3] σ2 (fun r10 σ10 => (¬ r10 = 0 → HT GC M_X3_find [mr 45, mi x1, mi x2, mi x3, mi (σ10 8 0)] σ10 (fun r39 σ39 => (r39 = 0 → ((0 : Int) ≤ 0 ∧ (0 : Int) ≤ jadd (jmul x1 24) x3 ∧ (0 : Int) ≤ σ10 8 0 ∧ (0 : Int) + σ10 8 0 ≤ 8 ∧ (jadd (jmul x1 24) x3 : Int) + σ10 8 0 ≤ 96) ∧ (Q (σ10 8 0) (mcpy σ39 10 0 49 (jadd (jmul x1 24) x3) (σ10 8 0)))) ∧ (¬ r39 = 0 → Q r39 σ39))) ∧ (r10 = 0 → Q (-1) σ10))))) : HT GC M_X8_film [mr 0, mi x1, mi x2, mi x3] σ Q := by
  refine HT.of pn_X8 (Nat.le_of_ble_eq_true rfl) ?_
  show WP GC M_X8_film 0 [some (mr 0), some (mi x1), some (mi x2), some (mi x3), none, none] [] σ Q
  refine WP.iload_n dX8_film_0 rfl ?_
  refine WP.iconst dX8_film_1 (by decide) ?_
  refine WP.callS M_X8_within [mi x1, mi 4] cs_X8_within dX8_film_2 lk_X8_58 ft_X8_film__X8_within rfl (Nat.le_of_ble_eq_true rfl) (HT.mono h ?_)
  rintro r2 σ2 - - h
  refine WP.if_eq (tgt := 16) dX8_film_5 (by decide) (fun q => ?_) (fun q => ?_)
  · have h := h.1 q
    refine WP.iconst dX8_film_16 (by decide) ?_
    exact WP.iret rfl dX8_film_17 h
  · have h := h.2 q
    refine WP.iload_n dX8_film_8 rfl ?_
    refine WP.iconst dX8_film_9 (by decide) ?_
    refine WP.callS M_X8_within [mi x2, mi 3] cs_X8_within dX8_film_10 lk_X8_58 ft_X8_film__X8_within rfl (Nat.le_of_ble_eq_true rfl) (HT.mono h ?_)
    rintro r10 σ10 - - h
    refine WP.if_ne (tgt := 18) dX8_film_13 (by decide) (fun q => ?_) (fun q => ?_)
    · have h := h.1 q
      refine WP.aload_n dX8_film_18 rfl ?_
      refine WP.getR fd_X8_10 dX8_film_19 g0 rfl ?_
      refine WP.getR fd_X8_81 dX8_film_22 g1 rfl ?_
      refine WP.getI (v := σ10 8 0) fd_X8_85 dX8_film_25 g8 rfl rfl ?_
      refine WP.istore (L2 := [some (mr 0), some (mi x1), some (mi x2), some (mi x3), some (mi (σ10 8 0)), none]) dX8_film_28 (by decide) rfl ?_
      refine WP.aload_n dX8_film_30 rfl ?_
      refine WP.getR fd_X8_50 dX8_film_31 g0 rfl ?_
      refine WP.iload_n dX8_film_34 rfl ?_
      refine WP.iload_n dX8_film_35 rfl ?_
      refine WP.iload_n dX8_film_36 rfl ?_
      refine WP.iload dX8_film_37 rfl ?_
      refine WP.callV M_X3_find [mi x1, mi x2, mi x3, mi (σ10 8 0)] cv_X3_find dX8_film_39 lk_X8_228 g45 rfl ft_X8_film__X3_find rfl (Nat.le_of_ble_eq_true rfl) (HT.mono h ?_)
      rintro r39 σ39 - - h
      refine WP.istore (L2 := [some (mr 0), some (mi x1), some (mi x2), some (mi x3), some (mi (σ10 8 0)), some (mi r39)]) dX8_film_42 (by decide) rfl ?_
      refine WP.iload dX8_film_44 rfl ?_
      refine WP.if_eq (tgt := 52) dX8_film_46 (by decide) (fun q => ?_) (fun q => ?_)
      · have h := h.1 q
        refine WP.aload_n dX8_film_52 rfl ?_
        refine WP.getR fd_X8_10 dX8_film_53 g0 rfl ?_
        refine WP.getR fd_X8_81 dX8_film_56 g1 rfl ?_
        refine WP.getR fd_X8_96 dX8_film_59 g8 rfl ?_
        refine WP.iconst dX8_film_62 (by decide) ?_
        refine WP.aload_n dX8_film_63 rfl ?_
        refine WP.getR fd_X8_50 dX8_film_64 g0 rfl ?_
        refine WP.getR fd_X8_232 dX8_film_67 g45 rfl ?_
        refine WP.iload_n dX8_film_70 rfl ?_
        refine WP.bipush dX8_film_71 (by decide) bp_24 ?_
        refine WP.imul dX8_film_73 ?_
        refine WP.iload_n dX8_film_74 rfl ?_
        refine WP.iadd dX8_film_75 ?_
        refine WP.iload dX8_film_76 rfl ?_
        obtain ⟨hi, h⟩ := h
        refine WP.acopy ac_X8_239 dX8_film_78 g10 g49 hi (by decide) (Nat.le_of_ble_eq_true rfl) ?_
        refine WP.iload dX8_film_81 rfl ?_
        exact WP.iret rfl dX8_film_83 h
      · have h := h.2 q
        refine WP.iload dX8_film_49 rfl ?_
        exact WP.iret rfl dX8_film_51 h
    · have h := h.2 q
      refine WP.iconst dX8_film_16 (by decide) ?_
      exact WP.iret rfl dX8_film_17 h
theorem dX8_sheet_0 : decode cX8_sheet 0 = .ok (.iload_n 1, 1) := by decide +kernel
theorem dX8_sheet_1 : decode cX8_sheet 1 = .ok (.iconst 4, 1) := by decide +kernel
theorem dX8_sheet_2 : decode cX8_sheet 2 = .ok (.invokestatic 58, 3) := by decide +kernel
theorem dX8_sheet_5 : decode cX8_sheet 5 = .ok (.ifCond .eq 17, 3) := by decide +kernel
theorem dX8_sheet_8 : decode cX8_sheet 8 = .ok (.iload_n 2, 1) := by decide +kernel
theorem dX8_sheet_9 : decode cX8_sheet 9 = .ok (.iconst 3, 1) := by decide +kernel
theorem dX8_sheet_10 : decode cX8_sheet 10 = .ok (.invokestatic 58, 3) := by decide +kernel
theorem dX8_sheet_13 : decode cX8_sheet 13 = .ok (.ifCond .eq 9, 3) := by decide +kernel
theorem dX8_sheet_16 : decode cX8_sheet 16 = .ok (.iload_n 3, 1) := by decide +kernel
theorem dX8_sheet_17 : decode cX8_sheet 17 = .ok (.bipush 24, 2) := by decide +kernel
theorem dX8_sheet_19 : decode cX8_sheet 19 = .ok (.if_icmp .le 5, 3) := by decide +kernel
theorem dX8_sheet_22 : decode cX8_sheet 22 = .ok (.iconst (-1), 1) := by decide +kernel
theorem dX8_sheet_23 : decode cX8_sheet 23 = .ok (.ireturn, 1) := by decide +kernel
theorem dX8_sheet_24 : decode cX8_sheet 24 = .ok (.iload_n 3, 1) := by decide +kernel
theorem dX8_sheet_25 : decode cX8_sheet 25 = .ok (.ifCond .ge 6, 3) := by decide +kernel
theorem dX8_sheet_28 : decode cX8_sheet 28 = .ok (.bipush (-14), 2) := by decide +kernel
theorem dX8_sheet_30 : decode cX8_sheet 30 = .ok (.ireturn, 1) := by decide +kernel
theorem dX8_sheet_31 : decode cX8_sheet 31 = .ok (.aload_n 0, 1) := by decide +kernel
theorem dX8_sheet_32 : decode cX8_sheet 32 = .ok (.getfield 50, 3) := by decide +kernel
theorem dX8_sheet_35 : decode cX8_sheet 35 = .ok (.iload_n 1, 1) := by decide +kernel
theorem dX8_sheet_36 : decode cX8_sheet 36 = .ok (.iload_n 2, 1) := by decide +kernel
theorem dX8_sheet_37 : decode cX8_sheet 37 = .ok (.iload_n 3, 1) := by decide +kernel
theorem dX8_sheet_38 : decode cX8_sheet 38 = .ok (.invokevirtual 245, 3) := by decide +kernel
theorem dX8_sheet_41 : decode cX8_sheet 41 = .ok (.iload_n 3, 1) := by decide +kernel
theorem dX8_sheet_42 : decode cX8_sheet 42 = .ok (.ireturn, 1) := by decide +kernel
set_option maxRecDepth 100000 in
set_option maxHeartbeats 4000000 in
theorem e_X8_sheet_0 (x1 x2 x3 : Int) {σ : Mem} {Q : Int → Mem → Prop} (h : HT GC M_X8_within [mi x1, mi 4] σ (fun r2 σ2 => (r2 = 0 → Q (-1) σ2) ∧ (¬ r2 = 0 → HT GC M_X8_within [mi x2, mi 3] σ2 (fun r10 σ10 => (r10 = 0 → Q (-1) σ10) ∧ (¬ r10 = 0 → (x3 ≤ 24 → (0 ≤ x3 → HT GC M_X3_lay [mr 45, mi x1, mi x2, mi x3] σ10 (fun _ σ38 => Q x3 σ38)) ∧ (¬ 0 ≤ x3 → Q (-14) σ10)) ∧ (¬ x3 ≤ 24 → Q (-1) σ10)))))) : HT GC M_X8_sheet [mr 0, mi x1, mi x2, mi x3] σ Q := by
  refine HT.of pn_X8 (Nat.le_of_ble_eq_true rfl) ?_
  show WP GC M_X8_sheet 0 [some (mr 0), some (mi x1), some (mi x2), some (mi x3)] [] σ Q
  refine WP.iload_n dX8_sheet_0 rfl ?_
  refine WP.iconst dX8_sheet_1 (by decide) ?_
  refine WP.callS M_X8_within [mi x1, mi 4] cs_X8_within dX8_sheet_2 lk_X8_58 ft_X8_sheet__X8_within rfl (Nat.le_of_ble_eq_true rfl) (HT.mono h ?_)
  rintro r2 σ2 - - h
  refine WP.if_eq (tgt := 22) dX8_sheet_5 (by decide) (fun q => ?_) (fun q => ?_)
  · have h := h.1 q
    refine WP.iconst dX8_sheet_22 (by decide) ?_
    exact WP.iret rfl dX8_sheet_23 h
  · have h := h.2 q
    refine WP.iload_n dX8_sheet_8 rfl ?_
    refine WP.iconst dX8_sheet_9 (by decide) ?_
    refine WP.callS M_X8_within [mi x2, mi 3] cs_X8_within dX8_sheet_10 lk_X8_58 ft_X8_sheet__X8_within rfl (Nat.le_of_ble_eq_true rfl) (HT.mono h ?_)
    rintro r10 σ10 - - h
    refine WP.if_eq (tgt := 22) dX8_sheet_13 (by decide) (fun q => ?_) (fun q => ?_)
    · have h := h.1 q
      refine WP.iconst dX8_sheet_22 (by decide) ?_
      exact WP.iret rfl dX8_sheet_23 h
    · have h := h.2 q
      refine WP.iload_n dX8_sheet_16 rfl ?_
      refine WP.bipush dX8_sheet_17 (by decide) bp_24 ?_
      refine WP.icmp_le (tgt := 24) dX8_sheet_19 (by decide) (fun q => ?_) (fun q => ?_)
      · have h := h.1 q
        refine WP.iload_n dX8_sheet_24 rfl ?_
        refine WP.if_ge (tgt := 31) dX8_sheet_25 (by decide) (fun q => ?_) (fun q => ?_)
        · have h := h.1 q
          refine WP.aload_n dX8_sheet_31 rfl ?_
          refine WP.getR fd_X8_50 dX8_sheet_32 g0 rfl ?_
          refine WP.iload_n dX8_sheet_35 rfl ?_
          refine WP.iload_n dX8_sheet_36 rfl ?_
          refine WP.iload_n dX8_sheet_37 rfl ?_
          refine WP.callV M_X3_lay [mi x1, mi x2, mi x3] cv_X3_lay dX8_sheet_38 lk_X8_245 g45 rfl ft_X8_sheet__X3_lay rfl (Nat.le_of_ble_eq_true rfl) (HT.mono h ?_)
          rintro _ σ38 - - h
          refine WP.iload_n dX8_sheet_41 rfl ?_
          exact WP.iret rfl dX8_sheet_42 h
        · have h := h.2 q
          refine WP.bipush dX8_sheet_28 (by decide) bp_m14 ?_
          exact WP.iret rfl dX8_sheet_30 h
      · have h := h.2 q
        refine WP.iconst dX8_sheet_22 (by decide) ?_
        exact WP.iret rfl dX8_sheet_23 h
theorem dX8_drop_0 : decode cX8_drop 0 = .ok (.iload_n 1, 1) := by decide +kernel
theorem dX8_drop_1 : decode cX8_drop 1 = .ok (.iconst 4, 1) := by decide +kernel
theorem dX8_drop_2 : decode cX8_drop 2 = .ok (.invokestatic 58, 3) := by decide +kernel
theorem dX8_drop_5 : decode cX8_drop 5 = .ok (.ifCond .ne 5, 3) := by decide +kernel
theorem dX8_drop_8 : decode cX8_drop 8 = .ok (.iconst (-1), 1) := by decide +kernel
theorem dX8_drop_9 : decode cX8_drop 9 = .ok (.ireturn, 1) := by decide +kernel
theorem dX8_drop_10 : decode cX8_drop 10 = .ok (.aload_n 0, 1) := by decide +kernel
theorem dX8_drop_11 : decode cX8_drop 11 = .ok (.getfield 50, 3) := by decide +kernel
theorem dX8_drop_14 : decode cX8_drop 14 = .ok (.getfield 249, 3) := by decide +kernel
theorem dX8_drop_17 : decode cX8_drop 17 = .ok (.iload_n 1, 1) := by decide +kernel
theorem dX8_drop_18 : decode cX8_drop 18 = .ok (.baload, 1) := by decide +kernel
theorem dX8_drop_19 : decode cX8_drop 19 = .ok (.ifCond .ne 6, 3) := by decide +kernel
theorem dX8_drop_22 : decode cX8_drop 22 = .ok (.bipush (-11), 2) := by decide +kernel
theorem dX8_drop_24 : decode cX8_drop 24 = .ok (.ireturn, 1) := by decide +kernel
theorem dX8_drop_25 : decode cX8_drop 25 = .ok (.aload_n 0, 1) := by decide +kernel
theorem dX8_drop_26 : decode cX8_drop 26 = .ok (.getfield 50, 3) := by decide +kernel
theorem dX8_drop_29 : decode cX8_drop 29 = .ok (.getfield 249, 3) := by decide +kernel
theorem dX8_drop_32 : decode cX8_drop 32 = .ok (.iload_n 1, 1) := by decide +kernel
theorem dX8_drop_33 : decode cX8_drop 33 = .ok (.iconst 0, 1) := by decide +kernel
theorem dX8_drop_34 : decode cX8_drop 34 = .ok (.bastore, 1) := by decide +kernel
theorem dX8_drop_35 : decode cX8_drop 35 = .ok (.aload_n 0, 1) := by decide +kernel
theorem dX8_drop_36 : decode cX8_drop 36 = .ok (.getfield 50, 3) := by decide +kernel
theorem dX8_drop_39 : decode cX8_drop 39 = .ok (.getfield 253, 3) := by decide +kernel
theorem dX8_drop_42 : decode cX8_drop 42 = .ok (.iload_n 1, 1) := by decide +kernel
theorem dX8_drop_43 : decode cX8_drop 43 = .ok (.iaload, 1) := by decide +kernel
theorem dX8_drop_44 : decode cX8_drop 44 = .ok (.ireturn, 1) := by decide +kernel
set_option maxRecDepth 100000 in
set_option maxHeartbeats 4000000 in
theorem e_X8_drop_0 (x1 : Int) {σ : Mem} {Q : Int → Mem → Prop} (h : HT GC M_X8_within [mi x1, mi 4] σ (fun r2 σ2 => (¬ r2 = 0 → (0 ≤ x1 ∧ x1 < 4) ∧ ((¬ σ2 46 x1 = 0 → (0 ≤ x1 ∧ x1 < 4) ∧ ((0 ≤ x1 ∧ x1 < 4) ∧ (Q (σ2 48 x1) (mupd σ2 46 x1 0)))) ∧ (σ2 46 x1 = 0 → Q (-11) σ2))) ∧ (r2 = 0 → Q (-1) σ2))) : HT GC M_X8_drop [mr 0, mi x1] σ Q := by
  refine HT.of pn_X8 (Nat.le_of_ble_eq_true rfl) ?_
  show WP GC M_X8_drop 0 [some (mr 0), some (mi x1)] [] σ Q
  refine WP.iload_n dX8_drop_0 rfl ?_
  refine WP.iconst dX8_drop_1 (by decide) ?_
  refine WP.callS M_X8_within [mi x1, mi 4] cs_X8_within dX8_drop_2 lk_X8_58 ft_X8_drop__X8_within rfl (Nat.le_of_ble_eq_true rfl) (HT.mono h ?_)
  rintro r2 σ2 - - h
  refine WP.if_ne (tgt := 10) dX8_drop_5 (by decide) (fun q => ?_) (fun q => ?_)
  · have h := h.1 q
    refine WP.aload_n dX8_drop_10 rfl ?_
    refine WP.getR fd_X8_50 dX8_drop_11 g0 rfl ?_
    refine WP.getR fd_X8_249 dX8_drop_14 g45 rfl ?_
    refine WP.iload_n dX8_drop_17 rfl ?_
    obtain ⟨hi, h⟩ := h
    refine WP.zald dX8_drop_18 g46 hi ?_
    refine WP.if_ne (tgt := 25) dX8_drop_19 (by decide) (fun q => ?_) (fun q => ?_)
    · have h := h.1 q
      refine WP.aload_n dX8_drop_25 rfl ?_
      refine WP.getR fd_X8_50 dX8_drop_26 g0 rfl ?_
      refine WP.getR fd_X8_249 dX8_drop_29 g45 rfl ?_
      refine WP.iload_n dX8_drop_32 rfl ?_
      refine WP.iconst dX8_drop_33 (by decide) ?_
      obtain ⟨hi, h⟩ := h
      refine WP.zast dX8_drop_34 g46 hi (by decide) ?_
      refine WP.aload_n dX8_drop_35 rfl ?_
      refine WP.getR fd_X8_50 dX8_drop_36 g0 rfl ?_
      refine WP.getR fd_X8_253 dX8_drop_39 g45 rfl ?_
      refine WP.iload_n dX8_drop_42 rfl ?_
      obtain ⟨hi, h⟩ := h
      refine WP.iald dX8_drop_43 g48 hi ?_
      refine WP.topI (y := σ2 48 x1) (mupd_rp (by decide)) ?_
      exact WP.iret rfl dX8_drop_44 h
    · have h := h.2 q
      refine WP.bipush dX8_drop_22 (by decide) bp_m11 ?_
      exact WP.iret rfl dX8_drop_24 h
  · have h := h.2 q
    refine WP.iconst dX8_drop_8 (by decide) ?_
    exact WP.iret rfl dX8_drop_9 h
theorem dX8_cut_0 : decode cX8_cut 0 = .ok (.iload_n 0, 1) := by decide +kernel
theorem dX8_cut_1 : decode cX8_cut 1 = .ok (.ifCond .ne 6, 3) := by decide +kernel
theorem dX8_cut_4 : decode cX8_cut 4 = .ok (.iload_n 1, 1) := by decide +kernel
theorem dX8_cut_5 : decode cX8_cut 5 = .ok (.i2b, 1) := by decide +kernel
theorem dX8_cut_6 : decode cX8_cut 6 = .ok (.ireturn, 1) := by decide +kernel
theorem dX8_cut_7 : decode cX8_cut 7 = .ok (.iload_n 0, 1) := by decide +kernel
theorem dX8_cut_8 : decode cX8_cut 8 = .ok (.iconst 1, 1) := by decide +kernel
theorem dX8_cut_9 : decode cX8_cut 9 = .ok (.if_icmp .ne 8, 3) := by decide +kernel
theorem dX8_cut_12 : decode cX8_cut 12 = .ok (.iload_n 1, 1) := by decide +kernel
theorem dX8_cut_13 : decode cX8_cut 13 = .ok (.i2s, 1) := by decide +kernel
theorem dX8_cut_14 : decode cX8_cut 14 = .ok (.goto 4, 3) := by decide +kernel
theorem dX8_cut_17 : decode cX8_cut 17 = .ok (.iload_n 1, 1) := by decide +kernel
theorem dX8_cut_18 : decode cX8_cut 18 = .ok (.ireturn, 1) := by decide +kernel
set_option maxRecDepth 100000 in
set_option maxHeartbeats 4000000 in
theorem e_X8_cut (x0 x1 : Int) {σ : Mem} {Q : Int → Mem → Prop} (h : (¬ x0 = 0 → (¬ x0 = 1 → Q x1 σ) ∧ (x0 = 1 → Q (j2s x1) σ)) ∧ (x0 = 0 → Q (j2b x1) σ)) : HT GC M_X8_cut [mi x0, mi x1] σ Q := by
  refine HT.of pn_X8 (Nat.le_of_ble_eq_true rfl) ?_
  show WP GC M_X8_cut 0 [some (mi x0), some (mi x1)] [] σ Q
  refine WP.iload_n dX8_cut_0 rfl ?_
  refine WP.if_ne (tgt := 7) dX8_cut_1 (by decide) (fun q => ?_) (fun q => ?_)
  · have h := h.1 q
    refine WP.iload_n dX8_cut_7 rfl ?_
    refine WP.iconst dX8_cut_8 (by decide) ?_
    refine WP.icmp_ne (tgt := 17) dX8_cut_9 (by decide) (fun q => ?_) (fun q => ?_)
    · have h := h.1 q
      refine WP.iload_n dX8_cut_17 rfl ?_
      exact WP.iret rfl dX8_cut_18 h
    · have h := h.2 q
      refine WP.iload_n dX8_cut_12 rfl ?_
      refine WP.i2s dX8_cut_13 ?_
      refine WP.goto (tgt := 18) dX8_cut_14 (by decide) ?_
      exact WP.iret rfl dX8_cut_18 h
  · have h := h.2 q
    refine WP.iload_n dX8_cut_4 rfl ?_
    refine WP.i2b dX8_cut_5 ?_
    exact WP.iret rfl dX8_cut_6 h
theorem dX8_item_0 : decode cX8_item 0 = .ok (.iload_n 1, 1) := by decide +kernel
theorem dX8_item_1 : decode cX8_item 1 = .ok (.iconst 4, 1) := by decide +kernel
theorem dX8_item_2 : decode cX8_item 2 = .ok (.invokestatic 58, 3) := by decide +kernel
theorem dX8_item_5 : decode cX8_item 5 = .ok (.ifCond .eq 11, 3) := by decide +kernel
theorem dX8_item_8 : decode cX8_item 8 = .ok (.iload_n 2, 1) := by decide +kernel
theorem dX8_item_9 : decode cX8_item 9 = .ok (.iconst 3, 1) := by decide +kernel
theorem dX8_item_10 : decode cX8_item 10 = .ok (.invokestatic 58, 3) := by decide +kernel
theorem dX8_item_13 : decode cX8_item 13 = .ok (.ifCond .ne 5, 3) := by decide +kernel
theorem dX8_item_16 : decode cX8_item 16 = .ok (.iconst (-1), 1) := by decide +kernel
theorem dX8_item_17 : decode cX8_item 17 = .ok (.ireturn, 1) := by decide +kernel
theorem dX8_item_18 : decode cX8_item 18 = .ok (.aload_n 0, 1) := by decide +kernel
theorem dX8_item_19 : decode cX8_item 19 = .ok (.getfield 50, 3) := by decide +kernel
theorem dX8_item_22 : decode cX8_item 22 = .ok (.iload_n 1, 1) := by decide +kernel
theorem dX8_item_23 : decode cX8_item 23 = .ok (.iload_n 2, 1) := by decide +kernel
theorem dX8_item_24 : decode cX8_item 24 = .ok (.iload_n 3, 1) := by decide +kernel
theorem dX8_item_25 : decode cX8_item 25 = .ok (.iconst 1, 1) := by decide +kernel
theorem dX8_item_26 : decode cX8_item 26 = .ok (.invokevirtual 228, 3) := by decide +kernel
theorem dX8_item_29 : decode cX8_item 29 = .ok (.istore 5, 2) := by decide +kernel
theorem dX8_item_31 : decode cX8_item 31 = .ok (.iload 5, 2) := by decide +kernel
theorem dX8_item_33 : decode cX8_item 33 = .ok (.ifCond .eq 6, 3) := by decide +kernel
theorem dX8_item_36 : decode cX8_item 36 = .ok (.iload 5, 2) := by decide +kernel
theorem dX8_item_38 : decode cX8_item 38 = .ok (.ireturn, 1) := by decide +kernel
theorem dX8_item_39 : decode cX8_item 39 = .ok (.aload_n 0, 1) := by decide +kernel
theorem dX8_item_40 : decode cX8_item 40 = .ok (.getfield 50, 3) := by decide +kernel
theorem dX8_item_43 : decode cX8_item 43 = .ok (.getfield 232, 3) := by decide +kernel
theorem dX8_item_46 : decode cX8_item 46 = .ok (.iload_n 1, 1) := by decide +kernel
theorem dX8_item_47 : decode cX8_item 47 = .ok (.bipush 24, 2) := by decide +kernel
theorem dX8_item_49 : decode cX8_item 49 = .ok (.imul, 1) := by decide +kernel
theorem dX8_item_50 : decode cX8_item 50 = .ok (.iload_n 3, 1) := by decide +kernel
theorem dX8_item_51 : decode cX8_item 51 = .ok (.iadd, 1) := by decide +kernel
theorem dX8_item_52 : decode cX8_item 52 = .ok (.iload_n 2, 1) := by decide +kernel
theorem dX8_item_53 : decode cX8_item 53 = .ok (.iload 4, 2) := by decide +kernel
theorem dX8_item_55 : decode cX8_item 55 = .ok (.invokestatic 254, 3) := by decide +kernel
theorem dX8_item_58 : decode cX8_item 58 = .ok (.iastore, 1) := by decide +kernel
theorem dX8_item_59 : decode cX8_item 59 = .ok (.iconst 1, 1) := by decide +kernel
theorem dX8_item_60 : decode cX8_item 60 = .ok (.ireturn, 1) := by decide +kernel
set_option maxRecDepth 100000 in
set_option maxHeartbeats 4000000 in
theorem e_X8_item_0 (x1 x2 x3 x4 : Int) {σ : Mem} {Q : Int → Mem → Prop} (h : HT GC M_X8_within [mi x1, mi 4] σ (fun r2 σ2 => (r2 = 0 → Q (-1) σ2) ∧ (¬ r2 = 0 → HT GC M_X8_within [mi x2, mi 3] σ2 (fun r10 σ10 => (¬ r10 = 0 → HT GC M_X3_find [mr 45, mi x1, mi x2, mi x3, mi 1] σ10 (fun r26 σ26 => (r26 = 0 → HT GC M_X8_cut [mi x2, mi x4] σ26 (fun r55 σ55 => (0 ≤ jadd (jmul x1 24) x3 ∧ jadd (jmul x1 24) x3 < 96) ∧ (Q 1 (mupd σ55 49 (jadd (jmul x1 24) x3) r55)))) ∧ (¬ r26 = 0 → Q r26 σ26))) ∧ (r10 = 0 → Q (-1) σ10))))) : HT GC M_X8_item [mr 0, mi x1, mi x2, mi x3, mi x4] σ Q := by
  refine HT.of pn_X8 (Nat.le_of_ble_eq_true rfl) ?_
  show WP GC M_X8_item 0 [some (mr 0), some (mi x1), some (mi x2), some (mi x3), some (mi x4), none] [] σ Q
  refine WP.iload_n dX8_item_0 rfl ?_
  refine WP.iconst dX8_item_1 (by decide) ?_
  refine WP.callS M_X8_within [mi x1, mi 4] cs_X8_within dX8_item_2 lk_X8_58 ft_X8_item__X8_within rfl (Nat.le_of_ble_eq_true rfl) (HT.mono h ?_)
  rintro r2 σ2 - - h
  refine WP.if_eq (tgt := 16) dX8_item_5 (by decide) (fun q => ?_) (fun q => ?_)
  · have h := h.1 q
    refine WP.iconst dX8_item_16 (by decide) ?_
    exact WP.iret rfl dX8_item_17 h
  · have h := h.2 q
    refine WP.iload_n dX8_item_8 rfl ?_
    refine WP.iconst dX8_item_9 (by decide) ?_
    refine WP.callS M_X8_within [mi x2, mi 3] cs_X8_within dX8_item_10 lk_X8_58 ft_X8_item__X8_within rfl (Nat.le_of_ble_eq_true rfl) (HT.mono h ?_)
    rintro r10 σ10 - - h
    refine WP.if_ne (tgt := 18) dX8_item_13 (by decide) (fun q => ?_) (fun q => ?_)
    · have h := h.1 q
      refine WP.aload_n dX8_item_18 rfl ?_
      refine WP.getR fd_X8_50 dX8_item_19 g0 rfl ?_
      refine WP.iload_n dX8_item_22 rfl ?_
      refine WP.iload_n dX8_item_23 rfl ?_
      refine WP.iload_n dX8_item_24 rfl ?_
      refine WP.iconst dX8_item_25 (by decide) ?_
      refine WP.callV M_X3_find [mi x1, mi x2, mi x3, mi 1] cv_X3_find dX8_item_26 lk_X8_228 g45 rfl ft_X8_item__X3_find rfl (Nat.le_of_ble_eq_true rfl) (HT.mono h ?_)
      rintro r26 σ26 - - h
      refine WP.istore (L2 := [some (mr 0), some (mi x1), some (mi x2), some (mi x3), some (mi x4), some (mi r26)]) dX8_item_29 (by decide) rfl ?_
      refine WP.iload dX8_item_31 rfl ?_
      refine WP.if_eq (tgt := 39) dX8_item_33 (by decide) (fun q => ?_) (fun q => ?_)
      · have h := h.1 q
        refine WP.aload_n dX8_item_39 rfl ?_
        refine WP.getR fd_X8_50 dX8_item_40 g0 rfl ?_
        refine WP.getR fd_X8_232 dX8_item_43 g45 rfl ?_
        refine WP.iload_n dX8_item_46 rfl ?_
        refine WP.bipush dX8_item_47 (by decide) bp_24 ?_
        refine WP.imul dX8_item_49 ?_
        refine WP.iload_n dX8_item_50 rfl ?_
        refine WP.iadd dX8_item_51 ?_
        refine WP.iload_n dX8_item_52 rfl ?_
        refine WP.iload dX8_item_53 rfl ?_
        refine WP.callS M_X8_cut [mi x2, mi x4] cs_X8_cut dX8_item_55 lk_X8_254 ft_X8_item__X8_cut rfl (Nat.le_of_ble_eq_true rfl) (HT.mono h ?_)
        rintro r55 σ55 - - h
        obtain ⟨hi, h⟩ := h
        refine WP.iast dX8_item_58 g49 hi ?_
        refine WP.iconst dX8_item_59 (by decide) ?_
        exact WP.iret rfl dX8_item_60 h
      · have h := h.2 q
        refine WP.iload dX8_item_36 rfl ?_
        exact WP.iret rfl dX8_item_38 h
    · have h := h.2 q
      refine WP.iconst dX8_item_16 (by decide) ?_
      exact WP.iret rfl dX8_item_17 h
theorem dX8_copy_0 : decode cX8_copy 0 = .ok (.iload_n 1, 1) := by decide +kernel
theorem dX8_copy_1 : decode cX8_copy 1 = .ok (.iconst 4, 1) := by decide +kernel
theorem dX8_copy_2 : decode cX8_copy 2 = .ok (.invokestatic 58, 3) := by decide +kernel
theorem dX8_copy_5 : decode cX8_copy 5 = .ok (.ifCond .eq 11, 3) := by decide +kernel
theorem dX8_copy_8 : decode cX8_copy 8 = .ok (.iload_n 3, 1) := by decide +kernel
theorem dX8_copy_9 : decode cX8_copy 9 = .ok (.iconst 4, 1) := by decide +kernel
theorem dX8_copy_10 : decode cX8_copy 10 = .ok (.invokestatic 58, 3) := by decide +kernel
theorem dX8_copy_13 : decode cX8_copy 13 = .ok (.ifCond .ne 5, 3) := by decide +kernel
theorem dX8_copy_16 : decode cX8_copy 16 = .ok (.iconst (-1), 1) := by decide +kernel
theorem dX8_copy_17 : decode cX8_copy 17 = .ok (.ireturn, 1) := by decide +kernel
theorem dX8_copy_18 : decode cX8_copy 18 = .ok (.aload_n 0, 1) := by decide +kernel
theorem dX8_copy_19 : decode cX8_copy 19 = .ok (.getfield 50, 3) := by decide +kernel
theorem dX8_copy_22 : decode cX8_copy 22 = .ok (.getfield 249, 3) := by decide +kernel
theorem dX8_copy_25 : decode cX8_copy 25 = .ok (.iload_n 1, 1) := by decide +kernel
theorem dX8_copy_26 : decode cX8_copy 26 = .ok (.baload, 1) := by decide +kernel
theorem dX8_copy_27 : decode cX8_copy 27 = .ok (.ifCond .eq 15, 3) := by decide +kernel
theorem dX8_copy_30 : decode cX8_copy 30 = .ok (.aload_n 0, 1) := by decide +kernel
theorem dX8_copy_31 : decode cX8_copy 31 = .ok (.getfield 50, 3) := by decide +kernel
theorem dX8_copy_34 : decode cX8_copy 34 = .ok (.getfield 249, 3) := by decide +kernel
theorem dX8_copy_37 : decode cX8_copy 37 = .ok (.iload_n 3, 1) := by decide +kernel
theorem dX8_copy_38 : decode cX8_copy 38 = .ok (.baload, 1) := by decide +kernel
theorem dX8_copy_39 : decode cX8_copy 39 = .ok (.ifCond .ne 6, 3) := by decide +kernel
theorem dX8_copy_42 : decode cX8_copy 42 = .ok (.bipush (-11), 2) := by decide +kernel
theorem dX8_copy_44 : decode cX8_copy 44 = .ok (.ireturn, 1) := by decide +kernel
theorem dX8_copy_45 : decode cX8_copy 45 = .ok (.aload_n 0, 1) := by decide +kernel
theorem dX8_copy_46 : decode cX8_copy 46 = .ok (.getfield 50, 3) := by decide +kernel
theorem dX8_copy_49 : decode cX8_copy 49 = .ok (.iload_n 1, 1) := by decide +kernel
theorem dX8_copy_50 : decode cX8_copy 50 = .ok (.aload_n 0, 1) := by decide +kernel
theorem dX8_copy_51 : decode cX8_copy 51 = .ok (.getfield 50, 3) := by decide +kernel
theorem dX8_copy_54 : decode cX8_copy 54 = .ok (.getfield 257, 3) := by decide +kernel
theorem dX8_copy_57 : decode cX8_copy 57 = .ok (.iload_n 3, 1) := by decide +kernel
theorem dX8_copy_58 : decode cX8_copy 58 = .ok (.iaload, 1) := by decide +kernel
theorem dX8_copy_59 : decode cX8_copy 59 = .ok (.iload_n 2, 1) := by decide +kernel
theorem dX8_copy_60 : decode cX8_copy 60 = .ok (.iload 5, 2) := by decide +kernel
theorem dX8_copy_62 : decode cX8_copy 62 = .ok (.invokevirtual 228, 3) := by decide +kernel
theorem dX8_copy_65 : decode cX8_copy 65 = .ok (.istore 6, 2) := by decide +kernel
theorem dX8_copy_67 : decode cX8_copy 67 = .ok (.iload 6, 2) := by decide +kernel
theorem dX8_copy_69 : decode cX8_copy 69 = .ok (.ifCond .ne 26, 3) := by decide +kernel
theorem dX8_copy_72 : decode cX8_copy 72 = .ok (.aload_n 0, 1) := by decide +kernel
theorem dX8_copy_73 : decode cX8_copy 73 = .ok (.getfield 50, 3) := by decide +kernel
theorem dX8_copy_76 : decode cX8_copy 76 = .ok (.iload_n 3, 1) := by decide +kernel
theorem dX8_copy_77 : decode cX8_copy 77 = .ok (.aload_n 0, 1) := by decide +kernel
theorem dX8_copy_78 : decode cX8_copy 78 = .ok (.getfield 50, 3) := by decide +kernel
theorem dX8_copy_81 : decode cX8_copy 81 = .ok (.getfield 257, 3) := by decide +kernel
theorem dX8_copy_84 : decode cX8_copy 84 = .ok (.iload_n 3, 1) := by decide +kernel
theorem dX8_copy_85 : decode cX8_copy 85 = .ok (.iaload, 1) := by decide +kernel
theorem dX8_copy_86 : decode cX8_copy 86 = .ok (.iload 4, 2) := by decide +kernel
theorem dX8_copy_88 : decode cX8_copy 88 = .ok (.iload 5, 2) := by decide +kernel
theorem dX8_copy_90 : decode cX8_copy 90 = .ok (.invokevirtual 228, 3) := by decide +kernel
theorem dX8_copy_93 : decode cX8_copy 93 = .ok (.istore 6, 2) := by decide +kernel
theorem dX8_copy_95 : decode cX8_copy 95 = .ok (.iload 6, 2) := by decide +kernel
theorem dX8_copy_97 : decode cX8_copy 97 = .ok (.ifCond .eq 6, 3) := by decide +kernel
theorem dX8_copy_100 : decode cX8_copy 100 = .ok (.iload 6, 2) := by decide +kernel
theorem dX8_copy_102 : decode cX8_copy 102 = .ok (.ireturn, 1) := by decide +kernel
theorem dX8_copy_103 : decode cX8_copy 103 = .ok (.aload_n 0, 1) := by decide +kernel
theorem dX8_copy_104 : decode cX8_copy 104 = .ok (.getfield 50, 3) := by decide +kernel
theorem dX8_copy_107 : decode cX8_copy 107 = .ok (.getfield 232, 3) := by decide +kernel
theorem dX8_copy_110 : decode cX8_copy 110 = .ok (.iload_n 1, 1) := by decide +kernel
theorem dX8_copy_111 : decode cX8_copy 111 = .ok (.bipush 24, 2) := by decide +kernel
theorem dX8_copy_113 : decode cX8_copy 113 = .ok (.imul, 1) := by decide +kernel
theorem dX8_copy_114 : decode cX8_copy 114 = .ok (.iload_n 2, 1) := by decide +kernel
theorem dX8_copy_115 : decode cX8_copy 115 = .ok (.iadd, 1) := by decide +kernel
theorem dX8_copy_116 : decode cX8_copy 116 = .ok (.aload_n 0, 1) := by decide +kernel
theorem dX8_copy_117 : decode cX8_copy 117 = .ok (.getfield 50, 3) := by decide +kernel
theorem dX8_copy_120 : decode cX8_copy 120 = .ok (.getfield 232, 3) := by decide +kernel
theorem dX8_copy_123 : decode cX8_copy 123 = .ok (.iload_n 3, 1) := by decide +kernel
theorem dX8_copy_124 : decode cX8_copy 124 = .ok (.bipush 24, 2) := by decide +kernel
theorem dX8_copy_126 : decode cX8_copy 126 = .ok (.imul, 1) := by decide +kernel
theorem dX8_copy_127 : decode cX8_copy 127 = .ok (.iload 4, 2) := by decide +kernel
theorem dX8_copy_129 : decode cX8_copy 129 = .ok (.iadd, 1) := by decide +kernel
theorem dX8_copy_130 : decode cX8_copy 130 = .ok (.iload 5, 2) := by decide +kernel
theorem dX8_copy_132 : decode cX8_copy 132 = .ok (.invokestatic 239, 3) := by decide +kernel
theorem dX8_copy_135 : decode cX8_copy 135 = .ok (.iload 5, 2) := by decide +kernel
theorem dX8_copy_137 : decode cX8_copy 137 = .ok (.ireturn, 1) := by decide +kernel
set_option maxRecDepth 100000 in
set_option maxHeartbeats 4000000 in
theorem e_X8_copy_0 (x1 x2 x3 x4 x5 : Int) {σ : Mem} {Q : Int → Mem → Prop} (h : HT GC M_X8_within [mi x1, mi 4] σ (fun r2 σ2 => (r2 = 0 → Q (-1) σ2) ∧ (¬ r2 = 0 → HT GC M_X8_within [mi x3, mi 4] σ2 (fun r10 σ10 => (¬ r10 = 0 → (0 ≤ x1 ∧ x1 < 4) ∧ ((σ10 46 x1 = 0 → Q (-11) σ10) ∧ (¬ σ10 46 x1 = 0 → (0 ≤ x3 ∧ x3 < 4) ∧ ((¬ σ10 46 x3 = 0 → (0 ≤ x3 ∧ x3 < 4) ∧ (HT GC M_X3_find [mr 45, mi x1, mi (σ10 47 x3), mi x2, mi x5] σ10 (fun r62 σ62 => (¬ r62 = 0 → WP GC M_X8_copy 95 [some (mr 0), some (mi x1), some (mi x2), some (mi x3), some (mi x4), some (mi x5), some (mi r62)] [] σ62 Q) ∧ (r62 = 0 → (0 ≤ x3 ∧ x3 < 4) ∧ (HT GC M_X3_find [mr 45, mi x3, mi (σ62 47 x3), mi x4, mi x5] σ62 (fun r90 σ90 => WP GC M_X8_copy 95 [some (mr 0), some (mi x1), some (mi x2), some (mi x3), some (mi x4), some (mi x5), some (mi r90)] [] σ90 Q)))))) ∧ (σ10 46 x3 = 0 → Q (-11) σ10))))) ∧ (r10 = 0 → Q (-1) σ10))))) : HT GC M_X8_copy [mr 0, mi x1, mi x2, mi x3, mi x4, mi x5] σ Q := by
  refine HT.of pn_X8 (Nat.le_of_ble_eq_true rfl) ?_
  show WP GC M_X8_copy 0 [some (mr 0), some (mi x1), some (mi x2), some (mi x3), some (mi x4), some (mi x5), none] [] σ Q
  refine WP.iload_n dX8_copy_0 rfl ?_
  refine WP.iconst dX8_copy_1 (by decide) ?_
  refine WP.callS M_X8_within [mi x1, mi 4] cs_X8_within dX8_copy_2 lk_X8_58 ft_X8_copy__X8_within rfl (Nat.le_of_ble_eq_true rfl) (HT.mono h ?_)
  rintro r2 σ2 - - h
  refine WP.if_eq (tgt := 16) dX8_copy_5 (by decide) (fun q => ?_) (fun q => ?_)
  · have h := h.1 q
    refine WP.iconst dX8_copy_16 (by decide) ?_
    exact WP.iret rfl dX8_copy_17 h
  · have h := h.2 q
    refine WP.iload_n dX8_copy_8 rfl ?_
    refine WP.iconst dX8_copy_9 (by decide) ?_
    refine WP.callS M_X8_within [mi x3, mi 4] cs_X8_within dX8_copy_10 lk_X8_58 ft_X8_copy__X8_within rfl (Nat.le_of_ble_eq_true rfl) (HT.mono h ?_)
    rintro r10 σ10 - - h
    refine WP.if_ne (tgt := 18) dX8_copy_13 (by decide) (fun q => ?_) (fun q => ?_)
    · have h := h.1 q
      refine WP.aload_n dX8_copy_18 rfl ?_
      refine WP.getR fd_X8_50 dX8_copy_19 g0 rfl ?_
      refine WP.getR fd_X8_249 dX8_copy_22 g45 rfl ?_
      refine WP.iload_n dX8_copy_25 rfl ?_
      obtain ⟨hi, h⟩ := h
      refine WP.zald dX8_copy_26 g46 hi ?_
      refine WP.if_eq (tgt := 42) dX8_copy_27 (by decide) (fun q => ?_) (fun q => ?_)
      · have h := h.1 q
        refine WP.bipush dX8_copy_42 (by decide) bp_m11 ?_
        exact WP.iret rfl dX8_copy_44 h
      · have h := h.2 q
        refine WP.aload_n dX8_copy_30 rfl ?_
        refine WP.getR fd_X8_50 dX8_copy_31 g0 rfl ?_
        refine WP.getR fd_X8_249 dX8_copy_34 g45 rfl ?_
        refine WP.iload_n dX8_copy_37 rfl ?_
        obtain ⟨hi, h⟩ := h
        refine WP.zald dX8_copy_38 g46 hi ?_
        refine WP.if_ne (tgt := 45) dX8_copy_39 (by decide) (fun q => ?_) (fun q => ?_)
        · have h := h.1 q
          refine WP.aload_n dX8_copy_45 rfl ?_
          refine WP.getR fd_X8_50 dX8_copy_46 g0 rfl ?_
          refine WP.iload_n dX8_copy_49 rfl ?_
          refine WP.aload_n dX8_copy_50 rfl ?_
          refine WP.getR fd_X8_50 dX8_copy_51 g0 rfl ?_
          refine WP.getR fd_X8_257 dX8_copy_54 g45 rfl ?_
          refine WP.iload_n dX8_copy_57 rfl ?_
          obtain ⟨hi, h⟩ := h
          refine WP.iald dX8_copy_58 g47 hi ?_
          refine WP.iload_n dX8_copy_59 rfl ?_
          refine WP.iload dX8_copy_60 rfl ?_
          refine WP.callV M_X3_find [mi x1, mi (σ10 47 x3), mi x2, mi x5] cv_X3_find dX8_copy_62 lk_X8_228 g45 rfl ft_X8_copy__X3_find rfl (Nat.le_of_ble_eq_true rfl) (HT.mono h ?_)
          rintro r62 σ62 - - h
          refine WP.istore (L2 := [some (mr 0), some (mi x1), some (mi x2), some (mi x3), some (mi x4), some (mi x5), some (mi r62)]) dX8_copy_65 (by decide) rfl ?_
          refine WP.iload dX8_copy_67 rfl ?_
          refine WP.if_ne (tgt := 95) dX8_copy_69 (by decide) (fun q => ?_) (fun q => ?_)
          · have h := h.1 q
            exact h
          · have h := h.2 q
            refine WP.aload_n dX8_copy_72 rfl ?_
            refine WP.getR fd_X8_50 dX8_copy_73 g0 rfl ?_
            refine WP.iload_n dX8_copy_76 rfl ?_
            refine WP.aload_n dX8_copy_77 rfl ?_
            refine WP.getR fd_X8_50 dX8_copy_78 g0 rfl ?_
            refine WP.getR fd_X8_257 dX8_copy_81 g45 rfl ?_
            refine WP.iload_n dX8_copy_84 rfl ?_
            obtain ⟨hi, h⟩ := h
            refine WP.iald dX8_copy_85 g47 hi ?_
            refine WP.iload dX8_copy_86 rfl ?_
            refine WP.iload dX8_copy_88 rfl ?_
            refine WP.callV M_X3_find [mi x3, mi (σ62 47 x3), mi x4, mi x5] cv_X3_find dX8_copy_90 lk_X8_228 g45 rfl ft_X8_copy__X3_find rfl (Nat.le_of_ble_eq_true rfl) (HT.mono h ?_)
            rintro r90 σ90 - - h
            refine WP.istore (L2 := [some (mr 0), some (mi x1), some (mi x2), some (mi x3), some (mi x4), some (mi x5), some (mi r90)]) dX8_copy_93 (by decide) rfl ?_
            exact h
        · have h := h.2 q
          refine WP.bipush dX8_copy_42 (by decide) bp_m11 ?_
          exact WP.iret rfl dX8_copy_44 h
    · have h := h.2 q
      refine WP.iconst dX8_copy_16 (by decide) ?_
      exact WP.iret rfl dX8_copy_17 h
set_option maxRecDepth 100000 in
set_option maxHeartbeats 4000000 in
theorem b_X8_copy_0_95 (x1 x2 x3 x4 x5 x6 : Int) {σ : Mem} {Q : Int → Mem → Prop} (h : (x6 = 0 → ((0 : Int) ≤ jadd (jmul x1 24) x2 ∧ (0 : Int) ≤ jadd (jmul x3 24) x4 ∧ (0 : Int) ≤ x5 ∧ (jadd (jmul x1 24) x2 : Int) + x5 ≤ 96 ∧ (jadd (jmul x3 24) x4 : Int) + x5 ≤ 96) ∧ (Q x5 (mcpy σ 49 (jadd (jmul x1 24) x2) 49 (jadd (jmul x3 24) x4) x5))) ∧ (¬ x6 = 0 → Q x6 σ)) : WP GC M_X8_copy 95 [some (mr 0), some (mi x1), some (mi x2), some (mi x3), some (mi x4), some (mi x5), some (mi x6)] [] σ Q := by
  refine WP.iload dX8_copy_95 rfl ?_
  refine WP.if_eq (tgt := 103) dX8_copy_97 (by decide) (fun q => ?_) (fun q => ?_)
  · have h := h.1 q
    refine WP.aload_n dX8_copy_103 rfl ?_
    refine WP.getR fd_X8_50 dX8_copy_104 g0 rfl ?_
    refine WP.getR fd_X8_232 dX8_copy_107 g45 rfl ?_
    refine WP.iload_n dX8_copy_110 rfl ?_
    refine WP.bipush dX8_copy_111 (by decide) bp_24 ?_
    refine WP.imul dX8_copy_113 ?_
    refine WP.iload_n dX8_copy_114 rfl ?_
    refine WP.iadd dX8_copy_115 ?_
    refine WP.aload_n dX8_copy_116 rfl ?_
    refine WP.getR fd_X8_50 dX8_copy_117 g0 rfl ?_
    refine WP.getR fd_X8_232 dX8_copy_120 g45 rfl ?_
    refine WP.iload_n dX8_copy_123 rfl ?_
    refine WP.bipush dX8_copy_124 (by decide) bp_24 ?_
    refine WP.imul dX8_copy_126 ?_
    refine WP.iload dX8_copy_127 rfl ?_
    refine WP.iadd dX8_copy_129 ?_
    refine WP.iload dX8_copy_130 rfl ?_
    obtain ⟨hi, h⟩ := h
    refine WP.acopy ac_X8_239 dX8_copy_132 g49 g49 hi (by decide) (Nat.le_of_ble_eq_true rfl) ?_
    refine WP.iload dX8_copy_135 rfl ?_
    exact WP.iret rfl dX8_copy_137 h
  · have h := h.2 q
    refine WP.iload dX8_copy_100 rfl ?_
    exact WP.iret rfl dX8_copy_102 h
