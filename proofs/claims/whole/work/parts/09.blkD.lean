/-! what each stretch of code does, by program -/
theorem dX9_in_0 : decode cX9_in 0 = .ok (.lload_n 0, 1) := by decide +kernel
theorem dX9_in_1 : decode cX9_in 1 = .ok (.lload_n 2, 1) := by decide +kernel
theorem dX9_in_2 : decode cX9_in 2 = .ok (.lcmp, 1) := by decide +kernel
theorem dX9_in_3 : decode cX9_in 3 = .ok (.ifCond .lt 14, 3) := by decide +kernel
theorem dX9_in_6 : decode cX9_in 6 = .ok (.lload_n 0, 1) := by decide +kernel
theorem dX9_in_7 : decode cX9_in 7 = .ok (.lload 4, 2) := by decide +kernel
theorem dX9_in_9 : decode cX9_in 9 = .ok (.lcmp, 1) := by decide +kernel
theorem dX9_in_10 : decode cX9_in 10 = .ok (.ifCond .gt 7, 3) := by decide +kernel
theorem dX9_in_13 : decode cX9_in 13 = .ok (.iconst 1, 1) := by decide +kernel
theorem dX9_in_14 : decode cX9_in 14 = .ok (.goto 4, 3) := by decide +kernel
theorem dX9_in_17 : decode cX9_in 17 = .ok (.iconst 0, 1) := by decide +kernel
theorem dX9_in_18 : decode cX9_in 18 = .ok (.ireturn, 1) := by decide +kernel
set_option maxRecDepth 100000 in
set_option maxHeartbeats 4000000 in
theorem e_X9_in (y0 y2 y4 : Int) {σ : Mem} {Q : Int → Mem → Prop} (h : (lcmpM y0 y2 < 0 → Q 0 σ) ∧ (¬ lcmpM y0 y2 < 0 → (0 < lcmpM y0 y4 → Q 0 σ) ∧ (¬ 0 < lcmpM y0 y4 → Q 1 σ))) : HT GM M_X9_in [ml y0, ml y2, ml y4] σ Q := by
  refine HT.of pn_X9 (Nat.le_of_ble_eq_true rfl) ?_
  show WP GM M_X9_in 0 [some (ml y0), none, some (ml y2), none, some (ml y4), none] [] σ Q
  refine WP.lload_n dX9_in_0 rfl ?_
  refine WP.lload_n dX9_in_1 rfl ?_
  refine WP.lcmp dX9_in_2 ?_
  refine WP.if_lt (tgt := 17) dX9_in_3 (by decide) (fun q => ?_) (fun q => ?_)
  · have h := h.1 q
    refine WP.iconst dX9_in_17 (by decide) ?_
    exact WP.zret rfl dX9_in_18 (by decide) h
  · have h := h.2 q
    refine WP.lload_n dX9_in_6 rfl ?_
    refine WP.lload dX9_in_7 rfl ?_
    refine WP.lcmp dX9_in_9 ?_
    refine WP.if_gt (tgt := 17) dX9_in_10 (by decide) (fun q => ?_) (fun q => ?_)
    · have h := h.1 q
      refine WP.iconst dX9_in_17 (by decide) ?_
      exact WP.zret rfl dX9_in_18 (by decide) h
    · have h := h.2 q
      refine WP.iconst dX9_in_13 (by decide) ?_
      refine WP.goto (tgt := 18) dX9_in_14 (by decide) ?_
      exact WP.zret rfl dX9_in_18 (by decide) h
theorem dX9_ones_0 : decode cX9_ones 0 = .ok (.iconst 0, 1) := by decide +kernel
theorem dX9_ones_1 : decode cX9_ones 1 = .ok (.istore_n 1, 1) := by decide +kernel
theorem dX9_ones_2 : decode cX9_ones 2 = .ok (.iload_n 0, 1) := by decide +kernel
theorem dX9_ones_3 : decode cX9_ones 3 = .ok (.istore_n 2, 1) := by decide +kernel
theorem dX9_ones_4 : decode cX9_ones 4 = .ok (.iload_n 2, 1) := by decide +kernel
theorem dX9_ones_5 : decode cX9_ones 5 = .ok (.ifCond .eq 15, 3) := by decide +kernel
theorem dX9_ones_8 : decode cX9_ones 8 = .ok (.iinc 1 1, 3) := by decide +kernel
theorem dX9_ones_11 : decode cX9_ones 11 = .ok (.iload_n 2, 1) := by decide +kernel
theorem dX9_ones_12 : decode cX9_ones 12 = .ok (.iload_n 2, 1) := by decide +kernel
theorem dX9_ones_13 : decode cX9_ones 13 = .ok (.iconst 1, 1) := by decide +kernel
theorem dX9_ones_14 : decode cX9_ones 14 = .ok (.isub, 1) := by decide +kernel
theorem dX9_ones_15 : decode cX9_ones 15 = .ok (.iand, 1) := by decide +kernel
theorem dX9_ones_16 : decode cX9_ones 16 = .ok (.istore_n 2, 1) := by decide +kernel
theorem dX9_ones_17 : decode cX9_ones 17 = .ok (.goto (-13), 3) := by decide +kernel
theorem dX9_ones_20 : decode cX9_ones 20 = .ok (.iload_n 1, 1) := by decide +kernel
theorem dX9_ones_21 : decode cX9_ones 21 = .ok (.ireturn, 1) := by decide +kernel
set_option maxRecDepth 100000 in
set_option maxHeartbeats 4000000 in
theorem e_X9_ones (x0 : Int) {σ : Mem} {Q : Int → Mem → Prop} (h : WP GM M_X9_ones 4 [none, some (mi 0), some (mi x0)] [] σ Q) : HT GM M_X9_ones [mi x0] σ Q := by
  refine HT.of pn_X9 (Nat.le_of_ble_eq_true rfl) ?_
  show WP GM M_X9_ones 0 [some (mi x0), none, none] [] σ Q
  refine WP.iconst dX9_ones_0 (by decide) ?_
  refine WP.istore_n (L2 := [some (mi x0), some (mi 0), none]) dX9_ones_1 (by decide) rfl ?_
  refine WP.iload_n dX9_ones_2 rfl ?_
  refine WP.istore_n (L2 := [some (mi x0), some (mi 0), some (mi x0)]) dX9_ones_3 (by decide) rfl ?_
  refine WP.drop 0 (L2 := [none, some (mi 0), some (mi x0)]) rfl ?_
  exact h
set_option maxRecDepth 100000 in
set_option maxHeartbeats 4000000 in
theorem b_X9_ones_4 (x1 x2 : Int) {σ : Mem} {Q : Int → Mem → Prop} (h : (x2 = 0 → Q x1 σ) ∧ (¬ x2 = 0 → WP GM M_X9_ones 4 [none, some (mi (jadd x1 1)), some (mi (jand x2 (jsub x2 1)))] [] σ Q)) : WP GM M_X9_ones 4 [none, some (mi x1), some (mi x2)] [] σ Q := by
  refine WP.iload_n dX9_ones_4 rfl ?_
  refine WP.if_eq (tgt := 20) dX9_ones_5 (by decide) (fun q => ?_) (fun q => ?_)
  · have h := h.1 q
    refine WP.iload_n dX9_ones_20 rfl ?_
    exact WP.iret rfl dX9_ones_21 h
  · have h := h.2 q
    refine WP.iinc (L2 := [none, some (mi (jadd x1 1)), some (mi x2)]) dX9_ones_8 (by decide) rfl (by decide) rfl ?_
    refine WP.iload_n dX9_ones_11 rfl ?_
    refine WP.iload_n dX9_ones_12 rfl ?_
    refine WP.iconst dX9_ones_13 (by decide) ?_
    refine WP.isub dX9_ones_14 ?_
    refine WP.iand dX9_ones_15 ?_
    refine WP.istore_n (L2 := [none, some (mi (jadd x1 1)), some (mi (jand x2 (jsub x2 1)))]) dX9_ones_16 (by decide) rfl ?_
    refine WP.goto (tgt := 4) dX9_ones_17 (by decide) ?_
    exact h
theorem dX9_coat_0 : decode cX9_coat 0 = .ok (.iload_n 2, 1) := by decide +kernel
theorem dX9_coat_1 : decode cX9_coat 1 = .ok (.i2l, 1) := by decide +kernel
theorem dX9_coat_2 : decode cX9_coat 2 = .ok (.lconst 1, 1) := by decide +kernel
theorem dX9_coat_3 : decode cX9_coat 3 = .ok (.ldc2_w 92, 3) := by decide +kernel
theorem dX9_coat_6 : decode cX9_coat 6 = .ok (.invokestatic 82, 3) := by decide +kernel
theorem dX9_coat_9 : decode cX9_coat 9 = .ok (.ifCond .eq 32, 3) := by decide +kernel
theorem dX9_coat_12 : decode cX9_coat 12 = .ok (.iload_n 1, 1) := by decide +kernel
theorem dX9_coat_13 : decode cX9_coat 13 = .ok (.i2l, 1) := by decide +kernel
theorem dX9_coat_14 : decode cX9_coat 14 = .ok (.lconst 0, 1) := by decide +kernel
theorem dX9_coat_15 : decode cX9_coat 15 = .ok (.iconst 1, 1) := by decide +kernel
theorem dX9_coat_16 : decode cX9_coat 16 = .ok (.iconst 3, 1) := by decide +kernel
theorem dX9_coat_17 : decode cX9_coat 17 = .ok (.iload_n 2, 1) := by decide +kernel
theorem dX9_coat_18 : decode cX9_coat 18 = .ok (.imul, 1) := by decide +kernel
theorem dX9_coat_19 : decode cX9_coat 19 = .ok (.ishl, 1) := by decide +kernel
theorem dX9_coat_20 : decode cX9_coat 20 = .ok (.iconst 1, 1) := by decide +kernel
theorem dX9_coat_21 : decode cX9_coat 21 = .ok (.isub, 1) := by decide +kernel
theorem dX9_coat_22 : decode cX9_coat 22 = .ok (.i2l, 1) := by decide +kernel
theorem dX9_coat_23 : decode cX9_coat 23 = .ok (.invokestatic 82, 3) := by decide +kernel
theorem dX9_coat_26 : decode cX9_coat 26 = .ok (.ifCond .eq 15, 3) := by decide +kernel
theorem dX9_coat_29 : decode cX9_coat 29 = .ok (.iload_n 3, 1) := by decide +kernel
theorem dX9_coat_30 : decode cX9_coat 30 = .ok (.i2l, 1) := by decide +kernel
theorem dX9_coat_31 : decode cX9_coat 31 = .ok (.lconst 0, 1) := by decide +kernel
theorem dX9_coat_32 : decode cX9_coat 32 = .ok (.ldc2_w 94, 3) := by decide +kernel
theorem dX9_coat_35 : decode cX9_coat 35 = .ok (.invokestatic 82, 3) := by decide +kernel
theorem dX9_coat_38 : decode cX9_coat 38 = .ok (.ifCond .ne 5, 3) := by decide +kernel
theorem dX9_coat_41 : decode cX9_coat 41 = .ok (.iconst (-1), 1) := by decide +kernel
theorem dX9_coat_42 : decode cX9_coat 42 = .ok (.ireturn, 1) := by decide +kernel
theorem dX9_coat_43 : decode cX9_coat 43 = .ok (.iconst 0, 1) := by decide +kernel
theorem dX9_coat_44 : decode cX9_coat 44 = .ok (.istore 4, 2) := by decide +kernel
theorem dX9_coat_46 : decode cX9_coat 46 = .ok (.iconst 0, 1) := by decide +kernel
theorem dX9_coat_47 : decode cX9_coat 47 = .ok (.istore 5, 2) := by decide +kernel
theorem dX9_coat_49 : decode cX9_coat 49 = .ok (.iload 5, 2) := by decide +kernel
theorem dX9_coat_51 : decode cX9_coat 51 = .ok (.iload_n 2, 1) := by decide +kernel
theorem dX9_coat_52 : decode cX9_coat 52 = .ok (.if_icmp .ge 25, 3) := by decide +kernel
theorem dX9_coat_55 : decode cX9_coat 55 = .ok (.iload 4, 2) := by decide +kernel
theorem dX9_coat_57 : decode cX9_coat 57 = .ok (.iconst 1, 1) := by decide +kernel
theorem dX9_coat_58 : decode cX9_coat 58 = .ok (.iload_n 1, 1) := by decide +kernel
theorem dX9_coat_59 : decode cX9_coat 59 = .ok (.iconst 3, 1) := by decide +kernel
theorem dX9_coat_60 : decode cX9_coat 60 = .ok (.iload 5, 2) := by decide +kernel
theorem dX9_coat_62 : decode cX9_coat 62 = .ok (.imul, 1) := by decide +kernel
theorem dX9_coat_63 : decode cX9_coat 63 = .ok (.ishr, 1) := by decide +kernel
theorem dX9_coat_64 : decode cX9_coat 64 = .ok (.bipush 7, 2) := by decide +kernel
theorem dX9_coat_66 : decode cX9_coat 66 = .ok (.iand, 1) := by decide +kernel
theorem dX9_coat_67 : decode cX9_coat 67 = .ok (.ishl, 1) := by decide +kernel
theorem dX9_coat_68 : decode cX9_coat 68 = .ok (.ior, 1) := by decide +kernel
theorem dX9_coat_69 : decode cX9_coat 69 = .ok (.istore 4, 2) := by decide +kernel
theorem dX9_coat_71 : decode cX9_coat 71 = .ok (.iinc 5 1, 3) := by decide +kernel
theorem dX9_coat_74 : decode cX9_coat 74 = .ok (.goto (-25), 3) := by decide +kernel
theorem dX9_coat_77 : decode cX9_coat 77 = .ok (.iload 4, 2) := by decide +kernel
theorem dX9_coat_79 : decode cX9_coat 79 = .ok (.invokestatic 96, 3) := by decide +kernel
theorem dX9_coat_82 : decode cX9_coat 82 = .ok (.iload_n 2, 1) := by decide +kernel
theorem dX9_coat_83 : decode cX9_coat 83 = .ok (.if_icmp .ge 5, 3) := by decide +kernel
theorem dX9_coat_86 : decode cX9_coat 86 = .ok (.iconst (-1), 1) := by decide +kernel
theorem dX9_coat_87 : decode cX9_coat 87 = .ok (.ireturn, 1) := by decide +kernel
theorem dX9_coat_88 : decode cX9_coat 88 = .ok (.aload_n 0, 1) := by decide +kernel
theorem dX9_coat_89 : decode cX9_coat 89 = .ok (.getfield 86, 3) := by decide +kernel
theorem dX9_coat_92 : decode cX9_coat 92 = .ok (.iconst 4, 1) := by decide +kernel
theorem dX9_coat_93 : decode cX9_coat 93 = .ok (.if_icmp .ne 6, 3) := by decide +kernel
theorem dX9_coat_96 : decode cX9_coat 96 = .ok (.bipush (-3), 2) := by decide +kernel
theorem dX9_coat_98 : decode cX9_coat 98 = .ok (.ireturn, 1) := by decide +kernel
theorem dX9_coat_99 : decode cX9_coat 99 = .ok (.aload_n 0, 1) := by decide +kernel
theorem dX9_coat_100 : decode cX9_coat 100 = .ok (.getfield 7, 3) := by decide +kernel
theorem dX9_coat_103 : decode cX9_coat 103 = .ok (.aload_n 0, 1) := by decide +kernel
theorem dX9_coat_104 : decode cX9_coat 104 = .ok (.getfield 86, 3) := by decide +kernel
theorem dX9_coat_107 : decode cX9_coat 107 = .ok (.iload_n 2, 1) := by decide +kernel
theorem dX9_coat_108 : decode cX9_coat 108 = .ok (.iastore, 1) := by decide +kernel
theorem dX9_coat_109 : decode cX9_coat 109 = .ok (.aload_n 0, 1) := by decide +kernel
theorem dX9_coat_110 : decode cX9_coat 110 = .ok (.getfield 13, 3) := by decide +kernel
theorem dX9_coat_113 : decode cX9_coat 113 = .ok (.aload_n 0, 1) := by decide +kernel
theorem dX9_coat_114 : decode cX9_coat 114 = .ok (.getfield 86, 3) := by decide +kernel
theorem dX9_coat_117 : decode cX9_coat 117 = .ok (.iconst 0, 1) := by decide +kernel
theorem dX9_coat_118 : decode cX9_coat 118 = .ok (.iastore, 1) := by decide +kernel
theorem dX9_coat_119 : decode cX9_coat 119 = .ok (.aload_n 0, 1) := by decide +kernel
theorem dX9_coat_120 : decode cX9_coat 120 = .ok (.getfield 16, 3) := by decide +kernel
theorem dX9_coat_123 : decode cX9_coat 123 = .ok (.aload_n 0, 1) := by decide +kernel
theorem dX9_coat_124 : decode cX9_coat 124 = .ok (.getfield 86, 3) := by decide +kernel
theorem dX9_coat_127 : decode cX9_coat 127 = .ok (.iload_n 3, 1) := by decide +kernel
theorem dX9_coat_128 : decode cX9_coat 128 = .ok (.iastore, 1) := by decide +kernel
theorem dX9_coat_129 : decode cX9_coat 129 = .ok (.iconst 0, 1) := by decide +kernel
theorem dX9_coat_130 : decode cX9_coat 130 = .ok (.istore 5, 2) := by decide +kernel
theorem dX9_coat_132 : decode cX9_coat 132 = .ok (.iload 5, 2) := by decide +kernel
theorem dX9_coat_134 : decode cX9_coat 134 = .ok (.iload_n 2, 1) := by decide +kernel
theorem dX9_coat_135 : decode cX9_coat 135 = .ok (.if_icmp .ge 32, 3) := by decide +kernel
theorem dX9_coat_138 : decode cX9_coat 138 = .ok (.aload_n 0, 1) := by decide +kernel
theorem dX9_coat_139 : decode cX9_coat 139 = .ok (.getfield 19, 3) := by decide +kernel
theorem dX9_coat_142 : decode cX9_coat 142 = .ok (.iconst 4, 1) := by decide +kernel
theorem dX9_coat_143 : decode cX9_coat 143 = .ok (.aload_n 0, 1) := by decide +kernel
theorem dX9_coat_144 : decode cX9_coat 144 = .ok (.getfield 86, 3) := by decide +kernel
theorem dX9_coat_147 : decode cX9_coat 147 = .ok (.imul, 1) := by decide +kernel
theorem dX9_coat_148 : decode cX9_coat 148 = .ok (.iload 5, 2) := by decide +kernel
theorem dX9_coat_150 : decode cX9_coat 150 = .ok (.iadd, 1) := by decide +kernel
theorem dX9_coat_151 : decode cX9_coat 151 = .ok (.iload_n 1, 1) := by decide +kernel
theorem dX9_coat_152 : decode cX9_coat 152 = .ok (.iconst 3, 1) := by decide +kernel
theorem dX9_coat_153 : decode cX9_coat 153 = .ok (.iload 5, 2) := by decide +kernel
theorem dX9_coat_155 : decode cX9_coat 155 = .ok (.imul, 1) := by decide +kernel
theorem dX9_coat_156 : decode cX9_coat 156 = .ok (.ishr, 1) := by decide +kernel
theorem dX9_coat_157 : decode cX9_coat 157 = .ok (.bipush 7, 2) := by decide +kernel
theorem dX9_coat_159 : decode cX9_coat 159 = .ok (.iand, 1) := by decide +kernel
theorem dX9_coat_160 : decode cX9_coat 160 = .ok (.iastore, 1) := by decide +kernel
theorem dX9_coat_161 : decode cX9_coat 161 = .ok (.iinc 5 1, 3) := by decide +kernel
theorem dX9_coat_164 : decode cX9_coat 164 = .ok (.goto (-32), 3) := by decide +kernel
theorem dX9_coat_167 : decode cX9_coat 167 = .ok (.aload_n 0, 1) := by decide +kernel
theorem dX9_coat_168 : decode cX9_coat 168 = .ok (.dup, 1) := by decide +kernel
theorem dX9_coat_169 : decode cX9_coat 169 = .ok (.getfield 86, 3) := by decide +kernel
theorem dX9_coat_172 : decode cX9_coat 172 = .ok (.iconst 1, 1) := by decide +kernel
theorem dX9_coat_173 : decode cX9_coat 173 = .ok (.iadd, 1) := by decide +kernel
theorem dX9_coat_174 : decode cX9_coat 174 = .ok (.putfield 86, 3) := by decide +kernel
theorem dX9_coat_177 : decode cX9_coat 177 = .ok (.aload_n 0, 1) := by decide +kernel
theorem dX9_coat_178 : decode cX9_coat 178 = .ok (.getfield 86, 3) := by decide +kernel
theorem dX9_coat_181 : decode cX9_coat 181 = .ok (.iconst 1, 1) := by decide +kernel
theorem dX9_coat_182 : decode cX9_coat 182 = .ok (.isub, 1) := by decide +kernel
theorem dX9_coat_183 : decode cX9_coat 183 = .ok (.ireturn, 1) := by decide +kernel
set_option maxRecDepth 100000 in
set_option maxHeartbeats 4000000 in
theorem e_X9_coat_0 (x1 x2 x3 : Int) {σ : Mem} {Q : Int → Mem → Prop} (h : HT GM M_X9_in [ml x2, ml 1, ml 4] σ (fun r6 σ6 => (r6 = 0 → Q (-1) σ6) ∧ (¬ r6 = 0 → HT GM M_X9_in [ml x1, ml 0, ml (jsub (jshl 1 (jmul 3 x2)) 1)] σ6 (fun r23 σ23 => (r23 = 0 → Q (-1) σ23) ∧ (¬ r23 = 0 → HT GM M_X9_in [ml x3, ml 0, ml 3] σ23 (fun r35 σ35 => (¬ r35 = 0 → WP GM M_X9_coat 49 [some (mr 0), some (mi x1), some (mi x2), some (mi x3), some (mi 0), some (mi 0)] [] σ35 Q) ∧ (r35 = 0 → Q (-1) σ35))))))) : HT GM M_X9_coat [mr 0, mi x1, mi x2, mi x3] σ Q := by
  refine HT.of pn_X9 (Nat.le_of_ble_eq_true rfl) ?_
  show WP GM M_X9_coat 0 [some (mr 0), some (mi x1), some (mi x2), some (mi x3), none, none] [] σ Q
  refine WP.iload_n dX9_coat_0 rfl ?_
  refine WP.i2l dX9_coat_1 ?_
  refine WP.lconst (x := 1) dX9_coat_2 (by decide) rfl ?_
  refine WP.ldc2 (x := 4) dX9_coat_3 ct_X9_92 (by decide) (by decide) ?_
  refine WP.callS M_X9_in [ml x2, ml 1, ml 4] cs_X9_in dX9_coat_6 lk_X9_82 ft_X9_coat__X9_in rfl (Nat.le_of_ble_eq_true rfl) (HT.mono h ?_)
  rintro r6 σ6 - - h
  refine WP.if_eq (tgt := 41) dX9_coat_9 (by decide) (fun q => ?_) (fun q => ?_)
  · have h := h.1 q
    refine WP.iconst dX9_coat_41 (by decide) ?_
    exact WP.iret rfl dX9_coat_42 h
  · have h := h.2 q
    refine WP.iload_n dX9_coat_12 rfl ?_
    refine WP.i2l dX9_coat_13 ?_
    refine WP.lconst (x := 0) dX9_coat_14 (by decide) rfl ?_
    refine WP.iconst dX9_coat_15 (by decide) ?_
    refine WP.iconst dX9_coat_16 (by decide) ?_
    refine WP.iload_n dX9_coat_17 rfl ?_
    refine WP.imul dX9_coat_18 ?_
    refine WP.ishl dX9_coat_19 ?_
    refine WP.iconst dX9_coat_20 (by decide) ?_
    refine WP.isub dX9_coat_21 ?_
    refine WP.i2l dX9_coat_22 ?_
    refine WP.callS M_X9_in [ml x1, ml 0, ml (jsub (jshl 1 (jmul 3 x2)) 1)] cs_X9_in dX9_coat_23 lk_X9_82 ft_X9_coat__X9_in rfl (Nat.le_of_ble_eq_true rfl) (HT.mono h ?_)
    rintro r23 σ23 - - h
    refine WP.if_eq (tgt := 41) dX9_coat_26 (by decide) (fun q => ?_) (fun q => ?_)
    · have h := h.1 q
      refine WP.iconst dX9_coat_41 (by decide) ?_
      exact WP.iret rfl dX9_coat_42 h
    · have h := h.2 q
      refine WP.iload_n dX9_coat_29 rfl ?_
      refine WP.i2l dX9_coat_30 ?_
      refine WP.lconst (x := 0) dX9_coat_31 (by decide) rfl ?_
      refine WP.ldc2 (x := 3) dX9_coat_32 ct_X9_94 (by decide) (by decide) ?_
      refine WP.callS M_X9_in [ml x3, ml 0, ml 3] cs_X9_in dX9_coat_35 lk_X9_82 ft_X9_coat__X9_in rfl (Nat.le_of_ble_eq_true rfl) (HT.mono h ?_)
      rintro r35 σ35 - - h
      refine WP.if_ne (tgt := 43) dX9_coat_38 (by decide) (fun q => ?_) (fun q => ?_)
      · have h := h.1 q
        refine WP.iconst dX9_coat_43 (by decide) ?_
        refine WP.istore (L2 := [some (mr 0), some (mi x1), some (mi x2), some (mi x3), some (mi 0), none]) dX9_coat_44 (by decide) rfl ?_
        refine WP.iconst dX9_coat_46 (by decide) ?_
        refine WP.istore (L2 := [some (mr 0), some (mi x1), some (mi x2), some (mi x3), some (mi 0), some (mi 0)]) dX9_coat_47 (by decide) rfl ?_
        exact h
      · have h := h.2 q
        refine WP.iconst dX9_coat_41 (by decide) ?_
        exact WP.iret rfl dX9_coat_42 h
set_option maxRecDepth 100000 in
set_option maxHeartbeats 4000000 in
theorem b_X9_coat_0_49 (x1 x2 x3 x4 x5 : Int) {σ : Mem} {Q : Int → Mem → Prop} (h : (x2 ≤ x5 → HT GM M_X9_ones [mi x4] σ (fun r79 σ79 => (x2 ≤ r79 → (¬ σ79 0 4 = 4 → (0 ≤ σ79 0 4 ∧ σ79 0 4 < 4) ∧ ((0 ≤ σ79 0 4 ∧ σ79 0 4 < 4) ∧ ((0 ≤ σ79 0 4 ∧ σ79 0 4 < 4) ∧ (WP GM M_X9_coat 132 [some (mr 0), some (mi x1), some (mi x2), none, none, some (mi 0)] [] (mupd (mupd (mupd σ79 1 (σ79 0 4) x2) 2 (σ79 0 4) 0) 3 (σ79 0 4) x3) Q)))) ∧ (σ79 0 4 = 4 → Q (-3) σ79)) ∧ (¬ x2 ≤ r79 → Q (-1) σ79))) ∧ (¬ x2 ≤ x5 → WP GM M_X9_coat 49 [some (mr 0), some (mi x1), some (mi x2), some (mi x3), some (mi (jor x4 (jshl 1 (jand (jshr x1 (jmul 3 x5)) 7)))), some (mi (jadd x5 1))] [] σ Q)) : WP GM M_X9_coat 49 [some (mr 0), some (mi x1), some (mi x2), some (mi x3), some (mi x4), some (mi x5)] [] σ Q := by
  refine WP.iload dX9_coat_49 rfl ?_
  refine WP.iload_n dX9_coat_51 rfl ?_
  refine WP.icmp_ge (tgt := 77) dX9_coat_52 (by decide) (fun q => ?_) (fun q => ?_)
  · have h := h.1 q
    refine WP.iload dX9_coat_77 rfl ?_
    refine WP.callS M_X9_ones [mi x4] cs_X9_ones dX9_coat_79 lk_X9_96 ft_X9_coat__X9_ones rfl (Nat.le_of_ble_eq_true rfl) (HT.mono h ?_)
    rintro r79 σ79 - - h
    refine WP.iload_n dX9_coat_82 rfl ?_
    refine WP.icmp_ge (tgt := 88) dX9_coat_83 (by decide) (fun q => ?_) (fun q => ?_)
    · have h := h.1 q
      refine WP.aload_n dX9_coat_88 rfl ?_
      refine WP.getI (v := σ79 0 4) fd_X9_86 dX9_coat_89 k0 rfl rfl ?_
      refine WP.iconst dX9_coat_92 (by decide) ?_
      refine WP.icmp_ne (tgt := 99) dX9_coat_93 (by decide) (fun q => ?_) (fun q => ?_)
      · have h := h.1 q
        refine WP.aload_n dX9_coat_99 rfl ?_
        refine WP.getR fd_X9_7 dX9_coat_100 k0 rfl ?_
        refine WP.aload_n dX9_coat_103 rfl ?_
        refine WP.getI (v := σ79 0 4) fd_X9_86 dX9_coat_104 k0 rfl rfl ?_
        refine WP.iload_n dX9_coat_107 rfl ?_
        obtain ⟨hi, h⟩ := h
        refine WP.iast dX9_coat_108 k1 hi ?_
        refine WP.aload_n dX9_coat_109 rfl ?_
        refine WP.getR fd_X9_13 dX9_coat_110 k0 rfl ?_
        refine WP.aload_n dX9_coat_113 rfl ?_
        refine WP.getI (v := σ79 0 4) fd_X9_86 dX9_coat_114 k0 rfl (mupd_rp (by decide)) ?_
        refine WP.iconst dX9_coat_117 (by decide) ?_
        obtain ⟨hi, h⟩ := h
        refine WP.iast dX9_coat_118 k2 hi ?_
        refine WP.aload_n dX9_coat_119 rfl ?_
        refine WP.getR fd_X9_16 dX9_coat_120 k0 rfl ?_
        refine WP.aload_n dX9_coat_123 rfl ?_
        refine WP.getI (v := σ79 0 4) fd_X9_86 dX9_coat_124 k0 rfl ((mupd_rp (by decide)).trans (mupd_rp (by decide))) ?_
        refine WP.iload_n dX9_coat_127 rfl ?_
        obtain ⟨hi, h⟩ := h
        refine WP.iast dX9_coat_128 k3 hi ?_
        refine WP.iconst dX9_coat_129 (by decide) ?_
        refine WP.istore (L2 := [some (mr 0), some (mi x1), some (mi x2), some (mi x3), some (mi x4), some (mi 0)]) dX9_coat_130 (by decide) rfl ?_
        refine WP.drop 3 (L2 := [some (mr 0), some (mi x1), some (mi x2), none, some (mi x4), some (mi 0)]) rfl ?_
        refine WP.drop 4 (L2 := [some (mr 0), some (mi x1), some (mi x2), none, none, some (mi 0)]) rfl ?_
        exact h
      · have h := h.2 q
        refine WP.bipush dX9_coat_96 (by decide) bp_m3 ?_
        exact WP.iret rfl dX9_coat_98 h
    · have h := h.2 q
      refine WP.iconst dX9_coat_86 (by decide) ?_
      exact WP.iret rfl dX9_coat_87 h
  · have h := h.2 q
    refine WP.iload dX9_coat_55 rfl ?_
    refine WP.iconst dX9_coat_57 (by decide) ?_
    refine WP.iload_n dX9_coat_58 rfl ?_
    refine WP.iconst dX9_coat_59 (by decide) ?_
    refine WP.iload dX9_coat_60 rfl ?_
    refine WP.imul dX9_coat_62 ?_
    refine WP.ishr dX9_coat_63 ?_
    refine WP.bipush dX9_coat_64 (by decide) bp_7 ?_
    refine WP.iand dX9_coat_66 ?_
    refine WP.ishl dX9_coat_67 ?_
    refine WP.ior dX9_coat_68 ?_
    refine WP.istore (L2 := [some (mr 0), some (mi x1), some (mi x2), some (mi x3), some (mi (jor x4 (jshl 1 (jand (jshr x1 (jmul 3 x5)) 7)))), some (mi x5)]) dX9_coat_69 (by decide) rfl ?_
    refine WP.iinc (L2 := [some (mr 0), some (mi x1), some (mi x2), some (mi x3), some (mi (jor x4 (jshl 1 (jand (jshr x1 (jmul 3 x5)) 7)))), some (mi (jadd x5 1))]) dX9_coat_71 (by decide) rfl (by decide) rfl ?_
    refine WP.goto (tgt := 49) dX9_coat_74 (by decide) ?_
    exact h
set_option maxRecDepth 100000 in
set_option maxHeartbeats 4000000 in
theorem b_X9_coat_0_132 (x1 x2 x5 : Int) {σ : Mem} {Q : Int → Mem → Prop} (h : (x2 ≤ x5 → Q (jsub (jadd (σ 0 4) 1) 1) (mupd σ 0 4 (jadd (σ 0 4) 1))) ∧ (¬ x2 ≤ x5 → (0 ≤ jadd (jmul 4 (σ 0 4)) x5 ∧ jadd (jmul 4 (σ 0 4)) x5 < 16) ∧ (WP GM M_X9_coat 132 [some (mr 0), some (mi x1), some (mi x2), none, none, some (mi (jadd x5 1))] [] (mupd σ 4 (jadd (jmul 4 (σ 0 4)) x5) (jand (jshr x1 (jmul 3 x5)) 7)) Q))) : WP GM M_X9_coat 132 [some (mr 0), some (mi x1), some (mi x2), none, none, some (mi x5)] [] σ Q := by
  refine WP.iload dX9_coat_132 rfl ?_
  refine WP.iload_n dX9_coat_134 rfl ?_
  refine WP.icmp_ge (tgt := 167) dX9_coat_135 (by decide) (fun q => ?_) (fun q => ?_)
  · have h := h.1 q
    refine WP.aload_n dX9_coat_167 rfl ?_
    refine WP.dup dX9_coat_168 rfl ?_
    refine WP.getI (v := σ 0 4) fd_X9_86 dX9_coat_169 k0 rfl rfl ?_
    refine WP.iconst dX9_coat_172 (by decide) ?_
    refine WP.iadd dX9_coat_173 ?_
    refine WP.put fp_X9_86 dX9_coat_174 k0 rfl rfl rfl ?_
    refine WP.aload_n dX9_coat_177 rfl ?_
    refine WP.getI (v := jadd (σ 0 4) 1) fd_X9_86 dX9_coat_178 k0 rfl mupd_at ?_
    refine WP.iconst dX9_coat_181 (by decide) ?_
    refine WP.isub dX9_coat_182 ?_
    exact WP.iret rfl dX9_coat_183 h
  · have h := h.2 q
    refine WP.aload_n dX9_coat_138 rfl ?_
    refine WP.getR fd_X9_19 dX9_coat_139 k0 rfl ?_
    refine WP.iconst dX9_coat_142 (by decide) ?_
    refine WP.aload_n dX9_coat_143 rfl ?_
    refine WP.getI (v := σ 0 4) fd_X9_86 dX9_coat_144 k0 rfl rfl ?_
    refine WP.imul dX9_coat_147 ?_
    refine WP.iload dX9_coat_148 rfl ?_
    refine WP.iadd dX9_coat_150 ?_
    refine WP.iload_n dX9_coat_151 rfl ?_
    refine WP.iconst dX9_coat_152 (by decide) ?_
    refine WP.iload dX9_coat_153 rfl ?_
    refine WP.imul dX9_coat_155 ?_
    refine WP.ishr dX9_coat_156 ?_
    refine WP.bipush dX9_coat_157 (by decide) bp_7 ?_
    refine WP.iand dX9_coat_159 ?_
    obtain ⟨hi, h⟩ := h
    refine WP.iast dX9_coat_160 k4 hi ?_
    refine WP.iinc (L2 := [some (mr 0), some (mi x1), some (mi x2), none, none, some (mi (jadd x5 1))]) dX9_coat_161 (by decide) rfl (by decide) rfl ?_
    refine WP.goto (tgt := 132) dX9_coat_164 (by decide) ?_
    exact h
theorem dX9_isBoy_0 : decode cX9_isBoy 0 = .ok (.iload_n 0, 1) := by decide +kernel
theorem dX9_isBoy_1 : decode cX9_isBoy 1 = .ok (.i2l, 1) := by decide +kernel
theorem dX9_isBoy_2 : decode cX9_isBoy 2 = .ok (.lconst 0, 1) := by decide +kernel
theorem dX9_isBoy_3 : decode cX9_isBoy 3 = .ok (.ldc2_w 80, 3) := by decide +kernel
theorem dX9_isBoy_6 : decode cX9_isBoy 6 = .ok (.invokestatic 82, 3) := by decide +kernel
theorem dX9_isBoy_9 : decode cX9_isBoy 9 = .ok (.ireturn, 1) := by decide +kernel
set_option maxRecDepth 100000 in
set_option maxHeartbeats 4000000 in
theorem e_X9_isBoy (x0 : Int) {σ : Mem} {Q : Int → Mem → Prop} (h : HT GM M_X9_in [ml x0, ml 0, ml 7] σ (fun r6 σ6 => (r6 = 0 ∨ r6 = 1) ∧ Q r6 σ6)) : HT GM M_X9_isBoy [mi x0] σ Q := by
  refine HT.of pn_X9 (Nat.le_of_ble_eq_true rfl) ?_
  show WP GM M_X9_isBoy 0 [some (mi x0)] [] σ Q
  refine WP.iload_n dX9_isBoy_0 rfl ?_
  refine WP.i2l dX9_isBoy_1 ?_
  refine WP.lconst (x := 0) dX9_isBoy_2 (by decide) rfl ?_
  refine WP.ldc2 (x := 7) dX9_isBoy_3 ct_X9_80 (by decide) (by decide) ?_
  refine WP.callS M_X9_in [ml x0, ml 0, ml 7] cs_X9_in dX9_isBoy_6 lk_X9_82 ft_X9_isBoy__X9_in rfl (Nat.le_of_ble_eq_true rfl) (HT.mono h ?_)
  rintro r6 σ6 - - h
  exact WP.zret rfl dX9_isBoy_9 h.1 h.2
theorem dX9_thing_0 : decode cX9_thing 0 = .ok (.iload_n 1, 1) := by decide +kernel
theorem dX9_thing_1 : decode cX9_thing 1 = .ok (.i2l, 1) := by decide +kernel
theorem dX9_thing_2 : decode cX9_thing 2 = .ok (.lconst 0, 1) := by decide +kernel
theorem dX9_thing_3 : decode cX9_thing 3 = .ok (.ldc2_w 94, 3) := by decide +kernel
theorem dX9_thing_6 : decode cX9_thing 6 = .ok (.invokestatic 82, 3) := by decide +kernel
theorem dX9_thing_9 : decode cX9_thing 9 = .ok (.ifCond .eq 10, 3) := by decide +kernel
theorem dX9_thing_12 : decode cX9_thing 12 = .ok (.iload_n 2, 1) := by decide +kernel
theorem dX9_thing_13 : decode cX9_thing 13 = .ok (.invokestatic 100, 3) := by decide +kernel
theorem dX9_thing_16 : decode cX9_thing 16 = .ok (.ifCond .ne 5, 3) := by decide +kernel
theorem dX9_thing_19 : decode cX9_thing 19 = .ok (.iconst (-1), 1) := by decide +kernel
theorem dX9_thing_20 : decode cX9_thing 20 = .ok (.ireturn, 1) := by decide +kernel
theorem dX9_thing_21 : decode cX9_thing 21 = .ok (.aload_n 0, 1) := by decide +kernel
theorem dX9_thing_22 : decode cX9_thing 22 = .ok (.getfield 89, 3) := by decide +kernel
theorem dX9_thing_25 : decode cX9_thing 25 = .ok (.bipush 8, 2) := by decide +kernel
theorem dX9_thing_27 : decode cX9_thing 27 = .ok (.if_icmp .ne 6, 3) := by decide +kernel
theorem dX9_thing_30 : decode cX9_thing 30 = .ok (.bipush (-3), 2) := by decide +kernel
theorem dX9_thing_32 : decode cX9_thing 32 = .ok (.ireturn, 1) := by decide +kernel
theorem dX9_thing_33 : decode cX9_thing 33 = .ok (.aload_n 0, 1) := by decide +kernel
theorem dX9_thing_34 : decode cX9_thing 34 = .ok (.getfield 22, 3) := by decide +kernel
theorem dX9_thing_37 : decode cX9_thing 37 = .ok (.aload_n 0, 1) := by decide +kernel
theorem dX9_thing_38 : decode cX9_thing 38 = .ok (.getfield 89, 3) := by decide +kernel
theorem dX9_thing_41 : decode cX9_thing 41 = .ok (.iload_n 1, 1) := by decide +kernel
theorem dX9_thing_42 : decode cX9_thing 42 = .ok (.iastore, 1) := by decide +kernel
theorem dX9_thing_43 : decode cX9_thing 43 = .ok (.aload_n 0, 1) := by decide +kernel
theorem dX9_thing_44 : decode cX9_thing 44 = .ok (.getfield 25, 3) := by decide +kernel
theorem dX9_thing_47 : decode cX9_thing 47 = .ok (.aload_n 0, 1) := by decide +kernel
theorem dX9_thing_48 : decode cX9_thing 48 = .ok (.getfield 89, 3) := by decide +kernel
theorem dX9_thing_51 : decode cX9_thing 51 = .ok (.iload_n 2, 1) := by decide +kernel
theorem dX9_thing_52 : decode cX9_thing 52 = .ok (.iastore, 1) := by decide +kernel
theorem dX9_thing_53 : decode cX9_thing 53 = .ok (.aload_n 0, 1) := by decide +kernel
theorem dX9_thing_54 : decode cX9_thing 54 = .ok (.getfield 28, 3) := by decide +kernel
theorem dX9_thing_57 : decode cX9_thing 57 = .ok (.aload_n 0, 1) := by decide +kernel
theorem dX9_thing_58 : decode cX9_thing 58 = .ok (.getfield 89, 3) := by decide +kernel
theorem dX9_thing_61 : decode cX9_thing 61 = .ok (.iconst 0, 1) := by decide +kernel
theorem dX9_thing_62 : decode cX9_thing 62 = .ok (.iastore, 1) := by decide +kernel
theorem dX9_thing_63 : decode cX9_thing 63 = .ok (.aload_n 0, 1) := by decide +kernel
theorem dX9_thing_64 : decode cX9_thing 64 = .ok (.getfield 31, 3) := by decide +kernel
theorem dX9_thing_67 : decode cX9_thing 67 = .ok (.aload_n 0, 1) := by decide +kernel
theorem dX9_thing_68 : decode cX9_thing 68 = .ok (.getfield 89, 3) := by decide +kernel
theorem dX9_thing_71 : decode cX9_thing 71 = .ok (.bipush 8, 2) := by decide +kernel
theorem dX9_thing_73 : decode cX9_thing 73 = .ok (.iastore, 1) := by decide +kernel
theorem dX9_thing_74 : decode cX9_thing 74 = .ok (.aload_n 0, 1) := by decide +kernel
theorem dX9_thing_75 : decode cX9_thing 75 = .ok (.dup, 1) := by decide +kernel
theorem dX9_thing_76 : decode cX9_thing 76 = .ok (.getfield 89, 3) := by decide +kernel
theorem dX9_thing_79 : decode cX9_thing 79 = .ok (.iconst 1, 1) := by decide +kernel
theorem dX9_thing_80 : decode cX9_thing 80 = .ok (.iadd, 1) := by decide +kernel
theorem dX9_thing_81 : decode cX9_thing 81 = .ok (.putfield 89, 3) := by decide +kernel
theorem dX9_thing_84 : decode cX9_thing 84 = .ok (.aload_n 0, 1) := by decide +kernel
theorem dX9_thing_85 : decode cX9_thing 85 = .ok (.getfield 89, 3) := by decide +kernel
theorem dX9_thing_88 : decode cX9_thing 88 = .ok (.iconst 1, 1) := by decide +kernel
theorem dX9_thing_89 : decode cX9_thing 89 = .ok (.isub, 1) := by decide +kernel
theorem dX9_thing_90 : decode cX9_thing 90 = .ok (.ireturn, 1) := by decide +kernel
set_option maxRecDepth 100000 in
set_option maxHeartbeats 4000000 in
theorem e_X9_thing_0 (x1 x2 : Int) {σ : Mem} {Q : Int → Mem → Prop} (h : HT GM M_X9_in [ml x1, ml 0, ml 3] σ (fun r6 σ6 => (r6 = 0 → Q (-1) σ6) ∧ (¬ r6 = 0 → HT GM M_X9_isBoy [mi x2] σ6 (fun r13 σ13 => (¬ r13 = 0 → (¬ σ13 0 9 = 8 → (0 ≤ σ13 0 9 ∧ σ13 0 9 < 8) ∧ ((0 ≤ σ13 0 9 ∧ σ13 0 9 < 8) ∧ ((0 ≤ σ13 0 9 ∧ σ13 0 9 < 8) ∧ ((0 ≤ σ13 0 9 ∧ σ13 0 9 < 8) ∧ (Q (jsub (jadd (σ13 0 9) 1) 1) (mupd (mupd (mupd (mupd (mupd σ13 5 (σ13 0 9) x1) 6 (σ13 0 9) x2) 7 (σ13 0 9) 0) 8 (σ13 0 9) 8) 0 9 (jadd (σ13 0 9) 1))))))) ∧ (σ13 0 9 = 8 → Q (-3) σ13)) ∧ (r13 = 0 → Q (-1) σ13))))) : HT GM M_X9_thing [mr 0, mi x1, mi x2] σ Q := by
  refine HT.of pn_X9 (Nat.le_of_ble_eq_true rfl) ?_
  show WP GM M_X9_thing 0 [some (mr 0), some (mi x1), some (mi x2)] [] σ Q
  refine WP.iload_n dX9_thing_0 rfl ?_
  refine WP.i2l dX9_thing_1 ?_
  refine WP.lconst (x := 0) dX9_thing_2 (by decide) rfl ?_
  refine WP.ldc2 (x := 3) dX9_thing_3 ct_X9_94 (by decide) (by decide) ?_
  refine WP.callS M_X9_in [ml x1, ml 0, ml 3] cs_X9_in dX9_thing_6 lk_X9_82 ft_X9_thing__X9_in rfl (Nat.le_of_ble_eq_true rfl) (HT.mono h ?_)
  rintro r6 σ6 - - h
  refine WP.if_eq (tgt := 19) dX9_thing_9 (by decide) (fun q => ?_) (fun q => ?_)
  · have h := h.1 q
    refine WP.iconst dX9_thing_19 (by decide) ?_
    exact WP.iret rfl dX9_thing_20 h
  · have h := h.2 q
    refine WP.iload_n dX9_thing_12 rfl ?_
    refine WP.callS M_X9_isBoy [mi x2] cs_X9_isBoy dX9_thing_13 lk_X9_100 ft_X9_thing__X9_isBoy rfl (Nat.le_of_ble_eq_true rfl) (HT.mono h ?_)
    rintro r13 σ13 - - h
    refine WP.if_ne (tgt := 21) dX9_thing_16 (by decide) (fun q => ?_) (fun q => ?_)
    · have h := h.1 q
      refine WP.aload_n dX9_thing_21 rfl ?_
      refine WP.getI (v := σ13 0 9) fd_X9_89 dX9_thing_22 k0 rfl rfl ?_
      refine WP.bipush dX9_thing_25 (by decide) bp_8 ?_
      refine WP.icmp_ne (tgt := 33) dX9_thing_27 (by decide) (fun q => ?_) (fun q => ?_)
      · have h := h.1 q
        refine WP.aload_n dX9_thing_33 rfl ?_
        refine WP.getR fd_X9_22 dX9_thing_34 k0 rfl ?_
        refine WP.aload_n dX9_thing_37 rfl ?_
        refine WP.getI (v := σ13 0 9) fd_X9_89 dX9_thing_38 k0 rfl rfl ?_
        refine WP.iload_n dX9_thing_41 rfl ?_
        obtain ⟨hi, h⟩ := h
        refine WP.iast dX9_thing_42 k5 hi ?_
        refine WP.aload_n dX9_thing_43 rfl ?_
        refine WP.getR fd_X9_25 dX9_thing_44 k0 rfl ?_
        refine WP.aload_n dX9_thing_47 rfl ?_
        refine WP.getI (v := σ13 0 9) fd_X9_89 dX9_thing_48 k0 rfl (mupd_rp (by decide)) ?_
        refine WP.iload_n dX9_thing_51 rfl ?_
        obtain ⟨hi, h⟩ := h
        refine WP.iast dX9_thing_52 k6 hi ?_
        refine WP.aload_n dX9_thing_53 rfl ?_
        refine WP.getR fd_X9_28 dX9_thing_54 k0 rfl ?_
        refine WP.aload_n dX9_thing_57 rfl ?_
        refine WP.getI (v := σ13 0 9) fd_X9_89 dX9_thing_58 k0 rfl ((mupd_rp (by decide)).trans (mupd_rp (by decide))) ?_
        refine WP.iconst dX9_thing_61 (by decide) ?_
        obtain ⟨hi, h⟩ := h
        refine WP.iast dX9_thing_62 k7 hi ?_
        refine WP.aload_n dX9_thing_63 rfl ?_
        refine WP.getR fd_X9_31 dX9_thing_64 k0 rfl ?_
        refine WP.aload_n dX9_thing_67 rfl ?_
        refine WP.getI (v := σ13 0 9) fd_X9_89 dX9_thing_68 k0 rfl ((mupd_rp (by decide)).trans ((mupd_rp (by decide)).trans (mupd_rp (by decide)))) ?_
        refine WP.bipush dX9_thing_71 (by decide) bp_8 ?_
        obtain ⟨hi, h⟩ := h
        refine WP.iast dX9_thing_73 k8 hi ?_
        refine WP.aload_n dX9_thing_74 rfl ?_
        refine WP.dup dX9_thing_75 rfl ?_
        refine WP.getI (v := σ13 0 9) fd_X9_89 dX9_thing_76 k0 rfl ((mupd_rp (by decide)).trans ((mupd_rp (by decide)).trans ((mupd_rp (by decide)).trans (mupd_rp (by decide))))) ?_
        refine WP.iconst dX9_thing_79 (by decide) ?_
        refine WP.iadd dX9_thing_80 ?_
        refine WP.put fp_X9_89 dX9_thing_81 k0 rfl rfl rfl ?_
        refine WP.aload_n dX9_thing_84 rfl ?_
        refine WP.getI (v := jadd (σ13 0 9) 1) fd_X9_89 dX9_thing_85 k0 rfl mupd_at ?_
        refine WP.iconst dX9_thing_88 (by decide) ?_
        refine WP.isub dX9_thing_89 ?_
        exact WP.iret rfl dX9_thing_90 h
      · have h := h.2 q
        refine WP.bipush dX9_thing_30 (by decide) bp_m3 ?_
        exact WP.iret rfl dX9_thing_32 h
    · have h := h.2 q
      refine WP.iconst dX9_thing_19 (by decide) ?_
      exact WP.iret rfl dX9_thing_20 h
theorem dX9_isThing_0 : decode cX9_isThing 0 = .ok (.iload_n 1, 1) := by decide +kernel
theorem dX9_isThing_1 : decode cX9_isThing 1 = .ok (.i2l, 1) := by decide +kernel
theorem dX9_isThing_2 : decode cX9_isThing 2 = .ok (.lconst 0, 1) := by decide +kernel
theorem dX9_isThing_3 : decode cX9_isThing 3 = .ok (.aload_n 0, 1) := by decide +kernel
theorem dX9_isThing_4 : decode cX9_isThing 4 = .ok (.getfield 89, 3) := by decide +kernel
theorem dX9_isThing_7 : decode cX9_isThing 7 = .ok (.iconst 1, 1) := by decide +kernel
theorem dX9_isThing_8 : decode cX9_isThing 8 = .ok (.isub, 1) := by decide +kernel
theorem dX9_isThing_9 : decode cX9_isThing 9 = .ok (.i2l, 1) := by decide +kernel
theorem dX9_isThing_10 : decode cX9_isThing 10 = .ok (.invokestatic 82, 3) := by decide +kernel
theorem dX9_isThing_13 : decode cX9_isThing 13 = .ok (.ireturn, 1) := by decide +kernel
set_option maxRecDepth 100000 in
set_option maxHeartbeats 4000000 in
theorem e_X9_isThing_0 (x1 : Int) {σ : Mem} {Q : Int → Mem → Prop} (h : HT GM M_X9_in [ml x1, ml 0, ml (jsub (σ 0 9) 1)] σ (fun r10 σ10 => (r10 = 0 ∨ r10 = 1) ∧ Q r10 σ10)) : HT GM M_X9_isThing [mr 0, mi x1] σ Q := by
  refine HT.of pn_X9 (Nat.le_of_ble_eq_true rfl) ?_
  show WP GM M_X9_isThing 0 [some (mr 0), some (mi x1)] [] σ Q
  refine WP.iload_n dX9_isThing_0 rfl ?_
  refine WP.i2l dX9_isThing_1 ?_
  refine WP.lconst (x := 0) dX9_isThing_2 (by decide) rfl ?_
  refine WP.aload_n dX9_isThing_3 rfl ?_
  refine WP.getI (v := σ 0 9) fd_X9_89 dX9_isThing_4 k0 rfl rfl ?_
  refine WP.iconst dX9_isThing_7 (by decide) ?_
  refine WP.isub dX9_isThing_8 ?_
  refine WP.i2l dX9_isThing_9 ?_
  refine WP.callS M_X9_in [ml x1, ml 0, ml (jsub (σ 0 9) 1)] cs_X9_in dX9_isThing_10 lk_X9_82 ft_X9_isThing__X9_in rfl (Nat.le_of_ble_eq_true rfl) (HT.mono h ?_)
  rintro r10 σ10 - - h
  exact WP.zret rfl dX9_isThing_13 h.1 h.2
theorem dX9_where_0 : decode cX9_where 0 = .ok (.aload_n 0, 1) := by decide +kernel
theorem dX9_where_1 : decode cX9_where 1 = .ok (.iload_n 1, 1) := by decide +kernel
theorem dX9_where_2 : decode cX9_where 2 = .ok (.invokevirtual 104, 3) := by decide +kernel
theorem dX9_where_5 : decode cX9_where 5 = .ok (.ifCond .eq 12, 3) := by decide +kernel
theorem dX9_where_8 : decode cX9_where 8 = .ok (.aload_n 0, 1) := by decide +kernel
theorem dX9_where_9 : decode cX9_where 9 = .ok (.getfield 25, 3) := by decide +kernel
theorem dX9_where_12 : decode cX9_where 12 = .ok (.iload_n 1, 1) := by decide +kernel
theorem dX9_where_13 : decode cX9_where 13 = .ok (.iaload, 1) := by decide +kernel
theorem dX9_where_14 : decode cX9_where 14 = .ok (.goto 4, 3) := by decide +kernel
theorem dX9_where_17 : decode cX9_where 17 = .ok (.iconst (-1), 1) := by decide +kernel
theorem dX9_where_18 : decode cX9_where 18 = .ok (.ireturn, 1) := by decide +kernel
set_option maxRecDepth 100000 in
set_option maxHeartbeats 4000000 in
theorem e_X9_where_0 (x1 : Int) {σ : Mem} {Q : Int → Mem → Prop} (h : HT GM M_X9_isThing [mr 0, mi x1] σ (fun r2 σ2 => (r2 = 0 → Q (-1) σ2) ∧ (¬ r2 = 0 → (0 ≤ x1 ∧ x1 < 8) ∧ (Q (σ2 6 x1) σ2)))) : HT GM M_X9_where [mr 0, mi x1] σ Q := by
  refine HT.of pn_X9 (Nat.le_of_ble_eq_true rfl) ?_
  show WP GM M_X9_where 0 [some (mr 0), some (mi x1)] [] σ Q
  refine WP.aload_n dX9_where_0 rfl ?_
  refine WP.iload_n dX9_where_1 rfl ?_
  refine WP.callV M_X9_isThing [mi x1] cv_X9_isThing dX9_where_2 lk_X9_104 k0 rfl ft_X9_where__X9_isThing rfl (Nat.le_of_ble_eq_true rfl) (HT.mono h ?_)
  rintro r2 σ2 - - h
  refine WP.if_eq (tgt := 17) dX9_where_5 (by decide) (fun q => ?_) (fun q => ?_)
  · have h := h.1 q
    refine WP.iconst dX9_where_17 (by decide) ?_
    exact WP.iret rfl dX9_where_18 h
  · have h := h.2 q
    refine WP.aload_n dX9_where_8 rfl ?_
    refine WP.getR fd_X9_25 dX9_where_9 k0 rfl ?_
    refine WP.iload_n dX9_where_12 rfl ?_
    obtain ⟨hi, h⟩ := h
    refine WP.iald dX9_where_13 k6 hi ?_
    refine WP.goto (tgt := 18) dX9_where_14 (by decide) ?_
    exact WP.iret rfl dX9_where_18 h
theorem dX9_told_0 : decode cX9_told 0 = .ok (.aload_n 0, 1) := by decide +kernel
theorem dX9_told_1 : decode cX9_told 1 = .ok (.iload_n 1, 1) := by decide +kernel
theorem dX9_told_2 : decode cX9_told 2 = .ok (.invokevirtual 104, 3) := by decide +kernel
theorem dX9_told_5 : decode cX9_told 5 = .ok (.ifCond .eq 15, 3) := by decide +kernel
theorem dX9_told_8 : decode cX9_told 8 = .ok (.iload_n 2, 1) := by decide +kernel
theorem dX9_told_9 : decode cX9_told 9 = .ok (.i2l, 1) := by decide +kernel
theorem dX9_told_10 : decode cX9_told 10 = .ok (.lconst 0, 1) := by decide +kernel
theorem dX9_told_11 : decode cX9_told 11 = .ok (.ldc2_w 107, 3) := by decide +kernel
theorem dX9_told_14 : decode cX9_told 14 = .ok (.invokestatic 82, 3) := by decide +kernel
theorem dX9_told_17 : decode cX9_told 17 = .ok (.ifCond .ne 7, 3) := by decide +kernel
theorem dX9_told_20 : decode cX9_told 20 = .ok (.iconst (-1), 1) := by decide +kernel
theorem dX9_told_21 : decode cX9_told 21 = .ok (.goto 36, 3) := by decide +kernel
theorem dX9_told_24 : decode cX9_told 24 = .ok (.iload_n 2, 1) := by decide +kernel
theorem dX9_told_25 : decode cX9_told 25 = .ok (.ifCond .ne 12, 3) := by decide +kernel
theorem dX9_told_28 : decode cX9_told 28 = .ok (.aload_n 0, 1) := by decide +kernel
theorem dX9_told_29 : decode cX9_told 29 = .ok (.getfield 22, 3) := by decide +kernel
theorem dX9_told_32 : decode cX9_told 32 = .ok (.iload_n 1, 1) := by decide +kernel
theorem dX9_told_33 : decode cX9_told 33 = .ok (.iaload, 1) := by decide +kernel
theorem dX9_told_34 : decode cX9_told 34 = .ok (.goto 23, 3) := by decide +kernel
theorem dX9_told_37 : decode cX9_told 37 = .ok (.iload_n 2, 1) := by decide +kernel
theorem dX9_told_38 : decode cX9_told 38 = .ok (.iconst 1, 1) := by decide +kernel
theorem dX9_told_39 : decode cX9_told 39 = .ok (.if_icmp .ne 12, 3) := by decide +kernel
theorem dX9_told_42 : decode cX9_told 42 = .ok (.aload_n 0, 1) := by decide +kernel
theorem dX9_told_43 : decode cX9_told 43 = .ok (.getfield 28, 3) := by decide +kernel
theorem dX9_told_46 : decode cX9_told 46 = .ok (.iload_n 1, 1) := by decide +kernel
theorem dX9_told_47 : decode cX9_told 47 = .ok (.iaload, 1) := by decide +kernel
theorem dX9_told_48 : decode cX9_told 48 = .ok (.goto 9, 3) := by decide +kernel
theorem dX9_told_51 : decode cX9_told 51 = .ok (.aload_n 0, 1) := by decide +kernel
theorem dX9_told_52 : decode cX9_told 52 = .ok (.getfield 31, 3) := by decide +kernel
theorem dX9_told_55 : decode cX9_told 55 = .ok (.iload_n 1, 1) := by decide +kernel
theorem dX9_told_56 : decode cX9_told 56 = .ok (.iaload, 1) := by decide +kernel
theorem dX9_told_57 : decode cX9_told 57 = .ok (.ireturn, 1) := by decide +kernel
set_option maxRecDepth 100000 in
set_option maxHeartbeats 4000000 in
theorem e_X9_told_0 (x1 x2 : Int) {σ : Mem} {Q : Int → Mem → Prop} (h : HT GM M_X9_isThing [mr 0, mi x1] σ (fun r2 σ2 => (r2 = 0 → WP GM M_X9_told 20 [none, none, none] [] σ2 Q) ∧ (¬ r2 = 0 → HT GM M_X9_in [ml x2, ml 0, ml 2] σ2 (fun r14 σ14 => (¬ r14 = 0 → (¬ x2 = 0 → (¬ x2 = 1 → (0 ≤ x1 ∧ x1 < 8) ∧ (Q (σ14 8 x1) σ14)) ∧ (x2 = 1 → (0 ≤ x1 ∧ x1 < 8) ∧ (Q (σ14 7 x1) σ14))) ∧ (x2 = 0 → (0 ≤ x1 ∧ x1 < 8) ∧ (Q (σ14 5 x1) σ14))) ∧ (r14 = 0 → WP GM M_X9_told 20 [none, none, none] [] σ14 Q))))) : HT GM M_X9_told [mr 0, mi x1, mi x2] σ Q := by
  refine HT.of pn_X9 (Nat.le_of_ble_eq_true rfl) ?_
  show WP GM M_X9_told 0 [some (mr 0), some (mi x1), some (mi x2)] [] σ Q
  refine WP.aload_n dX9_told_0 rfl ?_
  refine WP.iload_n dX9_told_1 rfl ?_
  refine WP.callV M_X9_isThing [mi x1] cv_X9_isThing dX9_told_2 lk_X9_104 k0 rfl ft_X9_told__X9_isThing rfl (Nat.le_of_ble_eq_true rfl) (HT.mono h ?_)
  rintro r2 σ2 - - h
  refine WP.if_eq (tgt := 20) dX9_told_5 (by decide) (fun q => ?_) (fun q => ?_)
  · have h := h.1 q
    refine WP.drop 0 (L2 := [none, some (mi x1), some (mi x2)]) rfl ?_
    refine WP.drop 1 (L2 := [none, none, some (mi x2)]) rfl ?_
    refine WP.drop 2 (L2 := [none, none, none]) rfl ?_
    exact h
  · have h := h.2 q
    refine WP.iload_n dX9_told_8 rfl ?_
    refine WP.i2l dX9_told_9 ?_
    refine WP.lconst (x := 0) dX9_told_10 (by decide) rfl ?_
    refine WP.ldc2 (x := 2) dX9_told_11 ct_X9_107 (by decide) (by decide) ?_
    refine WP.callS M_X9_in [ml x2, ml 0, ml 2] cs_X9_in dX9_told_14 lk_X9_82 ft_X9_told__X9_in rfl (Nat.le_of_ble_eq_true rfl) (HT.mono h ?_)
    rintro r14 σ14 - - h
    refine WP.if_ne (tgt := 24) dX9_told_17 (by decide) (fun q => ?_) (fun q => ?_)
    · have h := h.1 q
      refine WP.iload_n dX9_told_24 rfl ?_
      refine WP.if_ne (tgt := 37) dX9_told_25 (by decide) (fun q => ?_) (fun q => ?_)
      · have h := h.1 q
        refine WP.iload_n dX9_told_37 rfl ?_
        refine WP.iconst dX9_told_38 (by decide) ?_
        refine WP.icmp_ne (tgt := 51) dX9_told_39 (by decide) (fun q => ?_) (fun q => ?_)
        · have h := h.1 q
          refine WP.aload_n dX9_told_51 rfl ?_
          refine WP.getR fd_X9_31 dX9_told_52 k0 rfl ?_
          refine WP.iload_n dX9_told_55 rfl ?_
          obtain ⟨hi, h⟩ := h
          refine WP.iald dX9_told_56 k8 hi ?_
          exact WP.iret rfl dX9_told_57 h
        · have h := h.2 q
          refine WP.aload_n dX9_told_42 rfl ?_
          refine WP.getR fd_X9_28 dX9_told_43 k0 rfl ?_
          refine WP.iload_n dX9_told_46 rfl ?_
          obtain ⟨hi, h⟩ := h
          refine WP.iald dX9_told_47 k7 hi ?_
          refine WP.goto (tgt := 57) dX9_told_48 (by decide) ?_
          exact WP.iret rfl dX9_told_57 h
      · have h := h.2 q
        refine WP.aload_n dX9_told_28 rfl ?_
        refine WP.getR fd_X9_22 dX9_told_29 k0 rfl ?_
        refine WP.iload_n dX9_told_32 rfl ?_
        obtain ⟨hi, h⟩ := h
        refine WP.iald dX9_told_33 k5 hi ?_
        refine WP.goto (tgt := 57) dX9_told_34 (by decide) ?_
        exact WP.iret rfl dX9_told_57 h
    · have h := h.2 q
      refine WP.drop 0 (L2 := [none, some (mi x1), some (mi x2)]) rfl ?_
      refine WP.drop 1 (L2 := [none, none, some (mi x2)]) rfl ?_
      refine WP.drop 2 (L2 := [none, none, none]) rfl ?_
      exact h
set_option maxRecDepth 100000 in
set_option maxHeartbeats 4000000 in
theorem b_X9_told_0_20 {σ : Mem} {Q : Int → Mem → Prop} (h : Q (-1) σ) : WP GM M_X9_told 20 [none, none, none] [] σ Q := by
  refine WP.iconst dX9_told_20 (by decide) ?_
  refine WP.goto (tgt := 57) dX9_told_21 (by decide) ?_
  exact WP.iret rfl dX9_told_57 h
theorem dX9_isCoat_0 : decode cX9_isCoat 0 = .ok (.iload_n 1, 1) := by decide +kernel
theorem dX9_isCoat_1 : decode cX9_isCoat 1 = .ok (.i2l, 1) := by decide +kernel
theorem dX9_isCoat_2 : decode cX9_isCoat 2 = .ok (.lconst 0, 1) := by decide +kernel
theorem dX9_isCoat_3 : decode cX9_isCoat 3 = .ok (.aload_n 0, 1) := by decide +kernel
theorem dX9_isCoat_4 : decode cX9_isCoat 4 = .ok (.getfield 86, 3) := by decide +kernel
theorem dX9_isCoat_7 : decode cX9_isCoat 7 = .ok (.iconst 1, 1) := by decide +kernel
theorem dX9_isCoat_8 : decode cX9_isCoat 8 = .ok (.isub, 1) := by decide +kernel
theorem dX9_isCoat_9 : decode cX9_isCoat 9 = .ok (.i2l, 1) := by decide +kernel
theorem dX9_isCoat_10 : decode cX9_isCoat 10 = .ok (.invokestatic 82, 3) := by decide +kernel
theorem dX9_isCoat_13 : decode cX9_isCoat 13 = .ok (.ireturn, 1) := by decide +kernel
set_option maxRecDepth 100000 in
set_option maxHeartbeats 4000000 in
theorem e_X9_isCoat_0 (x1 : Int) {σ : Mem} {Q : Int → Mem → Prop} (h : HT GM M_X9_in [ml x1, ml 0, ml (jsub (σ 0 4) 1)] σ (fun r10 σ10 => (r10 = 0 ∨ r10 = 1) ∧ Q r10 σ10)) : HT GM M_X9_isCoat [mr 0, mi x1] σ Q := by
  refine HT.of pn_X9 (Nat.le_of_ble_eq_true rfl) ?_
  show WP GM M_X9_isCoat 0 [some (mr 0), some (mi x1)] [] σ Q
  refine WP.iload_n dX9_isCoat_0 rfl ?_
  refine WP.i2l dX9_isCoat_1 ?_
  refine WP.lconst (x := 0) dX9_isCoat_2 (by decide) rfl ?_
  refine WP.aload_n dX9_isCoat_3 rfl ?_
  refine WP.getI (v := σ 0 4) fd_X9_86 dX9_isCoat_4 k0 rfl rfl ?_
  refine WP.iconst dX9_isCoat_7 (by decide) ?_
  refine WP.isub dX9_isCoat_8 ?_
  refine WP.i2l dX9_isCoat_9 ?_
  refine WP.callS M_X9_in [ml x1, ml 0, ml (jsub (σ 0 4) 1)] cs_X9_in dX9_isCoat_10 lk_X9_82 ft_X9_isCoat__X9_in rfl (Nat.le_of_ble_eq_true rfl) (HT.mono h ?_)
  rintro r10 σ10 - - h
  exact WP.zret rfl dX9_isCoat_13 h.1 h.2
theorem dX9_wearer_0 : decode cX9_wearer 0 = .ok (.aload_n 0, 1) := by decide +kernel
theorem dX9_wearer_1 : decode cX9_wearer 1 = .ok (.getfield 19, 3) := by decide +kernel
theorem dX9_wearer_4 : decode cX9_wearer 4 = .ok (.iconst 4, 1) := by decide +kernel
theorem dX9_wearer_5 : decode cX9_wearer 5 = .ok (.iload_n 1, 1) := by decide +kernel
theorem dX9_wearer_6 : decode cX9_wearer 6 = .ok (.imul, 1) := by decide +kernel
theorem dX9_wearer_7 : decode cX9_wearer 7 = .ok (.aload_n 0, 1) := by decide +kernel
theorem dX9_wearer_8 : decode cX9_wearer 8 = .ok (.getfield 13, 3) := by decide +kernel
theorem dX9_wearer_11 : decode cX9_wearer 11 = .ok (.iload_n 1, 1) := by decide +kernel
theorem dX9_wearer_12 : decode cX9_wearer 12 = .ok (.iaload, 1) := by decide +kernel
theorem dX9_wearer_13 : decode cX9_wearer 13 = .ok (.iload_n 2, 1) := by decide +kernel
theorem dX9_wearer_14 : decode cX9_wearer 14 = .ok (.iadd, 1) := by decide +kernel
theorem dX9_wearer_15 : decode cX9_wearer 15 = .ok (.aload_n 0, 1) := by decide +kernel
theorem dX9_wearer_16 : decode cX9_wearer 16 = .ok (.getfield 7, 3) := by decide +kernel
theorem dX9_wearer_19 : decode cX9_wearer 19 = .ok (.iload_n 1, 1) := by decide +kernel
theorem dX9_wearer_20 : decode cX9_wearer 20 = .ok (.iaload, 1) := by decide +kernel
theorem dX9_wearer_21 : decode cX9_wearer 21 = .ok (.irem, 1) := by decide +kernel
theorem dX9_wearer_22 : decode cX9_wearer 22 = .ok (.iadd, 1) := by decide +kernel
theorem dX9_wearer_23 : decode cX9_wearer 23 = .ok (.iaload, 1) := by decide +kernel
theorem dX9_wearer_24 : decode cX9_wearer 24 = .ok (.ireturn, 1) := by decide +kernel
set_option maxRecDepth 100000 in
set_option maxHeartbeats 4000000 in
theorem e_X9_wearer_0 (x1 x2 : Int) {σ : Mem} {Q : Int → Mem → Prop} (h : (0 ≤ x1 ∧ x1 < 4) ∧ ((0 ≤ x1 ∧ x1 < 4) ∧ ((¬ σ 1 x1 = 0) ∧ ((0 ≤ jadd (jmul 4 x1) (jrem (jadd (σ 2 x1) x2) (σ 1 x1)) ∧ jadd (jmul 4 x1) (jrem (jadd (σ 2 x1) x2) (σ 1 x1)) < 16) ∧ (Q (σ 4 (jadd (jmul 4 x1) (jrem (jadd (σ 2 x1) x2) (σ 1 x1)))) σ))))) : HT GM M_X9_wearer [mr 0, mi x1, mi x2] σ Q := by
  refine HT.of pn_X9 (Nat.le_of_ble_eq_true rfl) ?_
  show WP GM M_X9_wearer 0 [some (mr 0), some (mi x1), some (mi x2)] [] σ Q
  refine WP.aload_n dX9_wearer_0 rfl ?_
  refine WP.getR fd_X9_19 dX9_wearer_1 k0 rfl ?_
  refine WP.iconst dX9_wearer_4 (by decide) ?_
  refine WP.iload_n dX9_wearer_5 rfl ?_
  refine WP.imul dX9_wearer_6 ?_
  refine WP.aload_n dX9_wearer_7 rfl ?_
  refine WP.getR fd_X9_13 dX9_wearer_8 k0 rfl ?_
  refine WP.iload_n dX9_wearer_11 rfl ?_
  obtain ⟨hi, h⟩ := h
  refine WP.iald dX9_wearer_12 k2 hi ?_
  refine WP.iload_n dX9_wearer_13 rfl ?_
  refine WP.iadd dX9_wearer_14 ?_
  refine WP.aload_n dX9_wearer_15 rfl ?_
  refine WP.getR fd_X9_7 dX9_wearer_16 k0 rfl ?_
  refine WP.iload_n dX9_wearer_19 rfl ?_
  obtain ⟨hi, h⟩ := h
  refine WP.iald dX9_wearer_20 k1 hi ?_
  obtain ⟨hi, h⟩ := h
  refine WP.irem dX9_wearer_21 hi ?_
  refine WP.iadd dX9_wearer_22 ?_
  obtain ⟨hi, h⟩ := h
  refine WP.iald dX9_wearer_23 k4 hi ?_
  exact WP.iret rfl dX9_wearer_24 h
theorem dX9_thingsAt_0 : decode cX9_thingsAt 0 = .ok (.iconst 0, 1) := by decide +kernel
theorem dX9_thingsAt_1 : decode cX9_thingsAt 1 = .ok (.istore_n 2, 1) := by decide +kernel
theorem dX9_thingsAt_2 : decode cX9_thingsAt 2 = .ok (.iconst 0, 1) := by decide +kernel
theorem dX9_thingsAt_3 : decode cX9_thingsAt 3 = .ok (.istore_n 3, 1) := by decide +kernel
theorem dX9_thingsAt_4 : decode cX9_thingsAt 4 = .ok (.iload_n 3, 1) := by decide +kernel
theorem dX9_thingsAt_5 : decode cX9_thingsAt 5 = .ok (.aload_n 0, 1) := by decide +kernel
theorem dX9_thingsAt_6 : decode cX9_thingsAt 6 = .ok (.getfield 89, 3) := by decide +kernel
theorem dX9_thingsAt_9 : decode cX9_thingsAt 9 = .ok (.if_icmp .ge 29, 3) := by decide +kernel
theorem dX9_thingsAt_12 : decode cX9_thingsAt 12 = .ok (.iload_n 2, 1) := by decide +kernel
theorem dX9_thingsAt_13 : decode cX9_thingsAt 13 = .ok (.aload_n 0, 1) := by decide +kernel
theorem dX9_thingsAt_14 : decode cX9_thingsAt 14 = .ok (.getfield 25, 3) := by decide +kernel
theorem dX9_thingsAt_17 : decode cX9_thingsAt 17 = .ok (.iload_n 3, 1) := by decide +kernel
theorem dX9_thingsAt_18 : decode cX9_thingsAt 18 = .ok (.iaload, 1) := by decide +kernel
theorem dX9_thingsAt_19 : decode cX9_thingsAt 19 = .ok (.iload_n 1, 1) := by decide +kernel
theorem dX9_thingsAt_20 : decode cX9_thingsAt 20 = .ok (.if_icmp .ne 9, 3) := by decide +kernel
theorem dX9_thingsAt_23 : decode cX9_thingsAt 23 = .ok (.iconst 1, 1) := by decide +kernel
theorem dX9_thingsAt_24 : decode cX9_thingsAt 24 = .ok (.iload_n 3, 1) := by decide +kernel
theorem dX9_thingsAt_25 : decode cX9_thingsAt 25 = .ok (.ishl, 1) := by decide +kernel
theorem dX9_thingsAt_26 : decode cX9_thingsAt 26 = .ok (.goto 4, 3) := by decide +kernel
theorem dX9_thingsAt_29 : decode cX9_thingsAt 29 = .ok (.iconst 0, 1) := by decide +kernel
theorem dX9_thingsAt_30 : decode cX9_thingsAt 30 = .ok (.ior, 1) := by decide +kernel
theorem dX9_thingsAt_31 : decode cX9_thingsAt 31 = .ok (.istore_n 2, 1) := by decide +kernel
theorem dX9_thingsAt_32 : decode cX9_thingsAt 32 = .ok (.iinc 3 1, 3) := by decide +kernel
theorem dX9_thingsAt_35 : decode cX9_thingsAt 35 = .ok (.goto (-31), 3) := by decide +kernel
theorem dX9_thingsAt_38 : decode cX9_thingsAt 38 = .ok (.iload_n 2, 1) := by decide +kernel
theorem dX9_thingsAt_39 : decode cX9_thingsAt 39 = .ok (.ireturn, 1) := by decide +kernel
set_option maxRecDepth 100000 in
set_option maxHeartbeats 4000000 in
theorem e_X9_thingsAt_0 (x1 : Int) {σ : Mem} {Q : Int → Mem → Prop} (h : WP GM M_X9_thingsAt 4 [some (mr 0), some (mi x1), some (mi 0), some (mi 0)] [] σ Q) : HT GM M_X9_thingsAt [mr 0, mi x1] σ Q := by
  refine HT.of pn_X9 (Nat.le_of_ble_eq_true rfl) ?_
  show WP GM M_X9_thingsAt 0 [some (mr 0), some (mi x1), none, none] [] σ Q
  refine WP.iconst dX9_thingsAt_0 (by decide) ?_
  refine WP.istore_n (L2 := [some (mr 0), some (mi x1), some (mi 0), none]) dX9_thingsAt_1 (by decide) rfl ?_
  refine WP.iconst dX9_thingsAt_2 (by decide) ?_
  refine WP.istore_n (L2 := [some (mr 0), some (mi x1), some (mi 0), some (mi 0)]) dX9_thingsAt_3 (by decide) rfl ?_
  exact h
set_option maxRecDepth 100000 in
set_option maxHeartbeats 4000000 in
theorem b_X9_thingsAt_0_4 (x1 x2 x3 : Int) {σ : Mem} {Q : Int → Mem → Prop} (h : (σ 0 9 ≤ x3 → Q x2 σ) ∧ (¬ σ 0 9 ≤ x3 → (0 ≤ x3 ∧ x3 < 8) ∧ ((¬ σ 6 x3 = x1 → WP GM M_X9_thingsAt 30 [some (mr 0), some (mi x1), none, some (mi x3)] [mi 0, mi x2] σ Q) ∧ (σ 6 x3 = x1 → WP GM M_X9_thingsAt 30 [some (mr 0), some (mi x1), none, some (mi x3)] [mi (jshl 1 x3), mi x2] σ Q)))) : WP GM M_X9_thingsAt 4 [some (mr 0), some (mi x1), some (mi x2), some (mi x3)] [] σ Q := by
  refine WP.iload_n dX9_thingsAt_4 rfl ?_
  refine WP.aload_n dX9_thingsAt_5 rfl ?_
  refine WP.getI (v := σ 0 9) fd_X9_89 dX9_thingsAt_6 k0 rfl rfl ?_
  refine WP.icmp_ge (tgt := 38) dX9_thingsAt_9 (by decide) (fun q => ?_) (fun q => ?_)
  · have h := h.1 q
    refine WP.iload_n dX9_thingsAt_38 rfl ?_
    exact WP.iret rfl dX9_thingsAt_39 h
  · have h := h.2 q
    refine WP.iload_n dX9_thingsAt_12 rfl ?_
    refine WP.aload_n dX9_thingsAt_13 rfl ?_
    refine WP.getR fd_X9_25 dX9_thingsAt_14 k0 rfl ?_
    refine WP.iload_n dX9_thingsAt_17 rfl ?_
    obtain ⟨hi, h⟩ := h
    refine WP.iald dX9_thingsAt_18 k6 hi ?_
    refine WP.iload_n dX9_thingsAt_19 rfl ?_
    refine WP.icmp_ne (tgt := 29) dX9_thingsAt_20 (by decide) (fun q => ?_) (fun q => ?_)
    · have h := h.1 q
      refine WP.iconst dX9_thingsAt_29 (by decide) ?_
      refine WP.drop 2 (L2 := [some (mr 0), some (mi x1), none, some (mi x3)]) rfl ?_
      exact h
    · have h := h.2 q
      refine WP.iconst dX9_thingsAt_23 (by decide) ?_
      refine WP.iload_n dX9_thingsAt_24 rfl ?_
      refine WP.ishl dX9_thingsAt_25 ?_
      refine WP.goto (tgt := 30) dX9_thingsAt_26 (by decide) ?_
      refine WP.drop 2 (L2 := [some (mr 0), some (mi x1), none, some (mi x3)]) rfl ?_
      exact h
set_option maxRecDepth 100000 in
set_option maxHeartbeats 4000000 in
theorem b_X9_thingsAt_0_30 (x1 x3 s0 s1 : Int) {σ : Mem} {Q : Int → Mem → Prop} (h : WP GM M_X9_thingsAt 4 [some (mr 0), some (mi x1), some (mi (jor s1 s0)), some (mi (jadd x3 1))] [] σ Q) : WP GM M_X9_thingsAt 30 [some (mr 0), some (mi x1), none, some (mi x3)] [mi s0, mi s1] σ Q := by
  refine WP.ior dX9_thingsAt_30 ?_
  refine WP.istore_n (L2 := [some (mr 0), some (mi x1), some (mi (jor s1 s0)), some (mi x3)]) dX9_thingsAt_31 (by decide) rfl ?_
  refine WP.iinc (L2 := [some (mr 0), some (mi x1), some (mi (jor s1 s0)), some (mi (jadd x3 1))]) dX9_thingsAt_32 (by decide) rfl (by decide) rfl ?_
  refine WP.goto (tgt := 4) dX9_thingsAt_35 (by decide) ?_
  exact h
theorem dX9_of_0 : decode cX9_of 0 = .ok (.aload_n 0, 1) := by decide +kernel
theorem dX9_of_1 : decode cX9_of 1 = .ok (.iload_n 1, 1) := by decide +kernel
theorem dX9_of_2 : decode cX9_of 2 = .ok (.invokevirtual 109, 3) := by decide +kernel
theorem dX9_of_5 : decode cX9_of 5 = .ok (.ifCond .eq 15, 3) := by decide +kernel
theorem dX9_of_8 : decode cX9_of 8 = .ok (.iload_n 2, 1) := by decide +kernel
theorem dX9_of_9 : decode cX9_of 9 = .ok (.i2l, 1) := by decide +kernel
theorem dX9_of_10 : decode cX9_of 10 = .ok (.lconst 0, 1) := by decide +kernel
theorem dX9_of_11 : decode cX9_of 11 = .ok (.ldc2_w 112, 3) := by decide +kernel
theorem dX9_of_14 : decode cX9_of 14 = .ok (.invokestatic 82, 3) := by decide +kernel
theorem dX9_of_17 : decode cX9_of 17 = .ok (.ifCond .ne 5, 3) := by decide +kernel
theorem dX9_of_20 : decode cX9_of 20 = .ok (.iconst (-1), 1) := by decide +kernel
theorem dX9_of_21 : decode cX9_of 21 = .ok (.ireturn, 1) := by decide +kernel
theorem dX9_of_22 : decode cX9_of 22 = .ok (.iload_n 2, 1) := by decide +kernel
theorem dX9_of_23 : decode cX9_of 23 = .ok (.iconst 4, 1) := by decide +kernel
theorem dX9_of_24 : decode cX9_of 24 = .ok (.if_icmp .le 33, 3) := by decide +kernel
theorem dX9_of_27 : decode cX9_of 27 = .ok (.iload_n 2, 1) := by decide +kernel
theorem dX9_of_28 : decode cX9_of 28 = .ok (.iconst 5, 1) := by decide +kernel
theorem dX9_of_29 : decode cX9_of 29 = .ok (.isub, 1) := by decide +kernel
theorem dX9_of_30 : decode cX9_of 30 = .ok (.aload_n 0, 1) := by decide +kernel
theorem dX9_of_31 : decode cX9_of 31 = .ok (.getfield 7, 3) := by decide +kernel
theorem dX9_of_34 : decode cX9_of 34 = .ok (.iload_n 1, 1) := by decide +kernel
theorem dX9_of_35 : decode cX9_of 35 = .ok (.iaload, 1) := by decide +kernel
theorem dX9_of_36 : decode cX9_of 36 = .ok (.if_icmp .ge 18, 3) := by decide +kernel
theorem dX9_of_39 : decode cX9_of 39 = .ok (.aload_n 0, 1) := by decide +kernel
theorem dX9_of_40 : decode cX9_of 40 = .ok (.getfield 19, 3) := by decide +kernel
theorem dX9_of_43 : decode cX9_of 43 = .ok (.iconst 4, 1) := by decide +kernel
theorem dX9_of_44 : decode cX9_of 44 = .ok (.iload_n 1, 1) := by decide +kernel
theorem dX9_of_45 : decode cX9_of 45 = .ok (.imul, 1) := by decide +kernel
theorem dX9_of_46 : decode cX9_of 46 = .ok (.iload_n 2, 1) := by decide +kernel
theorem dX9_of_47 : decode cX9_of 47 = .ok (.iadd, 1) := by decide +kernel
theorem dX9_of_48 : decode cX9_of 48 = .ok (.iconst 5, 1) := by decide +kernel
theorem dX9_of_49 : decode cX9_of 49 = .ok (.isub, 1) := by decide +kernel
theorem dX9_of_50 : decode cX9_of 50 = .ok (.iaload, 1) := by decide +kernel
theorem dX9_of_51 : decode cX9_of 51 = .ok (.goto 5, 3) := by decide +kernel
theorem dX9_of_54 : decode cX9_of 54 = .ok (.bipush (-4), 2) := by decide +kernel
theorem dX9_of_56 : decode cX9_of 56 = .ok (.ireturn, 1) := by decide +kernel
theorem dX9_of_57 : decode cX9_of 57 = .ok (.iload_n 2, 1) := by decide +kernel
theorem dX9_of_58 : decode cX9_of 58 = .ok (.ifCond .ne 12, 3) := by decide +kernel
theorem dX9_of_61 : decode cX9_of 61 = .ok (.aload_n 0, 1) := by decide +kernel
theorem dX9_of_62 : decode cX9_of 62 = .ok (.iload_n 1, 1) := by decide +kernel
theorem dX9_of_63 : decode cX9_of 63 = .ok (.iconst 0, 1) := by decide +kernel
theorem dX9_of_64 : decode cX9_of 64 = .ok (.invokevirtual 114, 3) := by decide +kernel
theorem dX9_of_67 : decode cX9_of 67 = .ok (.goto 49, 3) := by decide +kernel
theorem dX9_of_70 : decode cX9_of 70 = .ok (.iload_n 2, 1) := by decide +kernel
theorem dX9_of_71 : decode cX9_of 71 = .ok (.iconst 1, 1) := by decide +kernel
theorem dX9_of_72 : decode cX9_of 72 = .ok (.if_icmp .ne 12, 3) := by decide +kernel
theorem dX9_of_75 : decode cX9_of 75 = .ok (.aload_n 0, 1) := by decide +kernel
theorem dX9_of_76 : decode cX9_of 76 = .ok (.getfield 7, 3) := by decide +kernel
theorem dX9_of_79 : decode cX9_of 79 = .ok (.iload_n 1, 1) := by decide +kernel
theorem dX9_of_80 : decode cX9_of 80 = .ok (.iaload, 1) := by decide +kernel
theorem dX9_of_81 : decode cX9_of 81 = .ok (.goto 35, 3) := by decide +kernel
theorem dX9_of_84 : decode cX9_of 84 = .ok (.iload_n 2, 1) := by decide +kernel
theorem dX9_of_85 : decode cX9_of 85 = .ok (.iconst 2, 1) := by decide +kernel
theorem dX9_of_86 : decode cX9_of 86 = .ok (.if_icmp .ne 12, 3) := by decide +kernel
theorem dX9_of_89 : decode cX9_of 89 = .ok (.aload_n 0, 1) := by decide +kernel
theorem dX9_of_90 : decode cX9_of 90 = .ok (.getfield 16, 3) := by decide +kernel
theorem dX9_of_93 : decode cX9_of 93 = .ok (.iload_n 1, 1) := by decide +kernel
theorem dX9_of_94 : decode cX9_of 94 = .ok (.iaload, 1) := by decide +kernel
theorem dX9_of_95 : decode cX9_of 95 = .ok (.goto 21, 3) := by decide +kernel
theorem dX9_of_98 : decode cX9_of 98 = .ok (.aload_n 0, 1) := by decide +kernel
theorem dX9_of_99 : decode cX9_of 99 = .ok (.iload_n 2, 1) := by decide +kernel
theorem dX9_of_100 : decode cX9_of 100 = .ok (.iconst 3, 1) := by decide +kernel
theorem dX9_of_101 : decode cX9_of 101 = .ok (.if_icmp .ne 8, 3) := by decide +kernel
theorem dX9_of_104 : decode cX9_of 104 = .ok (.bipush 10, 2) := by decide +kernel
theorem dX9_of_106 : decode cX9_of 106 = .ok (.goto 5, 3) := by decide +kernel
theorem dX9_of_109 : decode cX9_of 109 = .ok (.bipush 20, 2) := by decide +kernel
theorem dX9_of_111 : decode cX9_of 111 = .ok (.iload_n 1, 1) := by decide +kernel
theorem dX9_of_112 : decode cX9_of 112 = .ok (.iadd, 1) := by decide +kernel
theorem dX9_of_113 : decode cX9_of 113 = .ok (.invokevirtual 118, 3) := by decide +kernel
theorem dX9_of_116 : decode cX9_of 116 = .ok (.ireturn, 1) := by decide +kernel
set_option maxRecDepth 100000 in
set_option maxHeartbeats 4000000 in
theorem e_X9_of_0 (x1 x2 : Int) {σ : Mem} {Q : Int → Mem → Prop} (h : HT GM M_X9_isCoat [mr 0, mi x1] σ (fun r2 σ2 => (r2 = 0 → Q (-1) σ2) ∧ (¬ r2 = 0 → HT GM M_X9_in [ml x2, ml 0, ml 8] σ2 (fun r14 σ14 => (¬ r14 = 0 → (x2 ≤ 4 → (¬ x2 = 0 → (¬ x2 = 1 → (¬ x2 = 2 → (¬ x2 = 3 → WP GM M_X9_of 111 [none, some (mi x1), none] [mi 20, mr 0] σ14 Q) ∧ (x2 = 3 → WP GM M_X9_of 111 [none, some (mi x1), none] [mi 10, mr 0] σ14 Q)) ∧ (x2 = 2 → (0 ≤ x1 ∧ x1 < 4) ∧ (Q (σ14 3 x1) σ14))) ∧ (x2 = 1 → (0 ≤ x1 ∧ x1 < 4) ∧ (Q (σ14 1 x1) σ14))) ∧ (x2 = 0 → HT GM M_X9_wearer [mr 0, mi x1, mi 0] σ14 (fun r64 σ64 => Q r64 σ64))) ∧ (¬ x2 ≤ 4 → (0 ≤ x1 ∧ x1 < 4) ∧ ((σ14 1 x1 ≤ jsub x2 5 → Q (-4) σ14) ∧ (¬ σ14 1 x1 ≤ jsub x2 5 → (0 ≤ jsub (jadd (jmul 4 x1) x2) 5 ∧ jsub (jadd (jmul 4 x1) x2) 5 < 16) ∧ (Q (σ14 4 (jsub (jadd (jmul 4 x1) x2) 5)) σ14))))) ∧ (r14 = 0 → Q (-1) σ14))))) : HT GM M_X9_of [mr 0, mi x1, mi x2] σ Q := by
  refine HT.of pn_X9 (Nat.le_of_ble_eq_true rfl) ?_
  show WP GM M_X9_of 0 [some (mr 0), some (mi x1), some (mi x2)] [] σ Q
  refine WP.aload_n dX9_of_0 rfl ?_
  refine WP.iload_n dX9_of_1 rfl ?_
  refine WP.callV M_X9_isCoat [mi x1] cv_X9_isCoat dX9_of_2 lk_X9_109 k0 rfl ft_X9_of__X9_isCoat rfl (Nat.le_of_ble_eq_true rfl) (HT.mono h ?_)
  rintro r2 σ2 - - h
  refine WP.if_eq (tgt := 20) dX9_of_5 (by decide) (fun q => ?_) (fun q => ?_)
  · have h := h.1 q
    refine WP.iconst dX9_of_20 (by decide) ?_
    exact WP.iret rfl dX9_of_21 h
  · have h := h.2 q
    refine WP.iload_n dX9_of_8 rfl ?_
    refine WP.i2l dX9_of_9 ?_
    refine WP.lconst (x := 0) dX9_of_10 (by decide) rfl ?_
    refine WP.ldc2 (x := 8) dX9_of_11 ct_X9_112 (by decide) (by decide) ?_
    refine WP.callS M_X9_in [ml x2, ml 0, ml 8] cs_X9_in dX9_of_14 lk_X9_82 ft_X9_of__X9_in rfl (Nat.le_of_ble_eq_true rfl) (HT.mono h ?_)
    rintro r14 σ14 - - h
    refine WP.if_ne (tgt := 22) dX9_of_17 (by decide) (fun q => ?_) (fun q => ?_)
    · have h := h.1 q
      refine WP.iload_n dX9_of_22 rfl ?_
      refine WP.iconst dX9_of_23 (by decide) ?_
      refine WP.icmp_le (tgt := 57) dX9_of_24 (by decide) (fun q => ?_) (fun q => ?_)
      · have h := h.1 q
        refine WP.iload_n dX9_of_57 rfl ?_
        refine WP.if_ne (tgt := 70) dX9_of_58 (by decide) (fun q => ?_) (fun q => ?_)
        · have h := h.1 q
          refine WP.iload_n dX9_of_70 rfl ?_
          refine WP.iconst dX9_of_71 (by decide) ?_
          refine WP.icmp_ne (tgt := 84) dX9_of_72 (by decide) (fun q => ?_) (fun q => ?_)
          · have h := h.1 q
            refine WP.iload_n dX9_of_84 rfl ?_
            refine WP.iconst dX9_of_85 (by decide) ?_
            refine WP.icmp_ne (tgt := 98) dX9_of_86 (by decide) (fun q => ?_) (fun q => ?_)
            · have h := h.1 q
              refine WP.aload_n dX9_of_98 rfl ?_
              refine WP.iload_n dX9_of_99 rfl ?_
              refine WP.iconst dX9_of_100 (by decide) ?_
              refine WP.icmp_ne (tgt := 109) dX9_of_101 (by decide) (fun q => ?_) (fun q => ?_)
              · have h := h.1 q
                refine WP.bipush dX9_of_109 (by decide) bp_20 ?_
                refine WP.drop 0 (L2 := [none, some (mi x1), some (mi x2)]) rfl ?_
                refine WP.drop 2 (L2 := [none, some (mi x1), none]) rfl ?_
                exact h
              · have h := h.2 q
                refine WP.bipush dX9_of_104 (by decide) bp_10 ?_
                refine WP.goto (tgt := 111) dX9_of_106 (by decide) ?_
                refine WP.drop 0 (L2 := [none, some (mi x1), some (mi x2)]) rfl ?_
                refine WP.drop 2 (L2 := [none, some (mi x1), none]) rfl ?_
                exact h
            · have h := h.2 q
              refine WP.aload_n dX9_of_89 rfl ?_
              refine WP.getR fd_X9_16 dX9_of_90 k0 rfl ?_
              refine WP.iload_n dX9_of_93 rfl ?_
              obtain ⟨hi, h⟩ := h
              refine WP.iald dX9_of_94 k3 hi ?_
              refine WP.goto (tgt := 116) dX9_of_95 (by decide) ?_
              exact WP.iret rfl dX9_of_116 h
          · have h := h.2 q
            refine WP.aload_n dX9_of_75 rfl ?_
            refine WP.getR fd_X9_7 dX9_of_76 k0 rfl ?_
            refine WP.iload_n dX9_of_79 rfl ?_
            obtain ⟨hi, h⟩ := h
            refine WP.iald dX9_of_80 k1 hi ?_
            refine WP.goto (tgt := 116) dX9_of_81 (by decide) ?_
            exact WP.iret rfl dX9_of_116 h
        · have h := h.2 q
          refine WP.aload_n dX9_of_61 rfl ?_
          refine WP.iload_n dX9_of_62 rfl ?_
          refine WP.iconst dX9_of_63 (by decide) ?_
          refine WP.callV M_X9_wearer [mi x1, mi 0] cv_X9_wearer dX9_of_64 lk_X9_114 k0 rfl ft_X9_of__X9_wearer rfl (Nat.le_of_ble_eq_true rfl) (HT.mono h ?_)
          rintro r64 σ64 - - h
          refine WP.goto (tgt := 116) dX9_of_67 (by decide) ?_
          exact WP.iret rfl dX9_of_116 h
      · have h := h.2 q
        refine WP.iload_n dX9_of_27 rfl ?_
        refine WP.iconst dX9_of_28 (by decide) ?_
        refine WP.isub dX9_of_29 ?_
        refine WP.aload_n dX9_of_30 rfl ?_
        refine WP.getR fd_X9_7 dX9_of_31 k0 rfl ?_
        refine WP.iload_n dX9_of_34 rfl ?_
        obtain ⟨hi, h⟩ := h
        refine WP.iald dX9_of_35 k1 hi ?_
        refine WP.icmp_ge (tgt := 54) dX9_of_36 (by decide) (fun q => ?_) (fun q => ?_)
        · have h := h.1 q
          refine WP.bipush dX9_of_54 (by decide) bp_m4 ?_
          exact WP.iret rfl dX9_of_56 h
        · have h := h.2 q
          refine WP.aload_n dX9_of_39 rfl ?_
          refine WP.getR fd_X9_19 dX9_of_40 k0 rfl ?_
          refine WP.iconst dX9_of_43 (by decide) ?_
          refine WP.iload_n dX9_of_44 rfl ?_
          refine WP.imul dX9_of_45 ?_
          refine WP.iload_n dX9_of_46 rfl ?_
          refine WP.iadd dX9_of_47 ?_
          refine WP.iconst dX9_of_48 (by decide) ?_
          refine WP.isub dX9_of_49 ?_
          obtain ⟨hi, h⟩ := h
          refine WP.iald dX9_of_50 k4 hi ?_
          refine WP.goto (tgt := 56) dX9_of_51 (by decide) ?_
          exact WP.iret rfl dX9_of_56 h
    · have h := h.2 q
      refine WP.iconst dX9_of_20 (by decide) ?_
      exact WP.iret rfl dX9_of_21 h
set_option maxRecDepth 100000 in
set_option maxHeartbeats 4000000 in
theorem b_X9_of_0_111 (x1 s0 : Int) {σ : Mem} {Q : Int → Mem → Prop} (h : HT GM M_X9_thingsAt [mr 0, mi (jadd s0 x1)] σ (fun r113 σ113 => Q r113 σ113)) : WP GM M_X9_of 111 [none, some (mi x1), none] [mi s0, mr 0] σ Q := by
  refine WP.iload_n dX9_of_111 rfl ?_
  refine WP.iadd dX9_of_112 ?_
  refine WP.callV M_X9_thingsAt [mi (jadd s0 x1)] cv_X9_thingsAt dX9_of_113 lk_X9_118 k0 rfl ft_X9_of__X9_thingsAt rfl (Nat.le_of_ble_eq_true rfl) (HT.mono h ?_)
  rintro r113 σ113 - - h
  exact WP.iret rfl dX9_of_116 h
theorem dX9_hole_0 : decode cX9_hole 0 = .ok (.aload_n 0, 1) := by decide +kernel
theorem dX9_hole_1 : decode cX9_hole 1 = .ok (.iload_n 1, 1) := by decide +kernel
theorem dX9_hole_2 : decode cX9_hole 2 = .ok (.invokevirtual 109, 3) := by decide +kernel
theorem dX9_hole_5 : decode cX9_hole 5 = .ok (.ifCond .eq 15, 3) := by decide +kernel
theorem dX9_hole_8 : decode cX9_hole 8 = .ok (.iload_n 2, 1) := by decide +kernel
theorem dX9_hole_9 : decode cX9_hole 9 = .ok (.i2l, 1) := by decide +kernel
theorem dX9_hole_10 : decode cX9_hole 10 = .ok (.lconst 0, 1) := by decide +kernel
theorem dX9_hole_11 : decode cX9_hole 11 = .ok (.ldc2_w 94, 3) := by decide +kernel
theorem dX9_hole_14 : decode cX9_hole 14 = .ok (.invokestatic 82, 3) := by decide +kernel
theorem dX9_hole_17 : decode cX9_hole 17 = .ok (.ifCond .ne 5, 3) := by decide +kernel
theorem dX9_hole_20 : decode cX9_hole 20 = .ok (.iconst (-1), 1) := by decide +kernel
theorem dX9_hole_21 : decode cX9_hole 21 = .ok (.ireturn, 1) := by decide +kernel
theorem dX9_hole_22 : decode cX9_hole 22 = .ok (.aload_n 0, 1) := by decide +kernel
theorem dX9_hole_23 : decode cX9_hole 23 = .ok (.getfield 16, 3) := by decide +kernel
theorem dX9_hole_26 : decode cX9_hole 26 = .ok (.iload_n 1, 1) := by decide +kernel
theorem dX9_hole_27 : decode cX9_hole 27 = .ok (.iaload, 1) := by decide +kernel
theorem dX9_hole_28 : decode cX9_hole 28 = .ok (.istore_n 3, 1) := by decide +kernel
theorem dX9_hole_29 : decode cX9_hole 29 = .ok (.aload_n 0, 1) := by decide +kernel
theorem dX9_hole_30 : decode cX9_hole 30 = .ok (.getfield 16, 3) := by decide +kernel
theorem dX9_hole_33 : decode cX9_hole 33 = .ok (.iload_n 1, 1) := by decide +kernel
theorem dX9_hole_34 : decode cX9_hole 34 = .ok (.iload_n 2, 1) := by decide +kernel
theorem dX9_hole_35 : decode cX9_hole 35 = .ok (.iastore, 1) := by decide +kernel
theorem dX9_hole_36 : decode cX9_hole 36 = .ok (.iload_n 3, 1) := by decide +kernel
theorem dX9_hole_37 : decode cX9_hole 37 = .ok (.ireturn, 1) := by decide +kernel
set_option maxRecDepth 100000 in
set_option maxHeartbeats 4000000 in
theorem e_X9_hole_0 (x1 x2 : Int) {σ : Mem} {Q : Int → Mem → Prop} (h : HT GM M_X9_isCoat [mr 0, mi x1] σ (fun r2 σ2 => (r2 = 0 → Q (-1) σ2) ∧ (¬ r2 = 0 → HT GM M_X9_in [ml x2, ml 0, ml 3] σ2 (fun r14 σ14 => (¬ r14 = 0 → (0 ≤ x1 ∧ x1 < 4) ∧ ((0 ≤ x1 ∧ x1 < 4) ∧ (Q (σ14 3 x1) (mupd σ14 3 x1 x2)))) ∧ (r14 = 0 → Q (-1) σ14))))) : HT GM M_X9_hole [mr 0, mi x1, mi x2] σ Q := by
  refine HT.of pn_X9 (Nat.le_of_ble_eq_true rfl) ?_
  show WP GM M_X9_hole 0 [some (mr 0), some (mi x1), some (mi x2), none] [] σ Q
  refine WP.aload_n dX9_hole_0 rfl ?_
  refine WP.iload_n dX9_hole_1 rfl ?_
  refine WP.callV M_X9_isCoat [mi x1] cv_X9_isCoat dX9_hole_2 lk_X9_109 k0 rfl ft_X9_hole__X9_isCoat rfl (Nat.le_of_ble_eq_true rfl) (HT.mono h ?_)
  rintro r2 σ2 - - h
  refine WP.if_eq (tgt := 20) dX9_hole_5 (by decide) (fun q => ?_) (fun q => ?_)
  · have h := h.1 q
    refine WP.iconst dX9_hole_20 (by decide) ?_
    exact WP.iret rfl dX9_hole_21 h
  · have h := h.2 q
    refine WP.iload_n dX9_hole_8 rfl ?_
    refine WP.i2l dX9_hole_9 ?_
    refine WP.lconst (x := 0) dX9_hole_10 (by decide) rfl ?_
    refine WP.ldc2 (x := 3) dX9_hole_11 ct_X9_94 (by decide) (by decide) ?_
    refine WP.callS M_X9_in [ml x2, ml 0, ml 3] cs_X9_in dX9_hole_14 lk_X9_82 ft_X9_hole__X9_in rfl (Nat.le_of_ble_eq_true rfl) (HT.mono h ?_)
    rintro r14 σ14 - - h
    refine WP.if_ne (tgt := 22) dX9_hole_17 (by decide) (fun q => ?_) (fun q => ?_)
    · have h := h.1 q
      refine WP.aload_n dX9_hole_22 rfl ?_
      refine WP.getR fd_X9_16 dX9_hole_23 k0 rfl ?_
      refine WP.iload_n dX9_hole_26 rfl ?_
      obtain ⟨hi, h⟩ := h
      refine WP.iald dX9_hole_27 k3 hi ?_
      refine WP.istore_n (L2 := [some (mr 0), some (mi x1), some (mi x2), some (mi (σ14 3 x1))]) dX9_hole_28 (by decide) rfl ?_
      refine WP.aload_n dX9_hole_29 rfl ?_
      refine WP.getR fd_X9_16 dX9_hole_30 k0 rfl ?_
      refine WP.iload_n dX9_hole_33 rfl ?_
      refine WP.iload_n dX9_hole_34 rfl ?_
      obtain ⟨hi, h⟩ := h
      refine WP.iast dX9_hole_35 k3 hi ?_
      refine WP.iload_n dX9_hole_36 rfl ?_
      exact WP.iret rfl dX9_hole_37 h
    · have h := h.2 q
      refine WP.iconst dX9_hole_20 (by decide) ?_
      exact WP.iret rfl dX9_hole_21 h
theorem dX9_type_0 : decode cX9_type 0 = .ok (.iload_n 3, 1) := by decide +kernel
theorem dX9_type_1 : decode cX9_type 1 = .ok (.i2l, 1) := by decide +kernel
theorem dX9_type_2 : decode cX9_type 2 = .ok (.lconst 1, 1) := by decide +kernel
theorem dX9_type_3 : decode cX9_type 3 = .ok (.ldc2_w 112, 3) := by decide +kernel
theorem dX9_type_6 : decode cX9_type 6 = .ok (.invokestatic 82, 3) := by decide +kernel
theorem dX9_type_9 : decode cX9_type 9 = .ok (.ifCond .ne 5, 3) := by decide +kernel
theorem dX9_type_12 : decode cX9_type 12 = .ok (.iconst (-1), 1) := by decide +kernel
theorem dX9_type_13 : decode cX9_type 13 = .ok (.ireturn, 1) := by decide +kernel
theorem dX9_type_14 : decode cX9_type 14 = .ok (.iload_n 3, 1) := by decide +kernel
theorem dX9_type_15 : decode cX9_type 15 = .ok (.iconst 1, 1) := by decide +kernel
theorem dX9_type_16 : decode cX9_type 16 = .ok (.isub, 1) := by decide +kernel
theorem dX9_type_17 : decode cX9_type 17 = .ok (.istore 4, 2) := by decide +kernel
theorem dX9_type_19 : decode cX9_type 19 = .ok (.iload 4, 2) := by decide +kernel
theorem dX9_type_21 : decode cX9_type 21 = .ok (.ifCond .lt 34, 3) := by decide +kernel
theorem dX9_type_24 : decode cX9_type 24 = .ok (.lload_n 1, 1) := by decide +kernel
theorem dX9_type_25 : decode cX9_type 25 = .ok (.bipush 8, 2) := by decide +kernel
theorem dX9_type_27 : decode cX9_type 27 = .ok (.iload 4, 2) := by decide +kernel
theorem dX9_type_29 : decode cX9_type 29 = .ok (.imul, 1) := by decide +kernel
theorem dX9_type_30 : decode cX9_type 30 = .ok (.lshr, 1) := by decide +kernel
theorem dX9_type_31 : decode cX9_type 31 = .ok (.ldc2_w 132, 3) := by decide +kernel
theorem dX9_type_34 : decode cX9_type 34 = .ok (.land, 1) := by decide +kernel
theorem dX9_type_35 : decode cX9_type 35 = .ok (.ldc2_w 134, 3) := by decide +kernel
theorem dX9_type_38 : decode cX9_type 38 = .ok (.ldc2_w 136, 3) := by decide +kernel
theorem dX9_type_41 : decode cX9_type 41 = .ok (.invokestatic 82, 3) := by decide +kernel
theorem dX9_type_44 : decode cX9_type 44 = .ok (.ifCond .ne 5, 3) := by decide +kernel
theorem dX9_type_47 : decode cX9_type 47 = .ok (.iconst (-1), 1) := by decide +kernel
theorem dX9_type_48 : decode cX9_type 48 = .ok (.ireturn, 1) := by decide +kernel
theorem dX9_type_49 : decode cX9_type 49 = .ok (.iinc 4 (-1), 3) := by decide +kernel
theorem dX9_type_52 : decode cX9_type 52 = .ok (.goto (-33), 3) := by decide +kernel
theorem dX9_type_55 : decode cX9_type 55 = .ok (.aload_n 0, 1) := by decide +kernel
theorem dX9_type_56 : decode cX9_type 56 = .ok (.getfield 138, 3) := by decide +kernel
theorem dX9_type_59 : decode cX9_type 59 = .ok (.iload_n 3, 1) := by decide +kernel
theorem dX9_type_60 : decode cX9_type 60 = .ok (.iadd, 1) := by decide +kernel
theorem dX9_type_61 : decode cX9_type 61 = .ok (.bipush 100, 2) := by decide +kernel
theorem dX9_type_63 : decode cX9_type 63 = .ok (.if_icmp .le 6, 3) := by decide +kernel
theorem dX9_type_66 : decode cX9_type 66 = .ok (.bipush (-3), 2) := by decide +kernel
theorem dX9_type_68 : decode cX9_type 68 = .ok (.ireturn, 1) := by decide +kernel
theorem dX9_type_69 : decode cX9_type 69 = .ok (.iload_n 3, 1) := by decide +kernel
theorem dX9_type_70 : decode cX9_type 70 = .ok (.iconst 1, 1) := by decide +kernel
theorem dX9_type_71 : decode cX9_type 71 = .ok (.isub, 1) := by decide +kernel
theorem dX9_type_72 : decode cX9_type 72 = .ok (.istore 4, 2) := by decide +kernel
theorem dX9_type_74 : decode cX9_type 74 = .ok (.iload 4, 2) := by decide +kernel
theorem dX9_type_76 : decode cX9_type 76 = .ok (.ifCond .lt 40, 3) := by decide +kernel
theorem dX9_type_79 : decode cX9_type 79 = .ok (.aload_n 0, 1) := by decide +kernel
theorem dX9_type_80 : decode cX9_type 80 = .ok (.getfield 41, 3) := by decide +kernel
theorem dX9_type_83 : decode cX9_type 83 = .ok (.aload_n 0, 1) := by decide +kernel
theorem dX9_type_84 : decode cX9_type 84 = .ok (.getfield 138, 3) := by decide +kernel
theorem dX9_type_87 : decode cX9_type 87 = .ok (.lload_n 1, 1) := by decide +kernel
theorem dX9_type_88 : decode cX9_type 88 = .ok (.bipush 8, 2) := by decide +kernel
theorem dX9_type_90 : decode cX9_type 90 = .ok (.iload 4, 2) := by decide +kernel
theorem dX9_type_92 : decode cX9_type 92 = .ok (.imul, 1) := by decide +kernel
theorem dX9_type_93 : decode cX9_type 93 = .ok (.lshr, 1) := by decide +kernel
theorem dX9_type_94 : decode cX9_type 94 = .ok (.ldc2_w 132, 3) := by decide +kernel
theorem dX9_type_97 : decode cX9_type 97 = .ok (.land, 1) := by decide +kernel
theorem dX9_type_98 : decode cX9_type 98 = .ok (.l2i, 1) := by decide +kernel
theorem dX9_type_99 : decode cX9_type 99 = .ok (.iastore, 1) := by decide +kernel
theorem dX9_type_100 : decode cX9_type 100 = .ok (.aload_n 0, 1) := by decide +kernel
theorem dX9_type_101 : decode cX9_type 101 = .ok (.dup, 1) := by decide +kernel
theorem dX9_type_102 : decode cX9_type 102 = .ok (.getfield 138, 3) := by decide +kernel
theorem dX9_type_105 : decode cX9_type 105 = .ok (.iconst 1, 1) := by decide +kernel
theorem dX9_type_106 : decode cX9_type 106 = .ok (.iadd, 1) := by decide +kernel
theorem dX9_type_107 : decode cX9_type 107 = .ok (.putfield 138, 3) := by decide +kernel
theorem dX9_type_110 : decode cX9_type 110 = .ok (.iinc 4 (-1), 3) := by decide +kernel
theorem dX9_type_113 : decode cX9_type 113 = .ok (.goto (-39), 3) := by decide +kernel
theorem dX9_type_116 : decode cX9_type 116 = .ok (.aload_n 0, 1) := by decide +kernel
theorem dX9_type_117 : decode cX9_type 117 = .ok (.getfield 138, 3) := by decide +kernel
theorem dX9_type_120 : decode cX9_type 120 = .ok (.ireturn, 1) := by decide +kernel
set_option maxRecDepth 100000 in
set_option maxHeartbeats 4000000 in
theorem e_X9_type_0 (y1 x3 : Int) {σ : Mem} {Q : Int → Mem → Prop} (h : HT GM M_X9_in [ml x3, ml 1, ml 8] σ (fun r6 σ6 => (¬ r6 = 0 → WP GM M_X9_type 19 [some (mr 0), some (ml y1), none, some (mi x3), some (mi (jsub x3 1))] [] σ6 Q) ∧ (r6 = 0 → Q (-1) σ6))) : HT GM M_X9_type [mr 0, ml y1, mi x3] σ Q := by
  refine HT.of pn_X9 (Nat.le_of_ble_eq_true rfl) ?_
  show WP GM M_X9_type 0 [some (mr 0), some (ml y1), none, some (mi x3), none] [] σ Q
  refine WP.iload_n dX9_type_0 rfl ?_
  refine WP.i2l dX9_type_1 ?_
  refine WP.lconst (x := 1) dX9_type_2 (by decide) rfl ?_
  refine WP.ldc2 (x := 8) dX9_type_3 ct_X9_112 (by decide) (by decide) ?_
  refine WP.callS M_X9_in [ml x3, ml 1, ml 8] cs_X9_in dX9_type_6 lk_X9_82 ft_X9_type__X9_in rfl (Nat.le_of_ble_eq_true rfl) (HT.mono h ?_)
  rintro r6 σ6 - - h
  refine WP.if_ne (tgt := 14) dX9_type_9 (by decide) (fun q => ?_) (fun q => ?_)
  · have h := h.1 q
    refine WP.iload_n dX9_type_14 rfl ?_
    refine WP.iconst dX9_type_15 (by decide) ?_
    refine WP.isub dX9_type_16 ?_
    refine WP.istore (L2 := [some (mr 0), some (ml y1), none, some (mi x3), some (mi (jsub x3 1))]) dX9_type_17 (by decide) rfl ?_
    exact h
  · have h := h.2 q
    refine WP.iconst dX9_type_12 (by decide) ?_
    exact WP.iret rfl dX9_type_13 h
set_option maxRecDepth 100000 in
set_option maxHeartbeats 4000000 in
theorem b_X9_type_0_19 (y1 x3 x4 : Int) {σ : Mem} {Q : Int → Mem → Prop} (h : (x4 < 0 → (jadd (σ 0 14) x3 ≤ 100 → WP GM M_X9_type 74 [some (mr 0), some (ml y1), none, none, some (mi (jsub x3 1))] [] σ Q) ∧ (¬ jadd (σ 0 14) x3 ≤ 100 → Q (-3) σ)) ∧ (¬ x4 < 0 → HT GM M_X9_in [ml (jland (jlshr y1 (jmul 8 x4)) 255), ml 32, ml 126] σ (fun r41 σ41 => (¬ r41 = 0 → WP GM M_X9_type 19 [some (mr 0), some (ml y1), none, some (mi x3), some (mi (jadd x4 (-1)))] [] σ41 Q) ∧ (r41 = 0 → Q (-1) σ41)))) : WP GM M_X9_type 19 [some (mr 0), some (ml y1), none, some (mi x3), some (mi x4)] [] σ Q := by
  refine WP.iload dX9_type_19 rfl ?_
  refine WP.if_lt (tgt := 55) dX9_type_21 (by decide) (fun q => ?_) (fun q => ?_)
  · have h := h.1 q
    refine WP.aload_n dX9_type_55 rfl ?_
    refine WP.getI (v := σ 0 14) fd_X9_138 dX9_type_56 k0 rfl rfl ?_
    refine WP.iload_n dX9_type_59 rfl ?_
    refine WP.iadd dX9_type_60 ?_
    refine WP.bipush dX9_type_61 (by decide) bp_100 ?_
    refine WP.icmp_le (tgt := 69) dX9_type_63 (by decide) (fun q => ?_) (fun q => ?_)
    · have h := h.1 q
      refine WP.iload_n dX9_type_69 rfl ?_
      refine WP.iconst dX9_type_70 (by decide) ?_
      refine WP.isub dX9_type_71 ?_
      refine WP.istore (L2 := [some (mr 0), some (ml y1), none, some (mi x3), some (mi (jsub x3 1))]) dX9_type_72 (by decide) rfl ?_
      refine WP.drop 3 (L2 := [some (mr 0), some (ml y1), none, none, some (mi (jsub x3 1))]) rfl ?_
      exact h
    · have h := h.2 q
      refine WP.bipush dX9_type_66 (by decide) bp_m3 ?_
      exact WP.iret rfl dX9_type_68 h
  · have h := h.2 q
    refine WP.lload_n dX9_type_24 rfl ?_
    refine WP.bipush dX9_type_25 (by decide) bp_8 ?_
    refine WP.iload dX9_type_27 rfl ?_
    refine WP.imul dX9_type_29 ?_
    refine WP.lshr dX9_type_30 ?_
    refine WP.ldc2 (x := 255) dX9_type_31 ct_X9_132 (by decide) (by decide) ?_
    refine WP.land dX9_type_34 ?_
    refine WP.ldc2 (x := 32) dX9_type_35 ct_X9_134 (by decide) (by decide) ?_
    refine WP.ldc2 (x := 126) dX9_type_38 ct_X9_136 (by decide) (by decide) ?_
    refine WP.callS M_X9_in [ml (jland (jlshr y1 (jmul 8 x4)) 255), ml 32, ml 126] cs_X9_in dX9_type_41 lk_X9_82 ft_X9_type__X9_in rfl (Nat.le_of_ble_eq_true rfl) (HT.mono h ?_)
    rintro r41 σ41 - - h
    refine WP.if_ne (tgt := 49) dX9_type_44 (by decide) (fun q => ?_) (fun q => ?_)
    · have h := h.1 q
      refine WP.iinc (L2 := [some (mr 0), some (ml y1), none, some (mi x3), some (mi (jadd x4 (-1)))]) dX9_type_49 (by decide) rfl (by decide) rfl ?_
      refine WP.goto (tgt := 19) dX9_type_52 (by decide) ?_
      exact h
    · have h := h.2 q
      refine WP.iconst dX9_type_47 (by decide) ?_
      exact WP.iret rfl dX9_type_48 h
set_option maxRecDepth 100000 in
set_option maxHeartbeats 4000000 in
theorem b_X9_type_0_74 (y1 x4 : Int) {σ : Mem} {Q : Int → Mem → Prop} (h : (x4 < 0 → Q (σ 0 14) σ) ∧ (¬ x4 < 0 → (0 ≤ σ 0 14 ∧ σ 0 14 < 100) ∧ (WP GM M_X9_type 74 [some (mr 0), some (ml y1), none, none, some (mi (jadd x4 (-1)))] [] (mupd (mupd σ 10 (σ 0 14) (jl2i (jland (jlshr y1 (jmul 8 x4)) 255))) 0 14 (jadd (σ 0 14) 1)) Q))) : WP GM M_X9_type 74 [some (mr 0), some (ml y1), none, none, some (mi x4)] [] σ Q := by
  refine WP.iload dX9_type_74 rfl ?_
  refine WP.if_lt (tgt := 116) dX9_type_76 (by decide) (fun q => ?_) (fun q => ?_)
  · have h := h.1 q
    refine WP.aload_n dX9_type_116 rfl ?_
    refine WP.getI (v := σ 0 14) fd_X9_138 dX9_type_117 k0 rfl rfl ?_
    exact WP.iret rfl dX9_type_120 h
  · have h := h.2 q
    refine WP.aload_n dX9_type_79 rfl ?_
    refine WP.getR fd_X9_41 dX9_type_80 k0 rfl ?_
    refine WP.aload_n dX9_type_83 rfl ?_
    refine WP.getI (v := σ 0 14) fd_X9_138 dX9_type_84 k0 rfl rfl ?_
    refine WP.lload_n dX9_type_87 rfl ?_
    refine WP.bipush dX9_type_88 (by decide) bp_8 ?_
    refine WP.iload dX9_type_90 rfl ?_
    refine WP.imul dX9_type_92 ?_
    refine WP.lshr dX9_type_93 ?_
    refine WP.ldc2 (x := 255) dX9_type_94 ct_X9_132 (by decide) (by decide) ?_
    refine WP.land dX9_type_97 ?_
    refine WP.l2i dX9_type_98 ?_
    obtain ⟨hi, h⟩ := h
    refine WP.iast dX9_type_99 k10 hi ?_
    refine WP.aload_n dX9_type_100 rfl ?_
    refine WP.dup dX9_type_101 rfl ?_
    refine WP.getI (v := σ 0 14) fd_X9_138 dX9_type_102 k0 rfl (mupd_rp (by decide)) ?_
    refine WP.iconst dX9_type_105 (by decide) ?_
    refine WP.iadd dX9_type_106 ?_
    refine WP.put fp_X9_138 dX9_type_107 k0 rfl rfl rfl ?_
    refine WP.iinc (L2 := [some (mr 0), some (ml y1), none, none, some (mi (jadd x4 (-1)))]) dX9_type_110 (by decide) rfl (by decide) rfl ?_
    refine WP.goto (tgt := 74) dX9_type_113 (by decide) ?_
    exact h
theorem dX9_nextByte_0 : decode cX9_nextByte 0 = .ok (.aload_n 0, 1) := by decide +kernel
theorem dX9_nextByte_1 : decode cX9_nextByte 1 = .ok (.getfield 141, 3) := by decide +kernel
theorem dX9_nextByte_4 : decode cX9_nextByte 4 = .ok (.aload_n 0, 1) := by decide +kernel
theorem dX9_nextByte_5 : decode cX9_nextByte 5 = .ok (.getfield 138, 3) := by decide +kernel
theorem dX9_nextByte_8 : decode cX9_nextByte 8 = .ok (.if_icmp .ge 30, 3) := by decide +kernel
theorem dX9_nextByte_11 : decode cX9_nextByte 11 = .ok (.aload_n 0, 1) := by decide +kernel
theorem dX9_nextByte_12 : decode cX9_nextByte 12 = .ok (.getfield 41, 3) := by decide +kernel
theorem dX9_nextByte_15 : decode cX9_nextByte 15 = .ok (.aload_n 0, 1) := by decide +kernel
theorem dX9_nextByte_16 : decode cX9_nextByte 16 = .ok (.getfield 141, 3) := by decide +kernel
theorem dX9_nextByte_19 : decode cX9_nextByte 19 = .ok (.iaload, 1) := by decide +kernel
theorem dX9_nextByte_20 : decode cX9_nextByte 20 = .ok (.bipush 32, 2) := by decide +kernel
theorem dX9_nextByte_22 : decode cX9_nextByte 22 = .ok (.if_icmp .ne 16, 3) := by decide +kernel
theorem dX9_nextByte_25 : decode cX9_nextByte 25 = .ok (.aload_n 0, 1) := by decide +kernel
theorem dX9_nextByte_26 : decode cX9_nextByte 26 = .ok (.dup, 1) := by decide +kernel
theorem dX9_nextByte_27 : decode cX9_nextByte 27 = .ok (.getfield 141, 3) := by decide +kernel
theorem dX9_nextByte_30 : decode cX9_nextByte 30 = .ok (.iconst 1, 1) := by decide +kernel
theorem dX9_nextByte_31 : decode cX9_nextByte 31 = .ok (.iadd, 1) := by decide +kernel
theorem dX9_nextByte_32 : decode cX9_nextByte 32 = .ok (.putfield 141, 3) := by decide +kernel
theorem dX9_nextByte_35 : decode cX9_nextByte 35 = .ok (.goto (-35), 3) := by decide +kernel
theorem dX9_nextByte_38 : decode cX9_nextByte 38 = .ok (.aload_n 0, 1) := by decide +kernel
theorem dX9_nextByte_39 : decode cX9_nextByte 39 = .ok (.getfield 141, 3) := by decide +kernel
theorem dX9_nextByte_42 : decode cX9_nextByte 42 = .ok (.aload_n 0, 1) := by decide +kernel
theorem dX9_nextByte_43 : decode cX9_nextByte 43 = .ok (.getfield 138, 3) := by decide +kernel
theorem dX9_nextByte_46 : decode cX9_nextByte 46 = .ok (.if_icmp .ge 15, 3) := by decide +kernel
theorem dX9_nextByte_49 : decode cX9_nextByte 49 = .ok (.aload_n 0, 1) := by decide +kernel
theorem dX9_nextByte_50 : decode cX9_nextByte 50 = .ok (.getfield 41, 3) := by decide +kernel
theorem dX9_nextByte_53 : decode cX9_nextByte 53 = .ok (.aload_n 0, 1) := by decide +kernel
theorem dX9_nextByte_54 : decode cX9_nextByte 54 = .ok (.getfield 141, 3) := by decide +kernel
theorem dX9_nextByte_57 : decode cX9_nextByte 57 = .ok (.iaload, 1) := by decide +kernel
theorem dX9_nextByte_58 : decode cX9_nextByte 58 = .ok (.goto 4, 3) := by decide +kernel
theorem dX9_nextByte_61 : decode cX9_nextByte 61 = .ok (.iconst (-1), 1) := by decide +kernel
theorem dX9_nextByte_62 : decode cX9_nextByte 62 = .ok (.ireturn, 1) := by decide +kernel
set_option maxRecDepth 100000 in
set_option maxHeartbeats 4000000 in
theorem e_X9_nextByte_0 {σ : Mem} {Q : Int → Mem → Prop} (h : (σ 0 14 ≤ σ 0 15 → WP GM M_X9_nextByte 38 [some (mr 0)] [] σ Q) ∧ (¬ σ 0 14 ≤ σ 0 15 → (0 ≤ σ 0 15 ∧ σ 0 15 < 100) ∧ ((¬ σ 10 (σ 0 15) = 32 → WP GM M_X9_nextByte 38 [some (mr 0)] [] σ Q) ∧ (σ 10 (σ 0 15) = 32 → WP GM M_X9_nextByte 0 [some (mr 0)] [] (mupd σ 0 15 (jadd (σ 0 15) 1)) Q)))) : HT GM M_X9_nextByte [mr 0] σ Q := by
  refine HT.of pn_X9 (Nat.le_of_ble_eq_true rfl) ?_
  show WP GM M_X9_nextByte 0 [some (mr 0)] [] σ Q
  refine WP.aload_n dX9_nextByte_0 rfl ?_
  refine WP.getI (v := σ 0 15) fd_X9_141 dX9_nextByte_1 k0 rfl rfl ?_
  refine WP.aload_n dX9_nextByte_4 rfl ?_
  refine WP.getI (v := σ 0 14) fd_X9_138 dX9_nextByte_5 k0 rfl rfl ?_
  refine WP.icmp_ge (tgt := 38) dX9_nextByte_8 (by decide) (fun q => ?_) (fun q => ?_)
  · have h := h.1 q
    exact h
  · have h := h.2 q
    refine WP.aload_n dX9_nextByte_11 rfl ?_
    refine WP.getR fd_X9_41 dX9_nextByte_12 k0 rfl ?_
    refine WP.aload_n dX9_nextByte_15 rfl ?_
    refine WP.getI (v := σ 0 15) fd_X9_141 dX9_nextByte_16 k0 rfl rfl ?_
    obtain ⟨hi, h⟩ := h
    refine WP.iald dX9_nextByte_19 k10 hi ?_
    refine WP.bipush dX9_nextByte_20 (by decide) bp_32 ?_
    refine WP.icmp_ne (tgt := 38) dX9_nextByte_22 (by decide) (fun q => ?_) (fun q => ?_)
    · have h := h.1 q
      exact h
    · have h := h.2 q
      refine WP.aload_n dX9_nextByte_25 rfl ?_
      refine WP.dup dX9_nextByte_26 rfl ?_
      refine WP.getI (v := σ 0 15) fd_X9_141 dX9_nextByte_27 k0 rfl rfl ?_
      refine WP.iconst dX9_nextByte_30 (by decide) ?_
      refine WP.iadd dX9_nextByte_31 ?_
      refine WP.put fp_X9_141 dX9_nextByte_32 k0 rfl rfl rfl ?_
      refine WP.goto (tgt := 0) dX9_nextByte_35 (by decide) ?_
      exact h
set_option maxRecDepth 100000 in
set_option maxHeartbeats 4000000 in
theorem b_X9_nextByte_0_0 {σ : Mem} {Q : Int → Mem → Prop} (h : (σ 0 14 ≤ σ 0 15 → WP GM M_X9_nextByte 38 [some (mr 0)] [] σ Q) ∧ (¬ σ 0 14 ≤ σ 0 15 → (0 ≤ σ 0 15 ∧ σ 0 15 < 100) ∧ ((¬ σ 10 (σ 0 15) = 32 → WP GM M_X9_nextByte 38 [some (mr 0)] [] σ Q) ∧ (σ 10 (σ 0 15) = 32 → WP GM M_X9_nextByte 0 [some (mr 0)] [] (mupd σ 0 15 (jadd (σ 0 15) 1)) Q)))) : WP GM M_X9_nextByte 0 [some (mr 0)] [] σ Q := by
  refine WP.aload_n dX9_nextByte_0 rfl ?_
  refine WP.getI (v := σ 0 15) fd_X9_141 dX9_nextByte_1 k0 rfl rfl ?_
  refine WP.aload_n dX9_nextByte_4 rfl ?_
  refine WP.getI (v := σ 0 14) fd_X9_138 dX9_nextByte_5 k0 rfl rfl ?_
  refine WP.icmp_ge (tgt := 38) dX9_nextByte_8 (by decide) (fun q => ?_) (fun q => ?_)
  · have h := h.1 q
    exact h
  · have h := h.2 q
    refine WP.aload_n dX9_nextByte_11 rfl ?_
    refine WP.getR fd_X9_41 dX9_nextByte_12 k0 rfl ?_
    refine WP.aload_n dX9_nextByte_15 rfl ?_
    refine WP.getI (v := σ 0 15) fd_X9_141 dX9_nextByte_16 k0 rfl rfl ?_
    obtain ⟨hi, h⟩ := h
    refine WP.iald dX9_nextByte_19 k10 hi ?_
    refine WP.bipush dX9_nextByte_20 (by decide) bp_32 ?_
    refine WP.icmp_ne (tgt := 38) dX9_nextByte_22 (by decide) (fun q => ?_) (fun q => ?_)
    · have h := h.1 q
      exact h
    · have h := h.2 q
      refine WP.aload_n dX9_nextByte_25 rfl ?_
      refine WP.dup dX9_nextByte_26 rfl ?_
      refine WP.getI (v := σ 0 15) fd_X9_141 dX9_nextByte_27 k0 rfl rfl ?_
      refine WP.iconst dX9_nextByte_30 (by decide) ?_
      refine WP.iadd dX9_nextByte_31 ?_
      refine WP.put fp_X9_141 dX9_nextByte_32 k0 rfl rfl rfl ?_
      refine WP.goto (tgt := 0) dX9_nextByte_35 (by decide) ?_
      exact h
set_option maxRecDepth 100000 in
set_option maxHeartbeats 4000000 in
theorem b_X9_nextByte_0_38 {σ : Mem} {Q : Int → Mem → Prop} (h : (σ 0 14 ≤ σ 0 15 → Q (-1) σ) ∧ (¬ σ 0 14 ≤ σ 0 15 → (0 ≤ σ 0 15 ∧ σ 0 15 < 100) ∧ (Q (σ 10 (σ 0 15)) σ))) : WP GM M_X9_nextByte 38 [some (mr 0)] [] σ Q := by
  refine WP.aload_n dX9_nextByte_38 rfl ?_
  refine WP.getI (v := σ 0 15) fd_X9_141 dX9_nextByte_39 k0 rfl rfl ?_
  refine WP.aload_n dX9_nextByte_42 rfl ?_
  refine WP.getI (v := σ 0 14) fd_X9_138 dX9_nextByte_43 k0 rfl rfl ?_
  refine WP.icmp_ge (tgt := 61) dX9_nextByte_46 (by decide) (fun q => ?_) (fun q => ?_)
  · have h := h.1 q
    refine WP.iconst dX9_nextByte_61 (by decide) ?_
    exact WP.iret rfl dX9_nextByte_62 h
  · have h := h.2 q
    refine WP.aload_n dX9_nextByte_49 rfl ?_
    refine WP.getR fd_X9_41 dX9_nextByte_50 k0 rfl ?_
    refine WP.aload_n dX9_nextByte_53 rfl ?_
    refine WP.getI (v := σ 0 15) fd_X9_141 dX9_nextByte_54 k0 rfl rfl ?_
    obtain ⟨hi, h⟩ := h
    refine WP.iald dX9_nextByte_57 k10 hi ?_
    refine WP.goto (tgt := 62) dX9_nextByte_58 (by decide) ?_
    exact WP.iret rfl dX9_nextByte_62 h
theorem dX9_readDigit_0 : decode cX9_readDigit 0 = .ok (.aload_n 0, 1) := by decide +kernel
theorem dX9_readDigit_1 : decode cX9_readDigit 1 = .ok (.invokevirtual 144, 3) := by decide +kernel
theorem dX9_readDigit_4 : decode cX9_readDigit 4 = .ok (.bipush 48, 2) := by decide +kernel
theorem dX9_readDigit_6 : decode cX9_readDigit 6 = .ok (.isub, 1) := by decide +kernel
theorem dX9_readDigit_7 : decode cX9_readDigit 7 = .ok (.istore_n 2, 1) := by decide +kernel
theorem dX9_readDigit_8 : decode cX9_readDigit 8 = .ok (.iload_n 2, 1) := by decide +kernel
theorem dX9_readDigit_9 : decode cX9_readDigit 9 = .ok (.i2l, 1) := by decide +kernel
theorem dX9_readDigit_10 : decode cX9_readDigit 10 = .ok (.lconst 0, 1) := by decide +kernel
theorem dX9_readDigit_11 : decode cX9_readDigit 11 = .ok (.iload_n 1, 1) := by decide +kernel
theorem dX9_readDigit_12 : decode cX9_readDigit 12 = .ok (.i2l, 1) := by decide +kernel
theorem dX9_readDigit_13 : decode cX9_readDigit 13 = .ok (.invokestatic 82, 3) := by decide +kernel
theorem dX9_readDigit_16 : decode cX9_readDigit 16 = .ok (.ifCond .ne 5, 3) := by decide +kernel
theorem dX9_readDigit_19 : decode cX9_readDigit 19 = .ok (.iconst (-1), 1) := by decide +kernel
theorem dX9_readDigit_20 : decode cX9_readDigit 20 = .ok (.ireturn, 1) := by decide +kernel
theorem dX9_readDigit_21 : decode cX9_readDigit 21 = .ok (.aload_n 0, 1) := by decide +kernel
theorem dX9_readDigit_22 : decode cX9_readDigit 22 = .ok (.dup, 1) := by decide +kernel
theorem dX9_readDigit_23 : decode cX9_readDigit 23 = .ok (.getfield 141, 3) := by decide +kernel
theorem dX9_readDigit_26 : decode cX9_readDigit 26 = .ok (.iconst 1, 1) := by decide +kernel
theorem dX9_readDigit_27 : decode cX9_readDigit 27 = .ok (.iadd, 1) := by decide +kernel
theorem dX9_readDigit_28 : decode cX9_readDigit 28 = .ok (.putfield 141, 3) := by decide +kernel
theorem dX9_readDigit_31 : decode cX9_readDigit 31 = .ok (.iload_n 2, 1) := by decide +kernel
theorem dX9_readDigit_32 : decode cX9_readDigit 32 = .ok (.ireturn, 1) := by decide +kernel
set_option maxRecDepth 100000 in
set_option maxHeartbeats 4000000 in
theorem e_X9_readDigit_0 (x1 : Int) {σ : Mem} {Q : Int → Mem → Prop} (h : HT GM M_X9_nextByte [mr 0] σ (fun r1 σ1 => HT GM M_X9_in [ml (jsub r1 48), ml 0, ml x1] σ1 (fun r13 σ13 => (¬ r13 = 0 → Q (jsub r1 48) (mupd σ13 0 15 (jadd (σ13 0 15) 1))) ∧ (r13 = 0 → Q (-1) σ13)))) : HT GM M_X9_readDigit [mr 0, mi x1] σ Q := by
  refine HT.of pn_X9 (Nat.le_of_ble_eq_true rfl) ?_
  show WP GM M_X9_readDigit 0 [some (mr 0), some (mi x1), none] [] σ Q
  refine WP.aload_n dX9_readDigit_0 rfl ?_
  refine WP.callV M_X9_nextByte [] cv_X9_nextByte dX9_readDigit_1 lk_X9_144 k0 rfl ft_X9_readDigit__X9_nextByte rfl (Nat.le_of_ble_eq_true rfl) (HT.mono h ?_)
  rintro r1 σ1 - - h
  refine WP.bipush dX9_readDigit_4 (by decide) bp_48 ?_
  refine WP.isub dX9_readDigit_6 ?_
  refine WP.istore_n (L2 := [some (mr 0), some (mi x1), some (mi (jsub r1 48))]) dX9_readDigit_7 (by decide) rfl ?_
  refine WP.iload_n dX9_readDigit_8 rfl ?_
  refine WP.i2l dX9_readDigit_9 ?_
  refine WP.lconst (x := 0) dX9_readDigit_10 (by decide) rfl ?_
  refine WP.iload_n dX9_readDigit_11 rfl ?_
  refine WP.i2l dX9_readDigit_12 ?_
  refine WP.callS M_X9_in [ml (jsub r1 48), ml 0, ml x1] cs_X9_in dX9_readDigit_13 lk_X9_82 ft_X9_readDigit__X9_in rfl (Nat.le_of_ble_eq_true rfl) (HT.mono h ?_)
  rintro r13 σ13 - - h
  refine WP.if_ne (tgt := 21) dX9_readDigit_16 (by decide) (fun q => ?_) (fun q => ?_)
  · have h := h.1 q
    refine WP.aload_n dX9_readDigit_21 rfl ?_
    refine WP.dup dX9_readDigit_22 rfl ?_
    refine WP.getI (v := σ13 0 15) fd_X9_141 dX9_readDigit_23 k0 rfl rfl ?_
    refine WP.iconst dX9_readDigit_26 (by decide) ?_
    refine WP.iadd dX9_readDigit_27 ?_
    refine WP.put fp_X9_141 dX9_readDigit_28 k0 rfl rfl rfl ?_
    refine WP.iload_n dX9_readDigit_31 rfl ?_
    exact WP.iret rfl dX9_readDigit_32 h
  · have h := h.2 q
    refine WP.iconst dX9_readDigit_19 (by decide) ?_
    exact WP.iret rfl dX9_readDigit_20 h
theorem dX9_has_0 : decode cX9_has 0 = .ok (.iload_n 0, 1) := by decide +kernel
theorem dX9_has_1 : decode cX9_has 1 = .ok (.iload_n 1, 1) := by decide +kernel
theorem dX9_has_2 : decode cX9_has 2 = .ok (.ishr, 1) := by decide +kernel
theorem dX9_has_3 : decode cX9_has 3 = .ok (.iconst 1, 1) := by decide +kernel
theorem dX9_has_4 : decode cX9_has 4 = .ok (.iand, 1) := by decide +kernel
theorem dX9_has_5 : decode cX9_has 5 = .ok (.iconst 1, 1) := by decide +kernel
theorem dX9_has_6 : decode cX9_has 6 = .ok (.if_icmp .ne 7, 3) := by decide +kernel
theorem dX9_has_9 : decode cX9_has 9 = .ok (.iconst 1, 1) := by decide +kernel
theorem dX9_has_10 : decode cX9_has 10 = .ok (.goto 4, 3) := by decide +kernel
theorem dX9_has_13 : decode cX9_has 13 = .ok (.iconst 0, 1) := by decide +kernel
theorem dX9_has_14 : decode cX9_has 14 = .ok (.ireturn, 1) := by decide +kernel
set_option maxRecDepth 100000 in
set_option maxHeartbeats 4000000 in
theorem e_X9_has (x0 x1 : Int) {σ : Mem} {Q : Int → Mem → Prop} (h : (¬ jand (jshr x0 x1) 1 = 1 → Q 0 σ) ∧ (jand (jshr x0 x1) 1 = 1 → Q 1 σ)) : HT GM M_X9_has [mi x0, mi x1] σ Q := by
  refine HT.of pn_X9 (Nat.le_of_ble_eq_true rfl) ?_
  show WP GM M_X9_has 0 [some (mi x0), some (mi x1)] [] σ Q
  refine WP.iload_n dX9_has_0 rfl ?_
  refine WP.iload_n dX9_has_1 rfl ?_
  refine WP.ishr dX9_has_2 ?_
  refine WP.iconst dX9_has_3 (by decide) ?_
  refine WP.iand dX9_has_4 ?_
  refine WP.iconst dX9_has_5 (by decide) ?_
  refine WP.icmp_ne (tgt := 13) dX9_has_6 (by decide) (fun q => ?_) (fun q => ?_)
  · have h := h.1 q
    refine WP.iconst dX9_has_13 (by decide) ?_
    exact WP.zret rfl dX9_has_14 (by decide) h
  · have h := h.2 q
    refine WP.iconst dX9_has_9 (by decide) ?_
    refine WP.goto (tgt := 14) dX9_has_10 (by decide) ?_
    exact WP.zret rfl dX9_has_14 (by decide) h
theorem dX9_readCoat_0 : decode cX9_readCoat 0 = .ok (.iconst 0, 1) := by decide +kernel
theorem dX9_readCoat_1 : decode cX9_readCoat 1 = .ok (.istore_n 2, 1) := by decide +kernel
theorem dX9_readCoat_2 : decode cX9_readCoat 2 = .ok (.iconst 0, 1) := by decide +kernel
theorem dX9_readCoat_3 : decode cX9_readCoat 3 = .ok (.istore_n 3, 1) := by decide +kernel
theorem dX9_readCoat_4 : decode cX9_readCoat 4 = .ok (.iload_n 3, 1) := by decide +kernel
theorem dX9_readCoat_5 : decode cX9_readCoat 5 = .ok (.ifCond .eq 20, 3) := by decide +kernel
theorem dX9_readCoat_8 : decode cX9_readCoat 8 = .ok (.aload_n 0, 1) := by decide +kernel
theorem dX9_readCoat_9 : decode cX9_readCoat 9 = .ok (.invokevirtual 144, 3) := by decide +kernel
theorem dX9_readCoat_12 : decode cX9_readCoat 12 = .ok (.i2l, 1) := by decide +kernel
theorem dX9_readCoat_13 : decode cX9_readCoat 13 = .ok (.ldc2_w 148, 3) := by decide +kernel
theorem dX9_readCoat_16 : decode cX9_readCoat 16 = .ok (.ldc2_w 150, 3) := by decide +kernel
theorem dX9_readCoat_19 : decode cX9_readCoat 19 = .ok (.invokestatic 82, 3) := by decide +kernel
theorem dX9_readCoat_22 : decode cX9_readCoat 22 = .ok (.ifCond .eq 76, 3) := by decide +kernel
theorem dX9_readCoat_25 : decode cX9_readCoat 25 = .ok (.aload_n 0, 1) := by decide +kernel
theorem dX9_readCoat_26 : decode cX9_readCoat 26 = .ok (.invokevirtual 144, 3) := by decide +kernel
theorem dX9_readCoat_29 : decode cX9_readCoat 29 = .ok (.bipush 48, 2) := by decide +kernel
theorem dX9_readCoat_31 : decode cX9_readCoat 31 = .ok (.isub, 1) := by decide +kernel
theorem dX9_readCoat_32 : decode cX9_readCoat 32 = .ok (.istore 4, 2) := by decide +kernel
theorem dX9_readCoat_34 : decode cX9_readCoat 34 = .ok (.iload 4, 2) := by decide +kernel
theorem dX9_readCoat_36 : decode cX9_readCoat 36 = .ok (.i2l, 1) := by decide +kernel
theorem dX9_readCoat_37 : decode cX9_readCoat 37 = .ok (.lconst 0, 1) := by decide +kernel
theorem dX9_readCoat_38 : decode cX9_readCoat 38 = .ok (.ldc2_w 80, 3) := by decide +kernel
theorem dX9_readCoat_41 : decode cX9_readCoat 41 = .ok (.invokestatic 82, 3) := by decide +kernel
theorem dX9_readCoat_44 : decode cX9_readCoat 44 = .ok (.ifCond .eq 17, 3) := by decide +kernel
theorem dX9_readCoat_47 : decode cX9_readCoat 47 = .ok (.iload_n 2, 1) := by decide +kernel
theorem dX9_readCoat_48 : decode cX9_readCoat 48 = .ok (.iload 4, 2) := by decide +kernel
theorem dX9_readCoat_50 : decode cX9_readCoat 50 = .ok (.invokestatic 152, 3) := by decide +kernel
theorem dX9_readCoat_53 : decode cX9_readCoat 53 = .ok (.ifCond .ne 8, 3) := by decide +kernel
theorem dX9_readCoat_56 : decode cX9_readCoat 56 = .ok (.iload_n 3, 1) := by decide +kernel
theorem dX9_readCoat_57 : decode cX9_readCoat 57 = .ok (.iconst 4, 1) := by decide +kernel
theorem dX9_readCoat_58 : decode cX9_readCoat 58 = .ok (.if_icmp .ne 5, 3) := by decide +kernel
theorem dX9_readCoat_61 : decode cX9_readCoat 61 = .ok (.iconst 0, 1) := by decide +kernel
theorem dX9_readCoat_62 : decode cX9_readCoat 62 = .ok (.ireturn, 1) := by decide +kernel
theorem dX9_readCoat_63 : decode cX9_readCoat 63 = .ok (.iload_n 2, 1) := by decide +kernel
theorem dX9_readCoat_64 : decode cX9_readCoat 64 = .ok (.iconst 1, 1) := by decide +kernel
theorem dX9_readCoat_65 : decode cX9_readCoat 65 = .ok (.iload 4, 2) := by decide +kernel
theorem dX9_readCoat_67 : decode cX9_readCoat 67 = .ok (.ishl, 1) := by decide +kernel
theorem dX9_readCoat_68 : decode cX9_readCoat 68 = .ok (.ior, 1) := by decide +kernel
theorem dX9_readCoat_69 : decode cX9_readCoat 69 = .ok (.istore_n 2, 1) := by decide +kernel
theorem dX9_readCoat_70 : decode cX9_readCoat 70 = .ok (.aload_n 0, 1) := by decide +kernel
theorem dX9_readCoat_71 : decode cX9_readCoat 71 = .ok (.getfield 44, 3) := by decide +kernel
theorem dX9_readCoat_74 : decode cX9_readCoat 74 = .ok (.iload_n 1, 1) := by decide +kernel
theorem dX9_readCoat_75 : decode cX9_readCoat 75 = .ok (.iconst 2, 1) := by decide +kernel
theorem dX9_readCoat_76 : decode cX9_readCoat 76 = .ok (.iadd, 1) := by decide +kernel
theorem dX9_readCoat_77 : decode cX9_readCoat 77 = .ok (.iload_n 3, 1) := by decide +kernel
theorem dX9_readCoat_78 : decode cX9_readCoat 78 = .ok (.iadd, 1) := by decide +kernel
theorem dX9_readCoat_79 : decode cX9_readCoat 79 = .ok (.iload 4, 2) := by decide +kernel
theorem dX9_readCoat_81 : decode cX9_readCoat 81 = .ok (.iastore, 1) := by decide +kernel
theorem dX9_readCoat_82 : decode cX9_readCoat 82 = .ok (.iinc 3 1, 3) := by decide +kernel
theorem dX9_readCoat_85 : decode cX9_readCoat 85 = .ok (.aload_n 0, 1) := by decide +kernel
theorem dX9_readCoat_86 : decode cX9_readCoat 86 = .ok (.dup, 1) := by decide +kernel
theorem dX9_readCoat_87 : decode cX9_readCoat 87 = .ok (.getfield 141, 3) := by decide +kernel
theorem dX9_readCoat_90 : decode cX9_readCoat 90 = .ok (.iconst 1, 1) := by decide +kernel
theorem dX9_readCoat_91 : decode cX9_readCoat 91 = .ok (.iadd, 1) := by decide +kernel
theorem dX9_readCoat_92 : decode cX9_readCoat 92 = .ok (.putfield 141, 3) := by decide +kernel
theorem dX9_readCoat_95 : decode cX9_readCoat 95 = .ok (.goto (-91), 3) := by decide +kernel
theorem dX9_readCoat_98 : decode cX9_readCoat 98 = .ok (.aload_n 0, 1) := by decide +kernel
theorem dX9_readCoat_99 : decode cX9_readCoat 99 = .ok (.getfield 44, 3) := by decide +kernel
theorem dX9_readCoat_102 : decode cX9_readCoat 102 = .ok (.iload_n 1, 1) := by decide +kernel
theorem dX9_readCoat_103 : decode cX9_readCoat 103 = .ok (.iload_n 3, 1) := by decide +kernel
theorem dX9_readCoat_104 : decode cX9_readCoat 104 = .ok (.iastore, 1) := by decide +kernel
theorem dX9_readCoat_105 : decode cX9_readCoat 105 = .ok (.aload_n 0, 1) := by decide +kernel
theorem dX9_readCoat_106 : decode cX9_readCoat 106 = .ok (.getfield 44, 3) := by decide +kernel
theorem dX9_readCoat_109 : decode cX9_readCoat 109 = .ok (.iload_n 1, 1) := by decide +kernel
theorem dX9_readCoat_110 : decode cX9_readCoat 110 = .ok (.iconst 1, 1) := by decide +kernel
theorem dX9_readCoat_111 : decode cX9_readCoat 111 = .ok (.iadd, 1) := by decide +kernel
theorem dX9_readCoat_112 : decode cX9_readCoat 112 = .ok (.iconst 0, 1) := by decide +kernel
theorem dX9_readCoat_113 : decode cX9_readCoat 113 = .ok (.iastore, 1) := by decide +kernel
theorem dX9_readCoat_114 : decode cX9_readCoat 114 = .ok (.aload_n 0, 1) := by decide +kernel
theorem dX9_readCoat_115 : decode cX9_readCoat 115 = .ok (.invokevirtual 144, 3) := by decide +kernel
theorem dX9_readCoat_118 : decode cX9_readCoat 118 = .ok (.bipush 104, 2) := by decide +kernel
theorem dX9_readCoat_120 : decode cX9_readCoat 120 = .ok (.if_icmp .ne 26, 3) := by decide +kernel
theorem dX9_readCoat_123 : decode cX9_readCoat 123 = .ok (.aload_n 0, 1) := by decide +kernel
theorem dX9_readCoat_124 : decode cX9_readCoat 124 = .ok (.dup, 1) := by decide +kernel
theorem dX9_readCoat_125 : decode cX9_readCoat 125 = .ok (.getfield 141, 3) := by decide +kernel
theorem dX9_readCoat_128 : decode cX9_readCoat 128 = .ok (.iconst 1, 1) := by decide +kernel
theorem dX9_readCoat_129 : decode cX9_readCoat 129 = .ok (.iadd, 1) := by decide +kernel
theorem dX9_readCoat_130 : decode cX9_readCoat 130 = .ok (.putfield 141, 3) := by decide +kernel
theorem dX9_readCoat_133 : decode cX9_readCoat 133 = .ok (.aload_n 0, 1) := by decide +kernel
theorem dX9_readCoat_134 : decode cX9_readCoat 134 = .ok (.getfield 44, 3) := by decide +kernel
theorem dX9_readCoat_137 : decode cX9_readCoat 137 = .ok (.iload_n 1, 1) := by decide +kernel
theorem dX9_readCoat_138 : decode cX9_readCoat 138 = .ok (.iconst 1, 1) := by decide +kernel
theorem dX9_readCoat_139 : decode cX9_readCoat 139 = .ok (.iadd, 1) := by decide +kernel
theorem dX9_readCoat_140 : decode cX9_readCoat 140 = .ok (.aload_n 0, 1) := by decide +kernel
theorem dX9_readCoat_141 : decode cX9_readCoat 141 = .ok (.iconst 3, 1) := by decide +kernel
theorem dX9_readCoat_142 : decode cX9_readCoat 142 = .ok (.invokevirtual 156, 3) := by decide +kernel
theorem dX9_readCoat_145 : decode cX9_readCoat 145 = .ok (.iastore, 1) := by decide +kernel
theorem dX9_readCoat_146 : decode cX9_readCoat 146 = .ok (.aload_n 0, 1) := by decide +kernel
theorem dX9_readCoat_147 : decode cX9_readCoat 147 = .ok (.getfield 44, 3) := by decide +kernel
theorem dX9_readCoat_150 : decode cX9_readCoat 150 = .ok (.iload_n 1, 1) := by decide +kernel
theorem dX9_readCoat_151 : decode cX9_readCoat 151 = .ok (.iconst 1, 1) := by decide +kernel
theorem dX9_readCoat_152 : decode cX9_readCoat 152 = .ok (.iadd, 1) := by decide +kernel
theorem dX9_readCoat_153 : decode cX9_readCoat 153 = .ok (.iaload, 1) := by decide +kernel
theorem dX9_readCoat_154 : decode cX9_readCoat 154 = .ok (.ifCond .lt 7, 3) := by decide +kernel
theorem dX9_readCoat_157 : decode cX9_readCoat 157 = .ok (.iconst 1, 1) := by decide +kernel
theorem dX9_readCoat_158 : decode cX9_readCoat 158 = .ok (.goto 4, 3) := by decide +kernel
theorem dX9_readCoat_161 : decode cX9_readCoat 161 = .ok (.iconst 0, 1) := by decide +kernel
theorem dX9_readCoat_162 : decode cX9_readCoat 162 = .ok (.ireturn, 1) := by decide +kernel
set_option maxRecDepth 100000 in
set_option maxHeartbeats 4000000 in
theorem e_X9_readCoat_0 (x1 : Int) {σ : Mem} {Q : Int → Mem → Prop} (h : WP GM M_X9_readCoat 4 [some (mr 0), some (mi x1), some (mi 0), some (mi 0), none] [] σ Q) : HT GM M_X9_readCoat [mr 0, mi x1] σ Q := by
  refine HT.of pn_X9 (Nat.le_of_ble_eq_true rfl) ?_
  show WP GM M_X9_readCoat 0 [some (mr 0), some (mi x1), none, none, none] [] σ Q
  refine WP.iconst dX9_readCoat_0 (by decide) ?_
  refine WP.istore_n (L2 := [some (mr 0), some (mi x1), some (mi 0), none, none]) dX9_readCoat_1 (by decide) rfl ?_
  refine WP.iconst dX9_readCoat_2 (by decide) ?_
  refine WP.istore_n (L2 := [some (mr 0), some (mi x1), some (mi 0), some (mi 0), none]) dX9_readCoat_3 (by decide) rfl ?_
  exact h
set_option maxRecDepth 100000 in
set_option maxHeartbeats 4000000 in
theorem b_X9_readCoat_0_4 (x1 x2 x3 : Int) {σ : Mem} {Q : Int → Mem → Prop} (h : (x3 = 0 → WP GM M_X9_readCoat 25 [some (mr 0), some (mi x1), some (mi x2), some (mi x3), none] [] σ Q) ∧ (¬ x3 = 0 → HT GM M_X9_nextByte [mr 0] σ (fun r9 σ9 => HT GM M_X9_in [ml r9, ml 48, ml 57] σ9 (fun r19 σ19 => (r19 = 0 → (0 ≤ x1 ∧ x1 < 160) ∧ ((0 ≤ jadd x1 1 ∧ jadd x1 1 < 160) ∧ (HT GM M_X9_nextByte [mr 0] (mupd (mupd σ19 11 x1 x3) 11 (jadd x1 1) 0) (fun r115 σ115 => (¬ r115 = 104 → WP GM M_X9_readCoat 146 [some (mr 0), some (mi x1), none, none, none] [] σ115 Q) ∧ (r115 = 104 → HT GM M_X9_readDigit [mr 0, mi 3] (mupd σ115 0 15 (jadd (σ115 0 15) 1)) (fun r142 σ142 => (0 ≤ jadd x1 1 ∧ jadd x1 1 < 160) ∧ (WP GM M_X9_readCoat 146 [some (mr 0), some (mi x1), none, none, none] [] (mupd σ142 11 (jadd x1 1) r142) Q))))))) ∧ (¬ r19 = 0 → WP GM M_X9_readCoat 25 [some (mr 0), some (mi x1), some (mi x2), some (mi x3), none] [] σ19 Q))))) : WP GM M_X9_readCoat 4 [some (mr 0), some (mi x1), some (mi x2), some (mi x3), none] [] σ Q := by
  refine WP.iload_n dX9_readCoat_4 rfl ?_
  refine WP.if_eq (tgt := 25) dX9_readCoat_5 (by decide) (fun q => ?_) (fun q => ?_)
  · have h := h.1 q
    exact h
  · have h := h.2 q
    refine WP.aload_n dX9_readCoat_8 rfl ?_
    refine WP.callV M_X9_nextByte [] cv_X9_nextByte dX9_readCoat_9 lk_X9_144 k0 rfl ft_X9_readCoat__X9_nextByte rfl (Nat.le_of_ble_eq_true rfl) (HT.mono h ?_)
    rintro r9 σ9 - - h
    refine WP.i2l dX9_readCoat_12 ?_
    refine WP.ldc2 (x := 48) dX9_readCoat_13 ct_X9_148 (by decide) (by decide) ?_
    refine WP.ldc2 (x := 57) dX9_readCoat_16 ct_X9_150 (by decide) (by decide) ?_
    refine WP.callS M_X9_in [ml r9, ml 48, ml 57] cs_X9_in dX9_readCoat_19 lk_X9_82 ft_X9_readCoat__X9_in rfl (Nat.le_of_ble_eq_true rfl) (HT.mono h ?_)
    rintro r19 σ19 - - h
    refine WP.if_eq (tgt := 98) dX9_readCoat_22 (by decide) (fun q => ?_) (fun q => ?_)
    · have h := h.1 q
      refine WP.aload_n dX9_readCoat_98 rfl ?_
      refine WP.getR fd_X9_44 dX9_readCoat_99 k0 rfl ?_
      refine WP.iload_n dX9_readCoat_102 rfl ?_
      refine WP.iload_n dX9_readCoat_103 rfl ?_
      obtain ⟨hi, h⟩ := h
      refine WP.iast dX9_readCoat_104 k11 hi ?_
      refine WP.aload_n dX9_readCoat_105 rfl ?_
      refine WP.getR fd_X9_44 dX9_readCoat_106 k0 rfl ?_
      refine WP.iload_n dX9_readCoat_109 rfl ?_
      refine WP.iconst dX9_readCoat_110 (by decide) ?_
      refine WP.iadd dX9_readCoat_111 ?_
      refine WP.iconst dX9_readCoat_112 (by decide) ?_
      obtain ⟨hi, h⟩ := h
      refine WP.iast dX9_readCoat_113 k11 hi ?_
      refine WP.aload_n dX9_readCoat_114 rfl ?_
      refine WP.callV M_X9_nextByte [] cv_X9_nextByte dX9_readCoat_115 lk_X9_144 k0 rfl ft_X9_readCoat__X9_nextByte rfl (Nat.le_of_ble_eq_true rfl) (HT.mono h ?_)
      rintro r115 σ115 - - h
      refine WP.bipush dX9_readCoat_118 (by decide) bp_104 ?_
      refine WP.icmp_ne (tgt := 146) dX9_readCoat_120 (by decide) (fun q => ?_) (fun q => ?_)
      · have h := h.1 q
        refine WP.drop 2 (L2 := [some (mr 0), some (mi x1), none, some (mi x3), none]) rfl ?_
        refine WP.drop 3 (L2 := [some (mr 0), some (mi x1), none, none, none]) rfl ?_
        exact h
      · have h := h.2 q
        refine WP.aload_n dX9_readCoat_123 rfl ?_
        refine WP.dup dX9_readCoat_124 rfl ?_
        refine WP.getI (v := σ115 0 15) fd_X9_141 dX9_readCoat_125 k0 rfl rfl ?_
        refine WP.iconst dX9_readCoat_128 (by decide) ?_
        refine WP.iadd dX9_readCoat_129 ?_
        refine WP.put fp_X9_141 dX9_readCoat_130 k0 rfl rfl rfl ?_
        refine WP.aload_n dX9_readCoat_133 rfl ?_
        refine WP.getR fd_X9_44 dX9_readCoat_134 k0 rfl ?_
        refine WP.iload_n dX9_readCoat_137 rfl ?_
        refine WP.iconst dX9_readCoat_138 (by decide) ?_
        refine WP.iadd dX9_readCoat_139 ?_
        refine WP.aload_n dX9_readCoat_140 rfl ?_
        refine WP.iconst dX9_readCoat_141 (by decide) ?_
        refine WP.callV M_X9_readDigit [mi 3] cv_X9_readDigit dX9_readCoat_142 lk_X9_156 k0 rfl ft_X9_readCoat__X9_readDigit rfl (Nat.le_of_ble_eq_true rfl) (HT.mono h ?_)
        rintro r142 σ142 - - h
        obtain ⟨hi, h⟩ := h
        refine WP.iast dX9_readCoat_145 k11 hi ?_
        refine WP.drop 2 (L2 := [some (mr 0), some (mi x1), none, some (mi x3), none]) rfl ?_
        refine WP.drop 3 (L2 := [some (mr 0), some (mi x1), none, none, none]) rfl ?_
        exact h
    · have h := h.2 q
      exact h
set_option maxRecDepth 100000 in
set_option maxHeartbeats 4000000 in
theorem b_X9_readCoat_0_25 (x1 x2 x3 : Int) {σ : Mem} {Q : Int → Mem → Prop} (h : HT GM M_X9_nextByte [mr 0] σ (fun r26 σ26 => HT GM M_X9_in [ml (jsub r26 48), ml 0, ml 7] σ26 (fun r41 σ41 => (r41 = 0 → Q 0 σ41) ∧ (¬ r41 = 0 → HT GM M_X9_has [mi x2, mi (jsub r26 48)] σ41 (fun r50 σ50 => (¬ r50 = 0 → Q 0 σ50) ∧ (r50 = 0 → (¬ x3 = 4 → (0 ≤ jadd (jadd x1 2) x3 ∧ jadd (jadd x1 2) x3 < 160) ∧ (WP GM M_X9_readCoat 4 [some (mr 0), some (mi x1), some (mi (jor x2 (jshl 1 (jsub r26 48)))), some (mi (jadd x3 1)), none] [] (mupd (mupd σ50 11 (jadd (jadd x1 2) x3) (jsub r26 48)) 0 15 (jadd (σ50 0 15) 1)) Q)) ∧ (x3 = 4 → Q 0 σ50))))))) : WP GM M_X9_readCoat 25 [some (mr 0), some (mi x1), some (mi x2), some (mi x3), none] [] σ Q := by
  refine WP.aload_n dX9_readCoat_25 rfl ?_
  refine WP.callV M_X9_nextByte [] cv_X9_nextByte dX9_readCoat_26 lk_X9_144 k0 rfl ft_X9_readCoat__X9_nextByte rfl (Nat.le_of_ble_eq_true rfl) (HT.mono h ?_)
  rintro r26 σ26 - - h
  refine WP.bipush dX9_readCoat_29 (by decide) bp_48 ?_
  refine WP.isub dX9_readCoat_31 ?_
  refine WP.istore (L2 := [some (mr 0), some (mi x1), some (mi x2), some (mi x3), some (mi (jsub r26 48))]) dX9_readCoat_32 (by decide) rfl ?_
  refine WP.iload dX9_readCoat_34 rfl ?_
  refine WP.i2l dX9_readCoat_36 ?_
  refine WP.lconst (x := 0) dX9_readCoat_37 (by decide) rfl ?_
  refine WP.ldc2 (x := 7) dX9_readCoat_38 ct_X9_80 (by decide) (by decide) ?_
  refine WP.callS M_X9_in [ml (jsub r26 48), ml 0, ml 7] cs_X9_in dX9_readCoat_41 lk_X9_82 ft_X9_readCoat__X9_in rfl (Nat.le_of_ble_eq_true rfl) (HT.mono h ?_)
  rintro r41 σ41 - - h
  refine WP.if_eq (tgt := 61) dX9_readCoat_44 (by decide) (fun q => ?_) (fun q => ?_)
  · have h := h.1 q
    refine WP.iconst dX9_readCoat_61 (by decide) ?_
    exact WP.zret rfl dX9_readCoat_62 (by decide) h
  · have h := h.2 q
    refine WP.iload_n dX9_readCoat_47 rfl ?_
    refine WP.iload dX9_readCoat_48 rfl ?_
    refine WP.callS M_X9_has [mi x2, mi (jsub r26 48)] cs_X9_has dX9_readCoat_50 lk_X9_152 ft_X9_readCoat__X9_has rfl (Nat.le_of_ble_eq_true rfl) (HT.mono h ?_)
    rintro r50 σ50 - - h
    refine WP.if_ne (tgt := 61) dX9_readCoat_53 (by decide) (fun q => ?_) (fun q => ?_)
    · have h := h.1 q
      refine WP.iconst dX9_readCoat_61 (by decide) ?_
      exact WP.zret rfl dX9_readCoat_62 (by decide) h
    · have h := h.2 q
      refine WP.iload_n dX9_readCoat_56 rfl ?_
      refine WP.iconst dX9_readCoat_57 (by decide) ?_
      refine WP.icmp_ne (tgt := 63) dX9_readCoat_58 (by decide) (fun q => ?_) (fun q => ?_)
      · have h := h.1 q
        refine WP.iload_n dX9_readCoat_63 rfl ?_
        refine WP.iconst dX9_readCoat_64 (by decide) ?_
        refine WP.iload dX9_readCoat_65 rfl ?_
        refine WP.ishl dX9_readCoat_67 ?_
        refine WP.ior dX9_readCoat_68 ?_
        refine WP.istore_n (L2 := [some (mr 0), some (mi x1), some (mi (jor x2 (jshl 1 (jsub r26 48)))), some (mi x3), some (mi (jsub r26 48))]) dX9_readCoat_69 (by decide) rfl ?_
        refine WP.aload_n dX9_readCoat_70 rfl ?_
        refine WP.getR fd_X9_44 dX9_readCoat_71 k0 rfl ?_
        refine WP.iload_n dX9_readCoat_74 rfl ?_
        refine WP.iconst dX9_readCoat_75 (by decide) ?_
        refine WP.iadd dX9_readCoat_76 ?_
        refine WP.iload_n dX9_readCoat_77 rfl ?_
        refine WP.iadd dX9_readCoat_78 ?_
        refine WP.iload dX9_readCoat_79 rfl ?_
        obtain ⟨hi, h⟩ := h
        refine WP.iast dX9_readCoat_81 k11 hi ?_
        refine WP.iinc (L2 := [some (mr 0), some (mi x1), some (mi (jor x2 (jshl 1 (jsub r26 48)))), some (mi (jadd x3 1)), some (mi (jsub r26 48))]) dX9_readCoat_82 (by decide) rfl (by decide) rfl ?_
        refine WP.aload_n dX9_readCoat_85 rfl ?_
        refine WP.dup dX9_readCoat_86 rfl ?_
        refine WP.getI (v := σ50 0 15) fd_X9_141 dX9_readCoat_87 k0 rfl (mupd_rp (by decide)) ?_
        refine WP.iconst dX9_readCoat_90 (by decide) ?_
        refine WP.iadd dX9_readCoat_91 ?_
        refine WP.put fp_X9_141 dX9_readCoat_92 k0 rfl rfl rfl ?_
        refine WP.goto (tgt := 4) dX9_readCoat_95 (by decide) ?_
        refine WP.drop 4 (L2 := [some (mr 0), some (mi x1), some (mi (jor x2 (jshl 1 (jsub r26 48)))), some (mi (jadd x3 1)), none]) rfl ?_
        exact h
      · have h := h.2 q
        refine WP.iconst dX9_readCoat_61 (by decide) ?_
        exact WP.zret rfl dX9_readCoat_62 (by decide) h
set_option maxRecDepth 100000 in
set_option maxHeartbeats 4000000 in
theorem b_X9_readCoat_0_146 (x1 : Int) {σ : Mem} {Q : Int → Mem → Prop} (h : (0 ≤ jadd x1 1 ∧ jadd x1 1 < 160) ∧ ((σ 11 (jadd x1 1) < 0 → Q 0 σ) ∧ (¬ σ 11 (jadd x1 1) < 0 → Q 1 σ))) : WP GM M_X9_readCoat 146 [some (mr 0), some (mi x1), none, none, none] [] σ Q := by
  refine WP.aload_n dX9_readCoat_146 rfl ?_
  refine WP.getR fd_X9_44 dX9_readCoat_147 k0 rfl ?_
  refine WP.iload_n dX9_readCoat_150 rfl ?_
  refine WP.iconst dX9_readCoat_151 (by decide) ?_
  refine WP.iadd dX9_readCoat_152 ?_
  obtain ⟨hi, h⟩ := h
  refine WP.iald dX9_readCoat_153 k11 hi ?_
  refine WP.if_lt (tgt := 161) dX9_readCoat_154 (by decide) (fun q => ?_) (fun q => ?_)
  · have h := h.1 q
    refine WP.iconst dX9_readCoat_161 (by decide) ?_
    exact WP.zret rfl dX9_readCoat_162 (by decide) h
  · have h := h.2 q
    refine WP.iconst dX9_readCoat_157 (by decide) ?_
    refine WP.goto (tgt := 162) dX9_readCoat_158 (by decide) ?_
    exact WP.zret rfl dX9_readCoat_162 (by decide) h
theorem dX9_readSchool_0 : decode cX9_readSchool 0 = .ok (.aload_n 0, 1) := by decide +kernel
theorem dX9_readSchool_1 : decode cX9_readSchool 1 = .ok (.iconst 0, 1) := by decide +kernel
theorem dX9_readSchool_2 : decode cX9_readSchool 2 = .ok (.putfield 141, 3) := by decide +kernel
theorem dX9_readSchool_5 : decode cX9_readSchool 5 = .ok (.iconst 0, 1) := by decide +kernel
theorem dX9_readSchool_6 : decode cX9_readSchool 6 = .ok (.istore_n 1, 1) := by decide +kernel
theorem dX9_readSchool_7 : decode cX9_readSchool 7 = .ok (.iload_n 1, 1) := by decide +kernel
theorem dX9_readSchool_8 : decode cX9_readSchool 8 = .ok (.iconst 4, 1) := by decide +kernel
theorem dX9_readSchool_9 : decode cX9_readSchool 9 = .ok (.if_icmp .ge 63, 3) := by decide +kernel
theorem dX9_readSchool_12 : decode cX9_readSchool 12 = .ok (.aload_n 0, 1) := by decide +kernel
theorem dX9_readSchool_13 : decode cX9_readSchool 13 = .ok (.bipush 6, 2) := by decide +kernel
theorem dX9_readSchool_15 : decode cX9_readSchool 15 = .ok (.iload_n 1, 1) := by decide +kernel
theorem dX9_readSchool_16 : decode cX9_readSchool 16 = .ok (.imul, 1) := by decide +kernel
theorem dX9_readSchool_17 : decode cX9_readSchool 17 = .ok (.invokevirtual 159, 3) := by decide +kernel
theorem dX9_readSchool_20 : decode cX9_readSchool 20 = .ok (.ifCond .ne 5, 3) := by decide +kernel
theorem dX9_readSchool_23 : decode cX9_readSchool 23 = .ok (.iconst 0, 1) := by decide +kernel
theorem dX9_readSchool_24 : decode cX9_readSchool 24 = .ok (.ireturn, 1) := by decide +kernel
theorem dX9_readSchool_25 : decode cX9_readSchool 25 = .ok (.aload_n 0, 1) := by decide +kernel
theorem dX9_readSchool_26 : decode cX9_readSchool 26 = .ok (.iload_n 1, 1) := by decide +kernel
theorem dX9_readSchool_27 : decode cX9_readSchool 27 = .ok (.iconst 1, 1) := by decide +kernel
theorem dX9_readSchool_28 : decode cX9_readSchool 28 = .ok (.iadd, 1) := by decide +kernel
theorem dX9_readSchool_29 : decode cX9_readSchool 29 = .ok (.putfield 162, 3) := by decide +kernel
theorem dX9_readSchool_32 : decode cX9_readSchool 32 = .ok (.aload_n 0, 1) := by decide +kernel
theorem dX9_readSchool_33 : decode cX9_readSchool 33 = .ok (.invokevirtual 144, 3) := by decide +kernel
theorem dX9_readSchool_36 : decode cX9_readSchool 36 = .ok (.istore_n 2, 1) := by decide +kernel
theorem dX9_readSchool_37 : decode cX9_readSchool 37 = .ok (.iload_n 2, 1) := by decide +kernel
theorem dX9_readSchool_38 : decode cX9_readSchool 38 = .ok (.ifCond .ge 5, 3) := by decide +kernel
theorem dX9_readSchool_41 : decode cX9_readSchool 41 = .ok (.iconst 1, 1) := by decide +kernel
theorem dX9_readSchool_42 : decode cX9_readSchool 42 = .ok (.ireturn, 1) := by decide +kernel
theorem dX9_readSchool_43 : decode cX9_readSchool 43 = .ok (.iload_n 2, 1) := by decide +kernel
theorem dX9_readSchool_44 : decode cX9_readSchool 44 = .ok (.bipush 44, 2) := by decide +kernel
theorem dX9_readSchool_46 : decode cX9_readSchool 46 = .ok (.if_icmp .ne 8, 3) := by decide +kernel
theorem dX9_readSchool_49 : decode cX9_readSchool 49 = .ok (.iload_n 1, 1) := by decide +kernel
theorem dX9_readSchool_50 : decode cX9_readSchool 50 = .ok (.iconst 3, 1) := by decide +kernel
theorem dX9_readSchool_51 : decode cX9_readSchool 51 = .ok (.if_icmp .ne 5, 3) := by decide +kernel
theorem dX9_readSchool_54 : decode cX9_readSchool 54 = .ok (.iconst 0, 1) := by decide +kernel
theorem dX9_readSchool_55 : decode cX9_readSchool 55 = .ok (.ireturn, 1) := by decide +kernel
theorem dX9_readSchool_56 : decode cX9_readSchool 56 = .ok (.aload_n 0, 1) := by decide +kernel
theorem dX9_readSchool_57 : decode cX9_readSchool 57 = .ok (.dup, 1) := by decide +kernel
theorem dX9_readSchool_58 : decode cX9_readSchool 58 = .ok (.getfield 141, 3) := by decide +kernel
theorem dX9_readSchool_61 : decode cX9_readSchool 61 = .ok (.iconst 1, 1) := by decide +kernel
theorem dX9_readSchool_62 : decode cX9_readSchool 62 = .ok (.iadd, 1) := by decide +kernel
theorem dX9_readSchool_63 : decode cX9_readSchool 63 = .ok (.putfield 141, 3) := by decide +kernel
theorem dX9_readSchool_66 : decode cX9_readSchool 66 = .ok (.iinc 1 1, 3) := by decide +kernel
theorem dX9_readSchool_69 : decode cX9_readSchool 69 = .ok (.goto (-62), 3) := by decide +kernel
theorem dX9_readSchool_72 : decode cX9_readSchool 72 = .ok (.iconst 0, 1) := by decide +kernel
theorem dX9_readSchool_73 : decode cX9_readSchool 73 = .ok (.ireturn, 1) := by decide +kernel
set_option maxRecDepth 100000 in
set_option maxHeartbeats 4000000 in
theorem e_X9_readSchool_0 {σ : Mem} {Q : Int → Mem → Prop} (h : WP GM M_X9_readSchool 7 [some (mr 0), some (mi 0), none] [] (mupd σ 0 15 0) Q) : HT GM M_X9_readSchool [mr 0] σ Q := by
  refine HT.of pn_X9 (Nat.le_of_ble_eq_true rfl) ?_
  show WP GM M_X9_readSchool 0 [some (mr 0), none, none] [] σ Q
  refine WP.aload_n dX9_readSchool_0 rfl ?_
  refine WP.iconst dX9_readSchool_1 (by decide) ?_
  refine WP.put fp_X9_141 dX9_readSchool_2 k0 rfl rfl rfl ?_
  refine WP.iconst dX9_readSchool_5 (by decide) ?_
  refine WP.istore_n (L2 := [some (mr 0), some (mi 0), none]) dX9_readSchool_6 (by decide) rfl ?_
  exact h
set_option maxRecDepth 100000 in
set_option maxHeartbeats 4000000 in
theorem b_X9_readSchool_0_7 (x1 : Int) {σ : Mem} {Q : Int → Mem → Prop} (h : (4 ≤ x1 → Q 0 σ) ∧ (¬ 4 ≤ x1 → HT GM M_X9_readCoat [mr 0, mi (jmul 6 x1)] σ (fun r17 σ17 => (¬ r17 = 0 → HT GM M_X9_nextByte [mr 0] (mupd σ17 0 16 (jadd x1 1)) (fun r33 σ33 => (0 ≤ r33 → (¬ r33 = 44 → Q 0 σ33) ∧ (r33 = 44 → (¬ x1 = 3 → WP GM M_X9_readSchool 7 [some (mr 0), some (mi (jadd x1 1)), none] [] (mupd σ33 0 15 (jadd (σ33 0 15) 1)) Q) ∧ (x1 = 3 → Q 0 σ33))) ∧ (¬ 0 ≤ r33 → Q 1 σ33))) ∧ (r17 = 0 → Q 0 σ17)))) : WP GM M_X9_readSchool 7 [some (mr 0), some (mi x1), none] [] σ Q := by
  refine WP.iload_n dX9_readSchool_7 rfl ?_
  refine WP.iconst dX9_readSchool_8 (by decide) ?_
  refine WP.icmp_ge (tgt := 72) dX9_readSchool_9 (by decide) (fun q => ?_) (fun q => ?_)
  · have h := h.1 q
    refine WP.iconst dX9_readSchool_72 (by decide) ?_
    exact WP.zret rfl dX9_readSchool_73 (by decide) h
  · have h := h.2 q
    refine WP.aload_n dX9_readSchool_12 rfl ?_
    refine WP.bipush dX9_readSchool_13 (by decide) bp_6 ?_
    refine WP.iload_n dX9_readSchool_15 rfl ?_
    refine WP.imul dX9_readSchool_16 ?_
    refine WP.callV M_X9_readCoat [mi (jmul 6 x1)] cv_X9_readCoat dX9_readSchool_17 lk_X9_159 k0 rfl ft_X9_readSchool__X9_readCoat rfl (Nat.le_of_ble_eq_true rfl) (HT.mono h ?_)
    rintro r17 σ17 - - h
    refine WP.if_ne (tgt := 25) dX9_readSchool_20 (by decide) (fun q => ?_) (fun q => ?_)
    · have h := h.1 q
      refine WP.aload_n dX9_readSchool_25 rfl ?_
      refine WP.iload_n dX9_readSchool_26 rfl ?_
      refine WP.iconst dX9_readSchool_27 (by decide) ?_
      refine WP.iadd dX9_readSchool_28 ?_
      refine WP.put fp_X9_162 dX9_readSchool_29 k0 rfl rfl rfl ?_
      refine WP.aload_n dX9_readSchool_32 rfl ?_
      refine WP.callV M_X9_nextByte [] cv_X9_nextByte dX9_readSchool_33 lk_X9_144 k0 rfl ft_X9_readSchool__X9_nextByte rfl (Nat.le_of_ble_eq_true rfl) (HT.mono h ?_)
      rintro r33 σ33 - - h
      refine WP.istore_n (L2 := [some (mr 0), some (mi x1), some (mi r33)]) dX9_readSchool_36 (by decide) rfl ?_
      refine WP.iload_n dX9_readSchool_37 rfl ?_
      refine WP.if_ge (tgt := 43) dX9_readSchool_38 (by decide) (fun q => ?_) (fun q => ?_)
      · have h := h.1 q
        refine WP.iload_n dX9_readSchool_43 rfl ?_
        refine WP.bipush dX9_readSchool_44 (by decide) bp_44 ?_
        refine WP.icmp_ne (tgt := 54) dX9_readSchool_46 (by decide) (fun q => ?_) (fun q => ?_)
        · have h := h.1 q
          refine WP.iconst dX9_readSchool_54 (by decide) ?_
          exact WP.zret rfl dX9_readSchool_55 (by decide) h
        · have h := h.2 q
          refine WP.iload_n dX9_readSchool_49 rfl ?_
          refine WP.iconst dX9_readSchool_50 (by decide) ?_
          refine WP.icmp_ne (tgt := 56) dX9_readSchool_51 (by decide) (fun q => ?_) (fun q => ?_)
          · have h := h.1 q
            refine WP.aload_n dX9_readSchool_56 rfl ?_
            refine WP.dup dX9_readSchool_57 rfl ?_
            refine WP.getI (v := σ33 0 15) fd_X9_141 dX9_readSchool_58 k0 rfl rfl ?_
            refine WP.iconst dX9_readSchool_61 (by decide) ?_
            refine WP.iadd dX9_readSchool_62 ?_
            refine WP.put fp_X9_141 dX9_readSchool_63 k0 rfl rfl rfl ?_
            refine WP.iinc (L2 := [some (mr 0), some (mi (jadd x1 1)), some (mi r33)]) dX9_readSchool_66 (by decide) rfl (by decide) rfl ?_
            refine WP.goto (tgt := 7) dX9_readSchool_69 (by decide) ?_
            refine WP.drop 2 (L2 := [some (mr 0), some (mi (jadd x1 1)), none]) rfl ?_
            exact h
          · have h := h.2 q
            refine WP.iconst dX9_readSchool_54 (by decide) ?_
            exact WP.zret rfl dX9_readSchool_55 (by decide) h
      · have h := h.2 q
        refine WP.iconst dX9_readSchool_41 (by decide) ?_
        exact WP.zret rfl dX9_readSchool_42 (by decide) h
    · have h := h.2 q
      refine WP.iconst dX9_readSchool_23 (by decide) ?_
      exact WP.zret rfl dX9_readSchool_24 (by decide) h
theorem dX9_school_0 : decode cX9_school 0 = .ok (.aload_n 0, 1) := by decide +kernel
theorem dX9_school_1 : decode cX9_school 1 = .ok (.invokevirtual 165, 3) := by decide +kernel
theorem dX9_school_4 : decode cX9_school 4 = .ok (.istore_n 1, 1) := by decide +kernel
theorem dX9_school_5 : decode cX9_school 5 = .ok (.iload_n 1, 1) := by decide +kernel
theorem dX9_school_6 : decode cX9_school 6 = .ok (.ifCond .ne 8, 3) := by decide +kernel
theorem dX9_school_9 : decode cX9_school 9 = .ok (.aload_n 0, 1) := by decide +kernel
theorem dX9_school_10 : decode cX9_school 10 = .ok (.invokevirtual 144, 3) := by decide +kernel
theorem dX9_school_13 : decode cX9_school 13 = .ok (.pop, 1) := by decide +kernel
theorem dX9_school_14 : decode cX9_school 14 = .ok (.aload_n 0, 1) := by decide +kernel
theorem dX9_school_15 : decode cX9_school 15 = .ok (.iconst 0, 1) := by decide +kernel
theorem dX9_school_16 : decode cX9_school 16 = .ok (.putfield 138, 3) := by decide +kernel
theorem dX9_school_19 : decode cX9_school 19 = .ok (.iload_n 1, 1) := by decide +kernel
theorem dX9_school_20 : decode cX9_school 20 = .ok (.ifCond .ne 11, 3) := by decide +kernel
theorem dX9_school_23 : decode cX9_school 23 = .ok (.bipush (-20), 2) := by decide +kernel
theorem dX9_school_25 : decode cX9_school 25 = .ok (.aload_n 0, 1) := by decide +kernel
theorem dX9_school_26 : decode cX9_school 26 = .ok (.getfield 141, 3) := by decide +kernel
theorem dX9_school_29 : decode cX9_school 29 = .ok (.isub, 1) := by decide +kernel
theorem dX9_school_30 : decode cX9_school 30 = .ok (.ireturn, 1) := by decide +kernel
theorem dX9_school_31 : decode cX9_school 31 = .ok (.aload_n 0, 1) := by decide +kernel
theorem dX9_school_32 : decode cX9_school 32 = .ok (.aload_n 0, 1) := by decide +kernel
theorem dX9_school_33 : decode cX9_school 33 = .ok (.getfield 162, 3) := by decide +kernel
theorem dX9_school_36 : decode cX9_school 36 = .ok (.putfield 86, 3) := by decide +kernel
theorem dX9_school_39 : decode cX9_school 39 = .ok (.iconst 0, 1) := by decide +kernel
theorem dX9_school_40 : decode cX9_school 40 = .ok (.istore_n 2, 1) := by decide +kernel
theorem dX9_school_41 : decode cX9_school 41 = .ok (.iload_n 2, 1) := by decide +kernel
theorem dX9_school_42 : decode cX9_school 42 = .ok (.aload_n 0, 1) := by decide +kernel
theorem dX9_school_43 : decode cX9_school 43 = .ok (.getfield 86, 3) := by decide +kernel
theorem dX9_school_46 : decode cX9_school 46 = .ok (.if_icmp .ge 89, 3) := by decide +kernel
theorem dX9_school_49 : decode cX9_school 49 = .ok (.aload_n 0, 1) := by decide +kernel
theorem dX9_school_50 : decode cX9_school 50 = .ok (.getfield 7, 3) := by decide +kernel
theorem dX9_school_53 : decode cX9_school 53 = .ok (.iload_n 2, 1) := by decide +kernel
theorem dX9_school_54 : decode cX9_school 54 = .ok (.aload_n 0, 1) := by decide +kernel
theorem dX9_school_55 : decode cX9_school 55 = .ok (.getfield 44, 3) := by decide +kernel
theorem dX9_school_58 : decode cX9_school 58 = .ok (.bipush 6, 2) := by decide +kernel
theorem dX9_school_60 : decode cX9_school 60 = .ok (.iload_n 2, 1) := by decide +kernel
theorem dX9_school_61 : decode cX9_school 61 = .ok (.imul, 1) := by decide +kernel
theorem dX9_school_62 : decode cX9_school 62 = .ok (.iaload, 1) := by decide +kernel
theorem dX9_school_63 : decode cX9_school 63 = .ok (.iastore, 1) := by decide +kernel
theorem dX9_school_64 : decode cX9_school 64 = .ok (.aload_n 0, 1) := by decide +kernel
theorem dX9_school_65 : decode cX9_school 65 = .ok (.getfield 13, 3) := by decide +kernel
theorem dX9_school_68 : decode cX9_school 68 = .ok (.iload_n 2, 1) := by decide +kernel
theorem dX9_school_69 : decode cX9_school 69 = .ok (.iconst 0, 1) := by decide +kernel
theorem dX9_school_70 : decode cX9_school 70 = .ok (.iastore, 1) := by decide +kernel
theorem dX9_school_71 : decode cX9_school 71 = .ok (.aload_n 0, 1) := by decide +kernel
theorem dX9_school_72 : decode cX9_school 72 = .ok (.getfield 16, 3) := by decide +kernel
theorem dX9_school_75 : decode cX9_school 75 = .ok (.iload_n 2, 1) := by decide +kernel
theorem dX9_school_76 : decode cX9_school 76 = .ok (.aload_n 0, 1) := by decide +kernel
theorem dX9_school_77 : decode cX9_school 77 = .ok (.getfield 44, 3) := by decide +kernel
theorem dX9_school_80 : decode cX9_school 80 = .ok (.bipush 6, 2) := by decide +kernel
theorem dX9_school_82 : decode cX9_school 82 = .ok (.iload_n 2, 1) := by decide +kernel
theorem dX9_school_83 : decode cX9_school 83 = .ok (.imul, 1) := by decide +kernel
theorem dX9_school_84 : decode cX9_school 84 = .ok (.iconst 1, 1) := by decide +kernel
theorem dX9_school_85 : decode cX9_school 85 = .ok (.iadd, 1) := by decide +kernel
theorem dX9_school_86 : decode cX9_school 86 = .ok (.iaload, 1) := by decide +kernel
theorem dX9_school_87 : decode cX9_school 87 = .ok (.iastore, 1) := by decide +kernel
theorem dX9_school_88 : decode cX9_school 88 = .ok (.iconst 0, 1) := by decide +kernel
theorem dX9_school_89 : decode cX9_school 89 = .ok (.istore_n 3, 1) := by decide +kernel
theorem dX9_school_90 : decode cX9_school 90 = .ok (.iload_n 3, 1) := by decide +kernel
theorem dX9_school_91 : decode cX9_school 91 = .ok (.aload_n 0, 1) := by decide +kernel
theorem dX9_school_92 : decode cX9_school 92 = .ok (.getfield 7, 3) := by decide +kernel
theorem dX9_school_95 : decode cX9_school 95 = .ok (.iload_n 2, 1) := by decide +kernel
theorem dX9_school_96 : decode cX9_school 96 = .ok (.iaload, 1) := by decide +kernel
theorem dX9_school_97 : decode cX9_school 97 = .ok (.if_icmp .ge 32, 3) := by decide +kernel
theorem dX9_school_100 : decode cX9_school 100 = .ok (.aload_n 0, 1) := by decide +kernel
theorem dX9_school_101 : decode cX9_school 101 = .ok (.getfield 19, 3) := by decide +kernel
theorem dX9_school_104 : decode cX9_school 104 = .ok (.iconst 4, 1) := by decide +kernel
theorem dX9_school_105 : decode cX9_school 105 = .ok (.iload_n 2, 1) := by decide +kernel
theorem dX9_school_106 : decode cX9_school 106 = .ok (.imul, 1) := by decide +kernel
theorem dX9_school_107 : decode cX9_school 107 = .ok (.iload_n 3, 1) := by decide +kernel
theorem dX9_school_108 : decode cX9_school 108 = .ok (.iadd, 1) := by decide +kernel
theorem dX9_school_109 : decode cX9_school 109 = .ok (.aload_n 0, 1) := by decide +kernel
theorem dX9_school_110 : decode cX9_school 110 = .ok (.getfield 44, 3) := by decide +kernel
theorem dX9_school_113 : decode cX9_school 113 = .ok (.bipush 6, 2) := by decide +kernel
theorem dX9_school_115 : decode cX9_school 115 = .ok (.iload_n 2, 1) := by decide +kernel
theorem dX9_school_116 : decode cX9_school 116 = .ok (.imul, 1) := by decide +kernel
theorem dX9_school_117 : decode cX9_school 117 = .ok (.iconst 2, 1) := by decide +kernel
theorem dX9_school_118 : decode cX9_school 118 = .ok (.iadd, 1) := by decide +kernel
theorem dX9_school_119 : decode cX9_school 119 = .ok (.iload_n 3, 1) := by decide +kernel
theorem dX9_school_120 : decode cX9_school 120 = .ok (.iadd, 1) := by decide +kernel
theorem dX9_school_121 : decode cX9_school 121 = .ok (.iaload, 1) := by decide +kernel
theorem dX9_school_122 : decode cX9_school 122 = .ok (.iastore, 1) := by decide +kernel
theorem dX9_school_123 : decode cX9_school 123 = .ok (.iinc 3 1, 3) := by decide +kernel
theorem dX9_school_126 : decode cX9_school 126 = .ok (.goto (-36), 3) := by decide +kernel
theorem dX9_school_129 : decode cX9_school 129 = .ok (.iinc 2 1, 3) := by decide +kernel
theorem dX9_school_132 : decode cX9_school 132 = .ok (.goto (-91), 3) := by decide +kernel
theorem dX9_school_135 : decode cX9_school 135 = .ok (.iconst 0, 1) := by decide +kernel
theorem dX9_school_136 : decode cX9_school 136 = .ok (.istore_n 2, 1) := by decide +kernel
theorem dX9_school_137 : decode cX9_school 137 = .ok (.iload_n 2, 1) := by decide +kernel
theorem dX9_school_138 : decode cX9_school 138 = .ok (.aload_n 0, 1) := by decide +kernel
theorem dX9_school_139 : decode cX9_school 139 = .ok (.getfield 89, 3) := by decide +kernel
theorem dX9_school_142 : decode cX9_school 142 = .ok (.if_icmp .ge 47, 3) := by decide +kernel
theorem dX9_school_145 : decode cX9_school 145 = .ok (.aload_n 0, 1) := by decide +kernel
theorem dX9_school_146 : decode cX9_school 146 = .ok (.getfield 25, 3) := by decide +kernel
theorem dX9_school_149 : decode cX9_school 149 = .ok (.iload_n 2, 1) := by decide +kernel
theorem dX9_school_150 : decode cX9_school 150 = .ok (.aload_n 0, 1) := by decide +kernel
theorem dX9_school_151 : decode cX9_school 151 = .ok (.getfield 25, 3) := by decide +kernel
theorem dX9_school_154 : decode cX9_school 154 = .ok (.iload_n 2, 1) := by decide +kernel
theorem dX9_school_155 : decode cX9_school 155 = .ok (.iaload, 1) := by decide +kernel
theorem dX9_school_156 : decode cX9_school 156 = .ok (.bipush 10, 2) := by decide +kernel
theorem dX9_school_158 : decode cX9_school 158 = .ok (.if_icmp .lt 14, 3) := by decide +kernel
theorem dX9_school_161 : decode cX9_school 161 = .ok (.aload_n 0, 1) := by decide +kernel
theorem dX9_school_162 : decode cX9_school 162 = .ok (.getfield 25, 3) := by decide +kernel
theorem dX9_school_165 : decode cX9_school 165 = .ok (.iload_n 2, 1) := by decide +kernel
theorem dX9_school_166 : decode cX9_school 166 = .ok (.iaload, 1) := by decide +kernel
theorem dX9_school_167 : decode cX9_school 167 = .ok (.bipush 30, 2) := by decide +kernel
theorem dX9_school_169 : decode cX9_school 169 = .ok (.if_icmp .ne 12, 3) := by decide +kernel
theorem dX9_school_172 : decode cX9_school 172 = .ok (.aload_n 0, 1) := by decide +kernel
theorem dX9_school_173 : decode cX9_school 173 = .ok (.getfield 25, 3) := by decide +kernel
theorem dX9_school_176 : decode cX9_school 176 = .ok (.iload_n 2, 1) := by decide +kernel
theorem dX9_school_177 : decode cX9_school 177 = .ok (.iaload, 1) := by decide +kernel
theorem dX9_school_178 : decode cX9_school 178 = .ok (.goto 4, 3) := by decide +kernel
theorem dX9_school_181 : decode cX9_school 181 = .ok (.iconst 0, 1) := by decide +kernel
theorem dX9_school_182 : decode cX9_school 182 = .ok (.iastore, 1) := by decide +kernel
theorem dX9_school_183 : decode cX9_school 183 = .ok (.iinc 2 1, 3) := by decide +kernel
theorem dX9_school_186 : decode cX9_school 186 = .ok (.goto (-49), 3) := by decide +kernel
theorem dX9_school_189 : decode cX9_school 189 = .ok (.aload_n 0, 1) := by decide +kernel
theorem dX9_school_190 : decode cX9_school 190 = .ok (.getfield 86, 3) := by decide +kernel
theorem dX9_school_193 : decode cX9_school 193 = .ok (.ireturn, 1) := by decide +kernel
set_option maxRecDepth 100000 in
set_option maxHeartbeats 4000000 in
theorem e_X9_school_0 {σ : Mem} {Q : Int → Mem → Prop} (h : HT GM M_X9_readSchool [mr 0] σ (fun r1 σ1 => (¬ r1 = 0 → WP GM M_X9_school 14 [some (mr 0), some (mi r1), none, none] [] σ1 Q) ∧ (r1 = 0 → HT GM M_X9_nextByte [mr 0] σ1 (fun r10 σ10 => WP GM M_X9_school 14 [some (mr 0), some (mi r1), none, none] [] σ10 Q)))) : HT GM M_X9_school [mr 0] σ Q := by
  refine HT.of pn_X9 (Nat.le_of_ble_eq_true rfl) ?_
  show WP GM M_X9_school 0 [some (mr 0), none, none, none] [] σ Q
  refine WP.aload_n dX9_school_0 rfl ?_
  refine WP.callV M_X9_readSchool [] cv_X9_readSchool dX9_school_1 lk_X9_165 k0 rfl ft_X9_school__X9_readSchool rfl (Nat.le_of_ble_eq_true rfl) (HT.mono h ?_)
  rintro r1 σ1 - - h
  refine WP.istore_n (L2 := [some (mr 0), some (mi r1), none, none]) dX9_school_4 (by decide) rfl ?_
  refine WP.iload_n dX9_school_5 rfl ?_
  refine WP.if_ne (tgt := 14) dX9_school_6 (by decide) (fun q => ?_) (fun q => ?_)
  · have h := h.1 q
    exact h
  · have h := h.2 q
    refine WP.aload_n dX9_school_9 rfl ?_
    refine WP.callV M_X9_nextByte [] cv_X9_nextByte dX9_school_10 lk_X9_144 k0 rfl ft_X9_school__X9_nextByte rfl (Nat.le_of_ble_eq_true rfl) (HT.mono h ?_)
    rintro r10 σ10 - - h
    refine WP.pop dX9_school_13 rfl ?_
    exact h
set_option maxRecDepth 100000 in
set_option maxHeartbeats 4000000 in
theorem b_X9_school_0_14 (x1 : Int) {σ : Mem} {Q : Int → Mem → Prop} (h : (¬ x1 = 0 → WP GM M_X9_school 41 [some (mr 0), none, some (mi 0), none] [] (mupd (mupd σ 0 14 0) 0 4 (σ 0 16)) Q) ∧ (x1 = 0 → Q (jsub (-20) (σ 0 15)) (mupd σ 0 14 0))) : WP GM M_X9_school 14 [some (mr 0), some (mi x1), none, none] [] σ Q := by
  refine WP.aload_n dX9_school_14 rfl ?_
  refine WP.iconst dX9_school_15 (by decide) ?_
  refine WP.put fp_X9_138 dX9_school_16 k0 rfl rfl rfl ?_
  refine WP.iload_n dX9_school_19 rfl ?_
  refine WP.if_ne (tgt := 31) dX9_school_20 (by decide) (fun q => ?_) (fun q => ?_)
  · have h := h.1 q
    refine WP.aload_n dX9_school_31 rfl ?_
    refine WP.aload_n dX9_school_32 rfl ?_
    refine WP.getI (v := σ 0 16) fd_X9_162 dX9_school_33 k0 rfl (mupd_ri (by decide)) ?_
    refine WP.put fp_X9_86 dX9_school_36 k0 rfl rfl rfl ?_
    refine WP.iconst dX9_school_39 (by decide) ?_
    refine WP.istore_n (L2 := [some (mr 0), some (mi x1), some (mi 0), none]) dX9_school_40 (by decide) rfl ?_
    refine WP.drop 1 (L2 := [some (mr 0), none, some (mi 0), none]) rfl ?_
    exact h
  · have h := h.2 q
    refine WP.bipush dX9_school_23 (by decide) bp_m20 ?_
    refine WP.aload_n dX9_school_25 rfl ?_
    refine WP.getI (v := σ 0 15) fd_X9_141 dX9_school_26 k0 rfl (mupd_ri (by decide)) ?_
    refine WP.isub dX9_school_29 ?_
    exact WP.iret rfl dX9_school_30 h
set_option maxRecDepth 100000 in
set_option maxHeartbeats 4000000 in
theorem b_X9_school_0_41 (x2 : Int) {σ : Mem} {Q : Int → Mem → Prop} (h : (σ 0 4 ≤ x2 → WP GM M_X9_school 137 [some (mr 0), none, some (mi 0), none] [] σ Q) ∧ (¬ σ 0 4 ≤ x2 → (0 ≤ jmul 6 x2 ∧ jmul 6 x2 < 160) ∧ ((0 ≤ x2 ∧ x2 < 4) ∧ ((0 ≤ x2 ∧ x2 < 4) ∧ ((0 ≤ jadd (jmul 6 x2) 1 ∧ jadd (jmul 6 x2) 1 < 160) ∧ ((0 ≤ x2 ∧ x2 < 4) ∧ (WP GM M_X9_school 90 [some (mr 0), none, some (mi x2), some (mi 0)] [] (mupd (mupd (mupd σ 1 x2 (σ 11 (jmul 6 x2))) 2 x2 0) 3 x2 (σ 11 (jadd (jmul 6 x2) 1))) Q))))))) : WP GM M_X9_school 41 [some (mr 0), none, some (mi x2), none] [] σ Q := by
  refine WP.iload_n dX9_school_41 rfl ?_
  refine WP.aload_n dX9_school_42 rfl ?_
  refine WP.getI (v := σ 0 4) fd_X9_86 dX9_school_43 k0 rfl rfl ?_
  refine WP.icmp_ge (tgt := 135) dX9_school_46 (by decide) (fun q => ?_) (fun q => ?_)
  · have h := h.1 q
    refine WP.iconst dX9_school_135 (by decide) ?_
    refine WP.istore_n (L2 := [some (mr 0), none, some (mi 0), none]) dX9_school_136 (by decide) rfl ?_
    exact h
  · have h := h.2 q
    refine WP.aload_n dX9_school_49 rfl ?_
    refine WP.getR fd_X9_7 dX9_school_50 k0 rfl ?_
    refine WP.iload_n dX9_school_53 rfl ?_
    refine WP.aload_n dX9_school_54 rfl ?_
    refine WP.getR fd_X9_44 dX9_school_55 k0 rfl ?_
    refine WP.bipush dX9_school_58 (by decide) bp_6 ?_
    refine WP.iload_n dX9_school_60 rfl ?_
    refine WP.imul dX9_school_61 ?_
    obtain ⟨hi, h⟩ := h
    refine WP.iald dX9_school_62 k11 hi ?_
    obtain ⟨hi, h⟩ := h
    refine WP.iast dX9_school_63 k1 hi ?_
    refine WP.aload_n dX9_school_64 rfl ?_
    refine WP.getR fd_X9_13 dX9_school_65 k0 rfl ?_
    refine WP.iload_n dX9_school_68 rfl ?_
    refine WP.iconst dX9_school_69 (by decide) ?_
    obtain ⟨hi, h⟩ := h
    refine WP.iast dX9_school_70 k2 hi ?_
    refine WP.aload_n dX9_school_71 rfl ?_
    refine WP.getR fd_X9_16 dX9_school_72 k0 rfl ?_
    refine WP.iload_n dX9_school_75 rfl ?_
    refine WP.aload_n dX9_school_76 rfl ?_
    refine WP.getR fd_X9_44 dX9_school_77 k0 rfl ?_
    refine WP.bipush dX9_school_80 (by decide) bp_6 ?_
    refine WP.iload_n dX9_school_82 rfl ?_
    refine WP.imul dX9_school_83 ?_
    refine WP.iconst dX9_school_84 (by decide) ?_
    refine WP.iadd dX9_school_85 ?_
    obtain ⟨hi, h⟩ := h
    refine WP.iald dX9_school_86 k11 hi ?_
    refine WP.topI (y := σ 11 (jadd (jmul 6 x2) 1)) ((mupd_rp (by decide)).trans (mupd_rp (by decide))) ?_
    obtain ⟨hi, h⟩ := h
    refine WP.iast dX9_school_87 k3 hi ?_
    refine WP.iconst dX9_school_88 (by decide) ?_
    refine WP.istore_n (L2 := [some (mr 0), none, some (mi x2), some (mi 0)]) dX9_school_89 (by decide) rfl ?_
    exact h
set_option maxRecDepth 100000 in
set_option maxHeartbeats 4000000 in
theorem b_X9_school_0_90 (x2 x3 : Int) {σ : Mem} {Q : Int → Mem → Prop} (h : (0 ≤ x2 ∧ x2 < 4) ∧ ((σ 1 x2 ≤ x3 → WP GM M_X9_school 41 [some (mr 0), none, some (mi (jadd x2 1)), none] [] σ Q) ∧ (¬ σ 1 x2 ≤ x3 → (0 ≤ jadd (jadd (jmul 6 x2) 2) x3 ∧ jadd (jadd (jmul 6 x2) 2) x3 < 160) ∧ ((0 ≤ jadd (jmul 4 x2) x3 ∧ jadd (jmul 4 x2) x3 < 16) ∧ (WP GM M_X9_school 90 [some (mr 0), none, some (mi x2), some (mi (jadd x3 1))] [] (mupd σ 4 (jadd (jmul 4 x2) x3) (σ 11 (jadd (jadd (jmul 6 x2) 2) x3))) Q))))) : WP GM M_X9_school 90 [some (mr 0), none, some (mi x2), some (mi x3)] [] σ Q := by
  refine WP.iload_n dX9_school_90 rfl ?_
  refine WP.aload_n dX9_school_91 rfl ?_
  refine WP.getR fd_X9_7 dX9_school_92 k0 rfl ?_
  refine WP.iload_n dX9_school_95 rfl ?_
  obtain ⟨hi, h⟩ := h
  refine WP.iald dX9_school_96 k1 hi ?_
  refine WP.icmp_ge (tgt := 129) dX9_school_97 (by decide) (fun q => ?_) (fun q => ?_)
  · have h := h.1 q
    refine WP.iinc (L2 := [some (mr 0), none, some (mi (jadd x2 1)), some (mi x3)]) dX9_school_129 (by decide) rfl (by decide) rfl ?_
    refine WP.goto (tgt := 41) dX9_school_132 (by decide) ?_
    refine WP.drop 3 (L2 := [some (mr 0), none, some (mi (jadd x2 1)), none]) rfl ?_
    exact h
  · have h := h.2 q
    refine WP.aload_n dX9_school_100 rfl ?_
    refine WP.getR fd_X9_19 dX9_school_101 k0 rfl ?_
    refine WP.iconst dX9_school_104 (by decide) ?_
    refine WP.iload_n dX9_school_105 rfl ?_
    refine WP.imul dX9_school_106 ?_
    refine WP.iload_n dX9_school_107 rfl ?_
    refine WP.iadd dX9_school_108 ?_
    refine WP.aload_n dX9_school_109 rfl ?_
    refine WP.getR fd_X9_44 dX9_school_110 k0 rfl ?_
    refine WP.bipush dX9_school_113 (by decide) bp_6 ?_
    refine WP.iload_n dX9_school_115 rfl ?_
    refine WP.imul dX9_school_116 ?_
    refine WP.iconst dX9_school_117 (by decide) ?_
    refine WP.iadd dX9_school_118 ?_
    refine WP.iload_n dX9_school_119 rfl ?_
    refine WP.iadd dX9_school_120 ?_
    obtain ⟨hi, h⟩ := h
    refine WP.iald dX9_school_121 k11 hi ?_
    obtain ⟨hi, h⟩ := h
    refine WP.iast dX9_school_122 k4 hi ?_
    refine WP.iinc (L2 := [some (mr 0), none, some (mi x2), some (mi (jadd x3 1))]) dX9_school_123 (by decide) rfl (by decide) rfl ?_
    refine WP.goto (tgt := 90) dX9_school_126 (by decide) ?_
    exact h
set_option maxRecDepth 100000 in
set_option maxHeartbeats 4000000 in
theorem b_X9_school_0_137 (x2 : Int) {σ : Mem} {Q : Int → Mem → Prop} (h : (σ 0 9 ≤ x2 → Q (σ 0 4) σ) ∧ (¬ σ 0 9 ≤ x2 → (0 ≤ x2 ∧ x2 < 8) ∧ ((σ 6 x2 < 10 → WP GM M_X9_school 172 [some (mr 0), none, some (mi x2), none] [mi x2, mr 6] σ Q) ∧ (¬ σ 6 x2 < 10 → (0 ≤ x2 ∧ x2 < 8) ∧ ((¬ σ 6 x2 = 30 → WP GM M_X9_school 182 [some (mr 0), none, some (mi x2), none] [mi 0, mi x2, mr 6] σ Q) ∧ (σ 6 x2 = 30 → WP GM M_X9_school 172 [some (mr 0), none, some (mi x2), none] [mi x2, mr 6] σ Q)))))) : WP GM M_X9_school 137 [some (mr 0), none, some (mi x2), none] [] σ Q := by
  refine WP.iload_n dX9_school_137 rfl ?_
  refine WP.aload_n dX9_school_138 rfl ?_
  refine WP.getI (v := σ 0 9) fd_X9_89 dX9_school_139 k0 rfl rfl ?_
  refine WP.icmp_ge (tgt := 189) dX9_school_142 (by decide) (fun q => ?_) (fun q => ?_)
  · have h := h.1 q
    refine WP.aload_n dX9_school_189 rfl ?_
    refine WP.getI (v := σ 0 4) fd_X9_86 dX9_school_190 k0 rfl rfl ?_
    exact WP.iret rfl dX9_school_193 h
  · have h := h.2 q
    refine WP.aload_n dX9_school_145 rfl ?_
    refine WP.getR fd_X9_25 dX9_school_146 k0 rfl ?_
    refine WP.iload_n dX9_school_149 rfl ?_
    refine WP.aload_n dX9_school_150 rfl ?_
    refine WP.getR fd_X9_25 dX9_school_151 k0 rfl ?_
    refine WP.iload_n dX9_school_154 rfl ?_
    obtain ⟨hi, h⟩ := h
    refine WP.iald dX9_school_155 k6 hi ?_
    refine WP.bipush dX9_school_156 (by decide) bp_10 ?_
    refine WP.icmp_lt (tgt := 172) dX9_school_158 (by decide) (fun q => ?_) (fun q => ?_)
    · have h := h.1 q
      exact h
    · have h := h.2 q
      refine WP.aload_n dX9_school_161 rfl ?_
      refine WP.getR fd_X9_25 dX9_school_162 k0 rfl ?_
      refine WP.iload_n dX9_school_165 rfl ?_
      obtain ⟨hi, h⟩ := h
      refine WP.iald dX9_school_166 k6 hi ?_
      refine WP.bipush dX9_school_167 (by decide) bp_30 ?_
      refine WP.icmp_ne (tgt := 181) dX9_school_169 (by decide) (fun q => ?_) (fun q => ?_)
      · have h := h.1 q
        refine WP.iconst dX9_school_181 (by decide) ?_
        exact h
      · have h := h.2 q
        exact h
set_option maxRecDepth 100000 in
set_option maxHeartbeats 4000000 in
theorem b_X9_school_0_172 (x2 s0 : Int) {σ : Mem} {Q : Int → Mem → Prop} (h : (0 ≤ x2 ∧ x2 < 8) ∧ (WP GM M_X9_school 182 [some (mr 0), none, some (mi x2), none] [mi (σ 6 x2), mi s0, mr 6] σ Q)) : WP GM M_X9_school 172 [some (mr 0), none, some (mi x2), none] [mi s0, mr 6] σ Q := by
  refine WP.aload_n dX9_school_172 rfl ?_
  refine WP.getR fd_X9_25 dX9_school_173 k0 rfl ?_
  refine WP.iload_n dX9_school_176 rfl ?_
  obtain ⟨hi, h⟩ := h
  refine WP.iald dX9_school_177 k6 hi ?_
  refine WP.goto (tgt := 182) dX9_school_178 (by decide) ?_
  exact h
set_option maxRecDepth 100000 in
set_option maxHeartbeats 4000000 in
theorem b_X9_school_0_182 (x2 s0 s1 : Int) {σ : Mem} {Q : Int → Mem → Prop} (h : (0 ≤ s1 ∧ s1 < 8) ∧ (WP GM M_X9_school 137 [some (mr 0), none, some (mi (jadd x2 1)), none] [] (mupd σ 6 s1 s0) Q)) : WP GM M_X9_school 182 [some (mr 0), none, some (mi x2), none] [mi s0, mi s1, mr 6] σ Q := by
  obtain ⟨hi, h⟩ := h
  refine WP.iast dX9_school_182 k6 hi ?_
  refine WP.iinc (L2 := [some (mr 0), none, some (mi (jadd x2 1)), none]) dX9_school_183 (by decide) rfl (by decide) rfl ?_
  refine WP.goto (tgt := 137) dX9_school_186 (by decide) ?_
  exact h
theorem dX9_readAct_0 : decode cX9_readAct 0 = .ok (.aload_n 0, 1) := by decide +kernel
theorem dX9_readAct_1 : decode cX9_readAct 1 = .ok (.invokevirtual 144, 3) := by decide +kernel
theorem dX9_readAct_4 : decode cX9_readAct 4 = .ok (.istore_n 2, 1) := by decide +kernel
theorem dX9_readAct_5 : decode cX9_readAct 5 = .ok (.iload_n 2, 1) := by decide +kernel
theorem dX9_readAct_6 : decode cX9_readAct 6 = .ok (.bipush 112, 2) := by decide +kernel
theorem dX9_readAct_8 : decode cX9_readAct 8 = .ok (.if_icmp .eq 29, 3) := by decide +kernel
theorem dX9_readAct_11 : decode cX9_readAct 11 = .ok (.iload_n 2, 1) := by decide +kernel
theorem dX9_readAct_12 : decode cX9_readAct 12 = .ok (.bipush 116, 2) := by decide +kernel
theorem dX9_readAct_14 : decode cX9_readAct 14 = .ok (.if_icmp .eq 23, 3) := by decide +kernel
theorem dX9_readAct_17 : decode cX9_readAct 17 = .ok (.iload_n 2, 1) := by decide +kernel
theorem dX9_readAct_18 : decode cX9_readAct 18 = .ok (.bipush 115, 2) := by decide +kernel
theorem dX9_readAct_20 : decode cX9_readAct 20 = .ok (.if_icmp .eq 17, 3) := by decide +kernel
theorem dX9_readAct_23 : decode cX9_readAct 23 = .ok (.iload_n 2, 1) := by decide +kernel
theorem dX9_readAct_24 : decode cX9_readAct 24 = .ok (.bipush 103, 2) := by decide +kernel
theorem dX9_readAct_26 : decode cX9_readAct 26 = .ok (.if_icmp .eq 11, 3) := by decide +kernel
theorem dX9_readAct_29 : decode cX9_readAct 29 = .ok (.iload_n 2, 1) := by decide +kernel
theorem dX9_readAct_30 : decode cX9_readAct 30 = .ok (.bipush 98, 2) := by decide +kernel
theorem dX9_readAct_32 : decode cX9_readAct 32 = .ok (.if_icmp .eq 5, 3) := by decide +kernel
theorem dX9_readAct_35 : decode cX9_readAct 35 = .ok (.iconst 0, 1) := by decide +kernel
theorem dX9_readAct_36 : decode cX9_readAct 36 = .ok (.ireturn, 1) := by decide +kernel
theorem dX9_readAct_37 : decode cX9_readAct 37 = .ok (.aload_n 0, 1) := by decide +kernel
theorem dX9_readAct_38 : decode cX9_readAct 38 = .ok (.dup, 1) := by decide +kernel
theorem dX9_readAct_39 : decode cX9_readAct 39 = .ok (.getfield 141, 3) := by decide +kernel
theorem dX9_readAct_42 : decode cX9_readAct 42 = .ok (.iconst 1, 1) := by decide +kernel
theorem dX9_readAct_43 : decode cX9_readAct 43 = .ok (.iadd, 1) := by decide +kernel
theorem dX9_readAct_44 : decode cX9_readAct 44 = .ok (.putfield 141, 3) := by decide +kernel
theorem dX9_readAct_47 : decode cX9_readAct 47 = .ok (.aload_n 0, 1) := by decide +kernel
theorem dX9_readAct_48 : decode cX9_readAct 48 = .ok (.getfield 44, 3) := by decide +kernel
theorem dX9_readAct_51 : decode cX9_readAct 51 = .ok (.iload_n 1, 1) := by decide +kernel
theorem dX9_readAct_52 : decode cX9_readAct 52 = .ok (.iload_n 2, 1) := by decide +kernel
theorem dX9_readAct_53 : decode cX9_readAct 53 = .ok (.iastore, 1) := by decide +kernel
theorem dX9_readAct_54 : decode cX9_readAct 54 = .ok (.iload_n 2, 1) := by decide +kernel
theorem dX9_readAct_55 : decode cX9_readAct 55 = .ok (.bipush 98, 2) := by decide +kernel
theorem dX9_readAct_57 : decode cX9_readAct 57 = .ok (.if_icmp .ne 5, 3) := by decide +kernel
theorem dX9_readAct_60 : decode cX9_readAct 60 = .ok (.iconst 1, 1) := by decide +kernel
theorem dX9_readAct_61 : decode cX9_readAct 61 = .ok (.ireturn, 1) := by decide +kernel
theorem dX9_readAct_62 : decode cX9_readAct 62 = .ok (.aload_n 0, 1) := by decide +kernel
theorem dX9_readAct_63 : decode cX9_readAct 63 = .ok (.getfield 44, 3) := by decide +kernel
theorem dX9_readAct_66 : decode cX9_readAct 66 = .ok (.iload_n 1, 1) := by decide +kernel
theorem dX9_readAct_67 : decode cX9_readAct 67 = .ok (.iconst 1, 1) := by decide +kernel
theorem dX9_readAct_68 : decode cX9_readAct 68 = .ok (.iadd, 1) := by decide +kernel
theorem dX9_readAct_69 : decode cX9_readAct 69 = .ok (.aload_n 0, 1) := by decide +kernel
theorem dX9_readAct_70 : decode cX9_readAct 70 = .ok (.iload_n 2, 1) := by decide +kernel
theorem dX9_readAct_71 : decode cX9_readAct 71 = .ok (.bipush 115, 2) := by decide +kernel
theorem dX9_readAct_73 : decode cX9_readAct 73 = .ok (.if_icmp .ne 12, 3) := by decide +kernel
theorem dX9_readAct_76 : decode cX9_readAct 76 = .ok (.aload_n 0, 1) := by decide +kernel
theorem dX9_readAct_77 : decode cX9_readAct 77 = .ok (.getfield 86, 3) := by decide +kernel
theorem dX9_readAct_80 : decode cX9_readAct 80 = .ok (.iconst 1, 1) := by decide +kernel
theorem dX9_readAct_81 : decode cX9_readAct 81 = .ok (.isub, 1) := by decide +kernel
theorem dX9_readAct_82 : decode cX9_readAct 82 = .ok (.goto 9, 3) := by decide +kernel
theorem dX9_readAct_85 : decode cX9_readAct 85 = .ok (.aload_n 0, 1) := by decide +kernel
theorem dX9_readAct_86 : decode cX9_readAct 86 = .ok (.getfield 89, 3) := by decide +kernel
theorem dX9_readAct_89 : decode cX9_readAct 89 = .ok (.iconst 1, 1) := by decide +kernel
theorem dX9_readAct_90 : decode cX9_readAct 90 = .ok (.isub, 1) := by decide +kernel
theorem dX9_readAct_91 : decode cX9_readAct 91 = .ok (.invokevirtual 156, 3) := by decide +kernel
theorem dX9_readAct_94 : decode cX9_readAct 94 = .ok (.iastore, 1) := by decide +kernel
theorem dX9_readAct_95 : decode cX9_readAct 95 = .ok (.aload_n 0, 1) := by decide +kernel
theorem dX9_readAct_96 : decode cX9_readAct 96 = .ok (.getfield 44, 3) := by decide +kernel
theorem dX9_readAct_99 : decode cX9_readAct 99 = .ok (.iload_n 1, 1) := by decide +kernel
theorem dX9_readAct_100 : decode cX9_readAct 100 = .ok (.iconst 1, 1) := by decide +kernel
theorem dX9_readAct_101 : decode cX9_readAct 101 = .ok (.iadd, 1) := by decide +kernel
theorem dX9_readAct_102 : decode cX9_readAct 102 = .ok (.iaload, 1) := by decide +kernel
theorem dX9_readAct_103 : decode cX9_readAct 103 = .ok (.ifCond .lt 9, 3) := by decide +kernel
theorem dX9_readAct_106 : decode cX9_readAct 106 = .ok (.iload_n 2, 1) := by decide +kernel
theorem dX9_readAct_107 : decode cX9_readAct 107 = .ok (.bipush 115, 2) := by decide +kernel
theorem dX9_readAct_109 : decode cX9_readAct 109 = .ok (.if_icmp .ne 20, 3) := by decide +kernel
theorem dX9_readAct_112 : decode cX9_readAct 112 = .ok (.aload_n 0, 1) := by decide +kernel
theorem dX9_readAct_113 : decode cX9_readAct 113 = .ok (.getfield 44, 3) := by decide +kernel
theorem dX9_readAct_116 : decode cX9_readAct 116 = .ok (.iload_n 1, 1) := by decide +kernel
theorem dX9_readAct_117 : decode cX9_readAct 117 = .ok (.iconst 1, 1) := by decide +kernel
theorem dX9_readAct_118 : decode cX9_readAct 118 = .ok (.iadd, 1) := by decide +kernel
theorem dX9_readAct_119 : decode cX9_readAct 119 = .ok (.iaload, 1) := by decide +kernel
theorem dX9_readAct_120 : decode cX9_readAct 120 = .ok (.ifCond .lt 7, 3) := by decide +kernel
theorem dX9_readAct_123 : decode cX9_readAct 123 = .ok (.iconst 1, 1) := by decide +kernel
theorem dX9_readAct_124 : decode cX9_readAct 124 = .ok (.goto 4, 3) := by decide +kernel
theorem dX9_readAct_127 : decode cX9_readAct 127 = .ok (.iconst 0, 1) := by decide +kernel
theorem dX9_readAct_128 : decode cX9_readAct 128 = .ok (.ireturn, 1) := by decide +kernel
theorem dX9_readAct_129 : decode cX9_readAct 129 = .ok (.aload_n 0, 1) := by decide +kernel
theorem dX9_readAct_130 : decode cX9_readAct 130 = .ok (.invokevirtual 144, 3) := by decide +kernel
theorem dX9_readAct_133 : decode cX9_readAct 133 = .ok (.bipush 62, 2) := by decide +kernel
theorem dX9_readAct_135 : decode cX9_readAct 135 = .ok (.if_icmp .eq 5, 3) := by decide +kernel
theorem dX9_readAct_138 : decode cX9_readAct 138 = .ok (.iconst 0, 1) := by decide +kernel
theorem dX9_readAct_139 : decode cX9_readAct 139 = .ok (.ireturn, 1) := by decide +kernel
theorem dX9_readAct_140 : decode cX9_readAct 140 = .ok (.aload_n 0, 1) := by decide +kernel
theorem dX9_readAct_141 : decode cX9_readAct 141 = .ok (.dup, 1) := by decide +kernel
theorem dX9_readAct_142 : decode cX9_readAct 142 = .ok (.getfield 141, 3) := by decide +kernel
theorem dX9_readAct_145 : decode cX9_readAct 145 = .ok (.iconst 1, 1) := by decide +kernel
theorem dX9_readAct_146 : decode cX9_readAct 146 = .ok (.iadd, 1) := by decide +kernel
theorem dX9_readAct_147 : decode cX9_readAct 147 = .ok (.putfield 141, 3) := by decide +kernel
theorem dX9_readAct_150 : decode cX9_readAct 150 = .ok (.aload_n 0, 1) := by decide +kernel
theorem dX9_readAct_151 : decode cX9_readAct 151 = .ok (.getfield 44, 3) := by decide +kernel
theorem dX9_readAct_154 : decode cX9_readAct 154 = .ok (.iload_n 1, 1) := by decide +kernel
theorem dX9_readAct_155 : decode cX9_readAct 155 = .ok (.iconst 2, 1) := by decide +kernel
theorem dX9_readAct_156 : decode cX9_readAct 156 = .ok (.iadd, 1) := by decide +kernel
theorem dX9_readAct_157 : decode cX9_readAct 157 = .ok (.aload_n 0, 1) := by decide +kernel
theorem dX9_readAct_158 : decode cX9_readAct 158 = .ok (.iload_n 2, 1) := by decide +kernel
theorem dX9_readAct_159 : decode cX9_readAct 159 = .ok (.bipush 103, 2) := by decide +kernel
theorem dX9_readAct_161 : decode cX9_readAct 161 = .ok (.if_icmp .ne 8, 3) := by decide +kernel
theorem dX9_readAct_164 : decode cX9_readAct 164 = .ok (.bipush 7, 2) := by decide +kernel
theorem dX9_readAct_166 : decode cX9_readAct 166 = .ok (.goto 9, 3) := by decide +kernel
theorem dX9_readAct_169 : decode cX9_readAct 169 = .ok (.aload_n 0, 1) := by decide +kernel
theorem dX9_readAct_170 : decode cX9_readAct 170 = .ok (.getfield 86, 3) := by decide +kernel
theorem dX9_readAct_173 : decode cX9_readAct 173 = .ok (.iconst 1, 1) := by decide +kernel
theorem dX9_readAct_174 : decode cX9_readAct 174 = .ok (.isub, 1) := by decide +kernel
theorem dX9_readAct_175 : decode cX9_readAct 175 = .ok (.invokevirtual 156, 3) := by decide +kernel
theorem dX9_readAct_178 : decode cX9_readAct 178 = .ok (.iastore, 1) := by decide +kernel
theorem dX9_readAct_179 : decode cX9_readAct 179 = .ok (.aload_n 0, 1) := by decide +kernel
theorem dX9_readAct_180 : decode cX9_readAct 180 = .ok (.getfield 44, 3) := by decide +kernel
theorem dX9_readAct_183 : decode cX9_readAct 183 = .ok (.iload_n 1, 1) := by decide +kernel
theorem dX9_readAct_184 : decode cX9_readAct 184 = .ok (.iconst 2, 1) := by decide +kernel
theorem dX9_readAct_185 : decode cX9_readAct 185 = .ok (.iadd, 1) := by decide +kernel
theorem dX9_readAct_186 : decode cX9_readAct 186 = .ok (.iaload, 1) := by decide +kernel
theorem dX9_readAct_187 : decode cX9_readAct 187 = .ok (.ifCond .lt 7, 3) := by decide +kernel
theorem dX9_readAct_190 : decode cX9_readAct 190 = .ok (.iconst 1, 1) := by decide +kernel
theorem dX9_readAct_191 : decode cX9_readAct 191 = .ok (.goto 4, 3) := by decide +kernel
theorem dX9_readAct_194 : decode cX9_readAct 194 = .ok (.iconst 0, 1) := by decide +kernel
theorem dX9_readAct_195 : decode cX9_readAct 195 = .ok (.ireturn, 1) := by decide +kernel
set_option maxRecDepth 100000 in
set_option maxHeartbeats 4000000 in
theorem e_X9_readAct_0 (x1 : Int) {σ : Mem} {Q : Int → Mem → Prop} (h : HT GM M_X9_nextByte [mr 0] σ (fun r1 σ1 => (r1 = 112 → WP GM M_X9_readAct 37 [some (mr 0), some (mi x1), some (mi r1)] [] σ1 Q) ∧ (¬ r1 = 112 → (r1 = 116 → WP GM M_X9_readAct 37 [some (mr 0), some (mi x1), some (mi r1)] [] σ1 Q) ∧ (¬ r1 = 116 → (r1 = 115 → WP GM M_X9_readAct 37 [some (mr 0), some (mi x1), some (mi r1)] [] σ1 Q) ∧ (¬ r1 = 115 → (r1 = 103 → WP GM M_X9_readAct 37 [some (mr 0), some (mi x1), some (mi r1)] [] σ1 Q) ∧ (¬ r1 = 103 → (r1 = 98 → WP GM M_X9_readAct 37 [some (mr 0), some (mi x1), some (mi r1)] [] σ1 Q) ∧ (¬ r1 = 98 → Q 0 σ1))))))) : HT GM M_X9_readAct [mr 0, mi x1] σ Q := by
  refine HT.of pn_X9 (Nat.le_of_ble_eq_true rfl) ?_
  show WP GM M_X9_readAct 0 [some (mr 0), some (mi x1), none] [] σ Q
  refine WP.aload_n dX9_readAct_0 rfl ?_
  refine WP.callV M_X9_nextByte [] cv_X9_nextByte dX9_readAct_1 lk_X9_144 k0 rfl ft_X9_readAct__X9_nextByte rfl (Nat.le_of_ble_eq_true rfl) (HT.mono h ?_)
  rintro r1 σ1 - - h
  refine WP.istore_n (L2 := [some (mr 0), some (mi x1), some (mi r1)]) dX9_readAct_4 (by decide) rfl ?_
  refine WP.iload_n dX9_readAct_5 rfl ?_
  refine WP.bipush dX9_readAct_6 (by decide) bp_112 ?_
  refine WP.icmp_eq (tgt := 37) dX9_readAct_8 (by decide) (fun q => ?_) (fun q => ?_)
  · have h := h.1 q
    exact h
  · have h := h.2 q
    refine WP.iload_n dX9_readAct_11 rfl ?_
    refine WP.bipush dX9_readAct_12 (by decide) bp_116 ?_
    refine WP.icmp_eq (tgt := 37) dX9_readAct_14 (by decide) (fun q => ?_) (fun q => ?_)
    · have h := h.1 q
      exact h
    · have h := h.2 q
      refine WP.iload_n dX9_readAct_17 rfl ?_
      refine WP.bipush dX9_readAct_18 (by decide) bp_115 ?_
      refine WP.icmp_eq (tgt := 37) dX9_readAct_20 (by decide) (fun q => ?_) (fun q => ?_)
      · have h := h.1 q
        exact h
      · have h := h.2 q
        refine WP.iload_n dX9_readAct_23 rfl ?_
        refine WP.bipush dX9_readAct_24 (by decide) bp_103 ?_
        refine WP.icmp_eq (tgt := 37) dX9_readAct_26 (by decide) (fun q => ?_) (fun q => ?_)
        · have h := h.1 q
          exact h
        · have h := h.2 q
          refine WP.iload_n dX9_readAct_29 rfl ?_
          refine WP.bipush dX9_readAct_30 (by decide) bp_98 ?_
          refine WP.icmp_eq (tgt := 37) dX9_readAct_32 (by decide) (fun q => ?_) (fun q => ?_)
          · have h := h.1 q
            exact h
          · have h := h.2 q
            refine WP.iconst dX9_readAct_35 (by decide) ?_
            exact WP.zret rfl dX9_readAct_36 (by decide) h
set_option maxRecDepth 100000 in
set_option maxHeartbeats 4000000 in
theorem b_X9_readAct_0_37 (x1 x2 : Int) {σ : Mem} {Q : Int → Mem → Prop} (h : (0 ≤ x1 ∧ x1 < 160) ∧ ((¬ x2 = 98 → (¬ x2 = 115 → WP GM M_X9_readAct 91 [some (mr 0), some (mi x1), some (mi x2)] [mi (jsub (σ 0 9) 1), mr 0, mi (jadd x1 1), mr 11] (mupd (mupd σ 0 15 (jadd (σ 0 15) 1)) 11 x1 x2) Q) ∧ (x2 = 115 → WP GM M_X9_readAct 91 [some (mr 0), some (mi x1), some (mi x2)] [mi (jsub (σ 0 4) 1), mr 0, mi (jadd x1 1), mr 11] (mupd (mupd σ 0 15 (jadd (σ 0 15) 1)) 11 x1 x2) Q)) ∧ (x2 = 98 → Q 1 (mupd (mupd σ 0 15 (jadd (σ 0 15) 1)) 11 x1 x2)))) : WP GM M_X9_readAct 37 [some (mr 0), some (mi x1), some (mi x2)] [] σ Q := by
  refine WP.aload_n dX9_readAct_37 rfl ?_
  refine WP.dup dX9_readAct_38 rfl ?_
  refine WP.getI (v := σ 0 15) fd_X9_141 dX9_readAct_39 k0 rfl rfl ?_
  refine WP.iconst dX9_readAct_42 (by decide) ?_
  refine WP.iadd dX9_readAct_43 ?_
  refine WP.put fp_X9_141 dX9_readAct_44 k0 rfl rfl rfl ?_
  refine WP.aload_n dX9_readAct_47 rfl ?_
  refine WP.getR fd_X9_44 dX9_readAct_48 k0 rfl ?_
  refine WP.iload_n dX9_readAct_51 rfl ?_
  refine WP.iload_n dX9_readAct_52 rfl ?_
  obtain ⟨hi, h⟩ := h
  refine WP.iast dX9_readAct_53 k11 hi ?_
  refine WP.iload_n dX9_readAct_54 rfl ?_
  refine WP.bipush dX9_readAct_55 (by decide) bp_98 ?_
  refine WP.icmp_ne (tgt := 62) dX9_readAct_57 (by decide) (fun q => ?_) (fun q => ?_)
  · have h := h.1 q
    refine WP.aload_n dX9_readAct_62 rfl ?_
    refine WP.getR fd_X9_44 dX9_readAct_63 k0 rfl ?_
    refine WP.iload_n dX9_readAct_66 rfl ?_
    refine WP.iconst dX9_readAct_67 (by decide) ?_
    refine WP.iadd dX9_readAct_68 ?_
    refine WP.aload_n dX9_readAct_69 rfl ?_
    refine WP.iload_n dX9_readAct_70 rfl ?_
    refine WP.bipush dX9_readAct_71 (by decide) bp_115 ?_
    refine WP.icmp_ne (tgt := 85) dX9_readAct_73 (by decide) (fun q => ?_) (fun q => ?_)
    · have h := h.1 q
      refine WP.aload_n dX9_readAct_85 rfl ?_
      refine WP.getI (v := σ 0 9) fd_X9_89 dX9_readAct_86 k0 rfl ((mupd_rp (by decide)).trans (mupd_ri (by decide))) ?_
      refine WP.iconst dX9_readAct_89 (by decide) ?_
      refine WP.isub dX9_readAct_90 ?_
      exact h
    · have h := h.2 q
      refine WP.aload_n dX9_readAct_76 rfl ?_
      refine WP.getI (v := σ 0 4) fd_X9_86 dX9_readAct_77 k0 rfl ((mupd_rp (by decide)).trans (mupd_ri (by decide))) ?_
      refine WP.iconst dX9_readAct_80 (by decide) ?_
      refine WP.isub dX9_readAct_81 ?_
      refine WP.goto (tgt := 91) dX9_readAct_82 (by decide) ?_
      exact h
  · have h := h.2 q
    refine WP.iconst dX9_readAct_60 (by decide) ?_
    exact WP.zret rfl dX9_readAct_61 (by decide) h
set_option maxRecDepth 100000 in
set_option maxHeartbeats 4000000 in
theorem b_X9_readAct_0_91 (x1 x2 s0 s2 : Int) {σ : Mem} {Q : Int → Mem → Prop} (h : HT GM M_X9_readDigit [mr 0, mi s0] σ (fun r91 σ91 => (0 ≤ s2 ∧ s2 < 160) ∧ ((0 ≤ jadd x1 1 ∧ jadd x1 1 < 160) ∧ (((mupd σ91 11 s2 r91) 11 (jadd x1 1) < 0 → WP GM M_X9_readAct 112 [some (mr 0), some (mi x1), none] [] (mupd σ91 11 s2 r91) Q) ∧ (¬ (mupd σ91 11 s2 r91) 11 (jadd x1 1) < 0 → (¬ x2 = 115 → HT GM M_X9_nextByte [mr 0] (mupd σ91 11 s2 r91) (fun r130 σ130 => (r130 = 62 → (¬ x2 = 103 → WP GM M_X9_readAct 175 [some (mr 0), some (mi x1), none] [mi (jsub (σ130 0 4) 1), mr 0, mi (jadd x1 2), mr 11] (mupd σ130 0 15 (jadd (σ130 0 15) 1)) Q) ∧ (x2 = 103 → WP GM M_X9_readAct 175 [some (mr 0), some (mi x1), none] [mi 7, mr 0, mi (jadd x1 2), mr 11] (mupd σ130 0 15 (jadd (σ130 0 15) 1)) Q)) ∧ (¬ r130 = 62 → Q 0 σ130))) ∧ (x2 = 115 → WP GM M_X9_readAct 112 [some (mr 0), some (mi x1), none] [] (mupd σ91 11 s2 r91) Q)))))) : WP GM M_X9_readAct 91 [some (mr 0), some (mi x1), some (mi x2)] [mi s0, mr 0, mi s2, mr 11] σ Q := by
  refine WP.callV M_X9_readDigit [mi s0] cv_X9_readDigit dX9_readAct_91 lk_X9_156 k0 rfl ft_X9_readAct__X9_readDigit rfl (Nat.le_of_ble_eq_true rfl) (HT.mono h ?_)
  rintro r91 σ91 - - h
  obtain ⟨hi, h⟩ := h
  refine WP.iast dX9_readAct_94 k11 hi ?_
  refine WP.aload_n dX9_readAct_95 rfl ?_
  refine WP.getR fd_X9_44 dX9_readAct_96 k0 rfl ?_
  refine WP.iload_n dX9_readAct_99 rfl ?_
  refine WP.iconst dX9_readAct_100 (by decide) ?_
  refine WP.iadd dX9_readAct_101 ?_
  obtain ⟨hi, h⟩ := h
  refine WP.iald dX9_readAct_102 k11 hi ?_
  refine WP.if_lt (tgt := 112) dX9_readAct_103 (by decide) (fun q => ?_) (fun q => ?_)
  · have h := h.1 q
    refine WP.drop 2 (L2 := [some (mr 0), some (mi x1), none]) rfl ?_
    exact h
  · have h := h.2 q
    refine WP.iload_n dX9_readAct_106 rfl ?_
    refine WP.bipush dX9_readAct_107 (by decide) bp_115 ?_
    refine WP.icmp_ne (tgt := 129) dX9_readAct_109 (by decide) (fun q => ?_) (fun q => ?_)
    · have h := h.1 q
      refine WP.aload_n dX9_readAct_129 rfl ?_
      refine WP.callV M_X9_nextByte [] cv_X9_nextByte dX9_readAct_130 lk_X9_144 k0 rfl ft_X9_readAct__X9_nextByte rfl (Nat.le_of_ble_eq_true rfl) (HT.mono h ?_)
      rintro r130 σ130 - - h
      refine WP.bipush dX9_readAct_133 (by decide) bp_62 ?_
      refine WP.icmp_eq (tgt := 140) dX9_readAct_135 (by decide) (fun q => ?_) (fun q => ?_)
      · have h := h.1 q
        refine WP.aload_n dX9_readAct_140 rfl ?_
        refine WP.dup dX9_readAct_141 rfl ?_
        refine WP.getI (v := σ130 0 15) fd_X9_141 dX9_readAct_142 k0 rfl rfl ?_
        refine WP.iconst dX9_readAct_145 (by decide) ?_
        refine WP.iadd dX9_readAct_146 ?_
        refine WP.put fp_X9_141 dX9_readAct_147 k0 rfl rfl rfl ?_
        refine WP.aload_n dX9_readAct_150 rfl ?_
        refine WP.getR fd_X9_44 dX9_readAct_151 k0 rfl ?_
        refine WP.iload_n dX9_readAct_154 rfl ?_
        refine WP.iconst dX9_readAct_155 (by decide) ?_
        refine WP.iadd dX9_readAct_156 ?_
        refine WP.aload_n dX9_readAct_157 rfl ?_
        refine WP.iload_n dX9_readAct_158 rfl ?_
        refine WP.bipush dX9_readAct_159 (by decide) bp_103 ?_
        refine WP.icmp_ne (tgt := 169) dX9_readAct_161 (by decide) (fun q => ?_) (fun q => ?_)
        · have h := h.1 q
          refine WP.aload_n dX9_readAct_169 rfl ?_
          refine WP.getI (v := σ130 0 4) fd_X9_86 dX9_readAct_170 k0 rfl (mupd_ri (by decide)) ?_
          refine WP.iconst dX9_readAct_173 (by decide) ?_
          refine WP.isub dX9_readAct_174 ?_
          refine WP.drop 2 (L2 := [some (mr 0), some (mi x1), none]) rfl ?_
          exact h
        · have h := h.2 q
          refine WP.bipush dX9_readAct_164 (by decide) bp_7 ?_
          refine WP.goto (tgt := 175) dX9_readAct_166 (by decide) ?_
          refine WP.drop 2 (L2 := [some (mr 0), some (mi x1), none]) rfl ?_
          exact h
      · have h := h.2 q
        refine WP.iconst dX9_readAct_138 (by decide) ?_
        exact WP.zret rfl dX9_readAct_139 (by decide) h
    · have h := h.2 q
      refine WP.drop 2 (L2 := [some (mr 0), some (mi x1), none]) rfl ?_
      exact h
set_option maxRecDepth 100000 in
set_option maxHeartbeats 4000000 in
theorem b_X9_readAct_0_112 (x1 : Int) {σ : Mem} {Q : Int → Mem → Prop} (h : (0 ≤ jadd x1 1 ∧ jadd x1 1 < 160) ∧ ((σ 11 (jadd x1 1) < 0 → Q 0 σ) ∧ (¬ σ 11 (jadd x1 1) < 0 → Q 1 σ))) : WP GM M_X9_readAct 112 [some (mr 0), some (mi x1), none] [] σ Q := by
  refine WP.aload_n dX9_readAct_112 rfl ?_
  refine WP.getR fd_X9_44 dX9_readAct_113 k0 rfl ?_
  refine WP.iload_n dX9_readAct_116 rfl ?_
  refine WP.iconst dX9_readAct_117 (by decide) ?_
  refine WP.iadd dX9_readAct_118 ?_
  obtain ⟨hi, h⟩ := h
  refine WP.iald dX9_readAct_119 k11 hi ?_
  refine WP.if_lt (tgt := 127) dX9_readAct_120 (by decide) (fun q => ?_) (fun q => ?_)
  · have h := h.1 q
    refine WP.iconst dX9_readAct_127 (by decide) ?_
    exact WP.zret rfl dX9_readAct_128 (by decide) h
  · have h := h.2 q
    refine WP.iconst dX9_readAct_123 (by decide) ?_
    refine WP.goto (tgt := 128) dX9_readAct_124 (by decide) ?_
    exact WP.zret rfl dX9_readAct_128 (by decide) h
set_option maxRecDepth 100000 in
set_option maxHeartbeats 4000000 in
theorem b_X9_readAct_0_175 (x1 s0 s2 : Int) {σ : Mem} {Q : Int → Mem → Prop} (h : HT GM M_X9_readDigit [mr 0, mi s0] σ (fun r175 σ175 => (0 ≤ s2 ∧ s2 < 160) ∧ ((0 ≤ jadd x1 2 ∧ jadd x1 2 < 160) ∧ (((mupd σ175 11 s2 r175) 11 (jadd x1 2) < 0 → Q 0 (mupd σ175 11 s2 r175)) ∧ (¬ (mupd σ175 11 s2 r175) 11 (jadd x1 2) < 0 → Q 1 (mupd σ175 11 s2 r175)))))) : WP GM M_X9_readAct 175 [some (mr 0), some (mi x1), none] [mi s0, mr 0, mi s2, mr 11] σ Q := by
  refine WP.callV M_X9_readDigit [mi s0] cv_X9_readDigit dX9_readAct_175 lk_X9_156 k0 rfl ft_X9_readAct__X9_readDigit rfl (Nat.le_of_ble_eq_true rfl) (HT.mono h ?_)
  rintro r175 σ175 - - h
  obtain ⟨hi, h⟩ := h
  refine WP.iast dX9_readAct_178 k11 hi ?_
  refine WP.aload_n dX9_readAct_179 rfl ?_
  refine WP.getR fd_X9_44 dX9_readAct_180 k0 rfl ?_
  refine WP.iload_n dX9_readAct_183 rfl ?_
  refine WP.iconst dX9_readAct_184 (by decide) ?_
  refine WP.iadd dX9_readAct_185 ?_
  obtain ⟨hi, h⟩ := h
  refine WP.iald dX9_readAct_186 k11 hi ?_
  refine WP.if_lt (tgt := 194) dX9_readAct_187 (by decide) (fun q => ?_) (fun q => ?_)
  · have h := h.1 q
    refine WP.iconst dX9_readAct_194 (by decide) ?_
    exact WP.zret rfl dX9_readAct_195 (by decide) h
  · have h := h.2 q
    refine WP.iconst dX9_readAct_190 (by decide) ?_
    refine WP.goto (tgt := 195) dX9_readAct_191 (by decide) ?_
    exact WP.zret rfl dX9_readAct_195 (by decide) h
theorem dX9_readDay_0 : decode cX9_readDay 0 = .ok (.aload_n 0, 1) := by decide +kernel
theorem dX9_readDay_1 : decode cX9_readDay 1 = .ok (.iconst 0, 1) := by decide +kernel
theorem dX9_readDay_2 : decode cX9_readDay 2 = .ok (.putfield 141, 3) := by decide +kernel
theorem dX9_readDay_5 : decode cX9_readDay 5 = .ok (.aload_n 0, 1) := by decide +kernel
theorem dX9_readDay_6 : decode cX9_readDay 6 = .ok (.iconst 0, 1) := by decide +kernel
theorem dX9_readDay_7 : decode cX9_readDay 7 = .ok (.putfield 162, 3) := by decide +kernel
theorem dX9_readDay_10 : decode cX9_readDay 10 = .ok (.iconst 1, 1) := by decide +kernel
theorem dX9_readDay_11 : decode cX9_readDay 11 = .ok (.istore_n 1, 1) := by decide +kernel
theorem dX9_readDay_12 : decode cX9_readDay 12 = .ok (.iload_n 1, 1) := by decide +kernel
theorem dX9_readDay_13 : decode cX9_readDay 13 = .ok (.ifCond .eq 64, 3) := by decide +kernel
theorem dX9_readDay_16 : decode cX9_readDay 16 = .ok (.aload_n 0, 1) := by decide +kernel
theorem dX9_readDay_17 : decode cX9_readDay 17 = .ok (.iconst 3, 1) := by decide +kernel
theorem dX9_readDay_18 : decode cX9_readDay 18 = .ok (.aload_n 0, 1) := by decide +kernel
theorem dX9_readDay_19 : decode cX9_readDay 19 = .ok (.getfield 162, 3) := by decide +kernel
theorem dX9_readDay_22 : decode cX9_readDay 22 = .ok (.imul, 1) := by decide +kernel
theorem dX9_readDay_23 : decode cX9_readDay 23 = .ok (.invokevirtual 169, 3) := by decide +kernel
theorem dX9_readDay_26 : decode cX9_readDay 26 = .ok (.ifCond .ne 5, 3) := by decide +kernel
theorem dX9_readDay_29 : decode cX9_readDay 29 = .ok (.iconst 0, 1) := by decide +kernel
theorem dX9_readDay_30 : decode cX9_readDay 30 = .ok (.ireturn, 1) := by decide +kernel
theorem dX9_readDay_31 : decode cX9_readDay 31 = .ok (.aload_n 0, 1) := by decide +kernel
theorem dX9_readDay_32 : decode cX9_readDay 32 = .ok (.dup, 1) := by decide +kernel
theorem dX9_readDay_33 : decode cX9_readDay 33 = .ok (.getfield 162, 3) := by decide +kernel
theorem dX9_readDay_36 : decode cX9_readDay 36 = .ok (.iconst 1, 1) := by decide +kernel
theorem dX9_readDay_37 : decode cX9_readDay 37 = .ok (.iadd, 1) := by decide +kernel
theorem dX9_readDay_38 : decode cX9_readDay 38 = .ok (.putfield 162, 3) := by decide +kernel
theorem dX9_readDay_41 : decode cX9_readDay 41 = .ok (.aload_n 0, 1) := by decide +kernel
theorem dX9_readDay_42 : decode cX9_readDay 42 = .ok (.invokevirtual 144, 3) := by decide +kernel
theorem dX9_readDay_45 : decode cX9_readDay 45 = .ok (.bipush 59, 2) := by decide +kernel
theorem dX9_readDay_47 : decode cX9_readDay 47 = .ok (.if_icmp .ne 7, 3) := by decide +kernel
theorem dX9_readDay_50 : decode cX9_readDay 50 = .ok (.iconst 1, 1) := by decide +kernel
theorem dX9_readDay_51 : decode cX9_readDay 51 = .ok (.goto 4, 3) := by decide +kernel
theorem dX9_readDay_54 : decode cX9_readDay 54 = .ok (.iconst 0, 1) := by decide +kernel
theorem dX9_readDay_55 : decode cX9_readDay 55 = .ok (.istore_n 1, 1) := by decide +kernel
theorem dX9_readDay_56 : decode cX9_readDay 56 = .ok (.aload_n 0, 1) := by decide +kernel
theorem dX9_readDay_57 : decode cX9_readDay 57 = .ok (.dup, 1) := by decide +kernel
theorem dX9_readDay_58 : decode cX9_readDay 58 = .ok (.getfield 141, 3) := by decide +kernel
theorem dX9_readDay_61 : decode cX9_readDay 61 = .ok (.iload_n 1, 1) := by decide +kernel
theorem dX9_readDay_62 : decode cX9_readDay 62 = .ok (.ifCond .eq 7, 3) := by decide +kernel
theorem dX9_readDay_65 : decode cX9_readDay 65 = .ok (.iconst 1, 1) := by decide +kernel
theorem dX9_readDay_66 : decode cX9_readDay 66 = .ok (.goto 4, 3) := by decide +kernel
theorem dX9_readDay_69 : decode cX9_readDay 69 = .ok (.iconst 0, 1) := by decide +kernel
theorem dX9_readDay_70 : decode cX9_readDay 70 = .ok (.iadd, 1) := by decide +kernel
theorem dX9_readDay_71 : decode cX9_readDay 71 = .ok (.putfield 141, 3) := by decide +kernel
theorem dX9_readDay_74 : decode cX9_readDay 74 = .ok (.goto (-62), 3) := by decide +kernel
theorem dX9_readDay_77 : decode cX9_readDay 77 = .ok (.aload_n 0, 1) := by decide +kernel
theorem dX9_readDay_78 : decode cX9_readDay 78 = .ok (.invokevirtual 144, 3) := by decide +kernel
theorem dX9_readDay_81 : decode cX9_readDay 81 = .ok (.ifCond .ge 7, 3) := by decide +kernel
theorem dX9_readDay_84 : decode cX9_readDay 84 = .ok (.iconst 1, 1) := by decide +kernel
theorem dX9_readDay_85 : decode cX9_readDay 85 = .ok (.goto 4, 3) := by decide +kernel
theorem dX9_readDay_88 : decode cX9_readDay 88 = .ok (.iconst 0, 1) := by decide +kernel
theorem dX9_readDay_89 : decode cX9_readDay 89 = .ok (.ireturn, 1) := by decide +kernel
set_option maxRecDepth 100000 in
set_option maxHeartbeats 4000000 in
theorem e_X9_readDay_0 {σ : Mem} {Q : Int → Mem → Prop} (h : WP GM M_X9_readDay 12 [some (mr 0), some (mi 1)] [] (mupd (mupd σ 0 15 0) 0 16 0) Q) : HT GM M_X9_readDay [mr 0] σ Q := by
  refine HT.of pn_X9 (Nat.le_of_ble_eq_true rfl) ?_
  show WP GM M_X9_readDay 0 [some (mr 0), none] [] σ Q
  refine WP.aload_n dX9_readDay_0 rfl ?_
  refine WP.iconst dX9_readDay_1 (by decide) ?_
  refine WP.put fp_X9_141 dX9_readDay_2 k0 rfl rfl rfl ?_
  refine WP.aload_n dX9_readDay_5 rfl ?_
  refine WP.iconst dX9_readDay_6 (by decide) ?_
  refine WP.put fp_X9_162 dX9_readDay_7 k0 rfl rfl rfl ?_
  refine WP.iconst dX9_readDay_10 (by decide) ?_
  refine WP.istore_n (L2 := [some (mr 0), some (mi 1)]) dX9_readDay_11 (by decide) rfl ?_
  exact h
set_option maxRecDepth 100000 in
set_option maxHeartbeats 4000000 in
theorem b_X9_readDay_0_12 (x1 : Int) {σ : Mem} {Q : Int → Mem → Prop} (h : (x1 = 0 → HT GM M_X9_nextByte [mr 0] σ (fun r78 σ78 => (0 ≤ r78 → Q 0 σ78) ∧ (¬ 0 ≤ r78 → Q 1 σ78))) ∧ (¬ x1 = 0 → HT GM M_X9_readAct [mr 0, mi (jmul 3 (σ 0 16))] σ (fun r23 σ23 => (¬ r23 = 0 → HT GM M_X9_nextByte [mr 0] (mupd σ23 0 16 (jadd (σ23 0 16) 1)) (fun r42 σ42 => (¬ r42 = 59 → WP GM M_X9_readDay 55 [some (mr 0), none] [mi 0] σ42 Q) ∧ (r42 = 59 → WP GM M_X9_readDay 55 [some (mr 0), none] [mi 1] σ42 Q))) ∧ (r23 = 0 → Q 0 σ23)))) : WP GM M_X9_readDay 12 [some (mr 0), some (mi x1)] [] σ Q := by
  refine WP.iload_n dX9_readDay_12 rfl ?_
  refine WP.if_eq (tgt := 77) dX9_readDay_13 (by decide) (fun q => ?_) (fun q => ?_)
  · have h := h.1 q
    refine WP.aload_n dX9_readDay_77 rfl ?_
    refine WP.callV M_X9_nextByte [] cv_X9_nextByte dX9_readDay_78 lk_X9_144 k0 rfl ft_X9_readDay__X9_nextByte rfl (Nat.le_of_ble_eq_true rfl) (HT.mono h ?_)
    rintro r78 σ78 - - h
    refine WP.if_ge (tgt := 88) dX9_readDay_81 (by decide) (fun q => ?_) (fun q => ?_)
    · have h := h.1 q
      refine WP.iconst dX9_readDay_88 (by decide) ?_
      exact WP.zret rfl dX9_readDay_89 (by decide) h
    · have h := h.2 q
      refine WP.iconst dX9_readDay_84 (by decide) ?_
      refine WP.goto (tgt := 89) dX9_readDay_85 (by decide) ?_
      exact WP.zret rfl dX9_readDay_89 (by decide) h
  · have h := h.2 q
    refine WP.aload_n dX9_readDay_16 rfl ?_
    refine WP.iconst dX9_readDay_17 (by decide) ?_
    refine WP.aload_n dX9_readDay_18 rfl ?_
    refine WP.getI (v := σ 0 16) fd_X9_162 dX9_readDay_19 k0 rfl rfl ?_
    refine WP.imul dX9_readDay_22 ?_
    refine WP.callV M_X9_readAct [mi (jmul 3 (σ 0 16))] cv_X9_readAct dX9_readDay_23 lk_X9_169 k0 rfl ft_X9_readDay__X9_readAct rfl (Nat.le_of_ble_eq_true rfl) (HT.mono h ?_)
    rintro r23 σ23 - - h
    refine WP.if_ne (tgt := 31) dX9_readDay_26 (by decide) (fun q => ?_) (fun q => ?_)
    · have h := h.1 q
      refine WP.aload_n dX9_readDay_31 rfl ?_
      refine WP.dup dX9_readDay_32 rfl ?_
      refine WP.getI (v := σ23 0 16) fd_X9_162 dX9_readDay_33 k0 rfl rfl ?_
      refine WP.iconst dX9_readDay_36 (by decide) ?_
      refine WP.iadd dX9_readDay_37 ?_
      refine WP.put fp_X9_162 dX9_readDay_38 k0 rfl rfl rfl ?_
      refine WP.aload_n dX9_readDay_41 rfl ?_
      refine WP.callV M_X9_nextByte [] cv_X9_nextByte dX9_readDay_42 lk_X9_144 k0 rfl ft_X9_readDay__X9_nextByte rfl (Nat.le_of_ble_eq_true rfl) (HT.mono h ?_)
      rintro r42 σ42 - - h
      refine WP.bipush dX9_readDay_45 (by decide) bp_59 ?_
      refine WP.icmp_ne (tgt := 54) dX9_readDay_47 (by decide) (fun q => ?_) (fun q => ?_)
      · have h := h.1 q
        refine WP.iconst dX9_readDay_54 (by decide) ?_
        refine WP.drop 1 (L2 := [some (mr 0), none]) rfl ?_
        exact h
      · have h := h.2 q
        refine WP.iconst dX9_readDay_50 (by decide) ?_
        refine WP.goto (tgt := 55) dX9_readDay_51 (by decide) ?_
        refine WP.drop 1 (L2 := [some (mr 0), none]) rfl ?_
        exact h
    · have h := h.2 q
      refine WP.iconst dX9_readDay_29 (by decide) ?_
      exact WP.zret rfl dX9_readDay_30 (by decide) h
set_option maxRecDepth 100000 in
set_option maxHeartbeats 4000000 in
theorem b_X9_readDay_0_55 (s0 : Int) {σ : Mem} {Q : Int → Mem → Prop} (h : (s0 = 0 → WP GM M_X9_readDay 70 [some (mr 0), some (mi s0)] [mi 0, mi (σ 0 15), mr 0] σ Q) ∧ (¬ s0 = 0 → WP GM M_X9_readDay 70 [some (mr 0), some (mi s0)] [mi 1, mi (σ 0 15), mr 0] σ Q)) : WP GM M_X9_readDay 55 [some (mr 0), none] [mi s0] σ Q := by
  refine WP.istore_n (L2 := [some (mr 0), some (mi s0)]) dX9_readDay_55 (by decide) rfl ?_
  refine WP.aload_n dX9_readDay_56 rfl ?_
  refine WP.dup dX9_readDay_57 rfl ?_
  refine WP.getI (v := σ 0 15) fd_X9_141 dX9_readDay_58 k0 rfl rfl ?_
  refine WP.iload_n dX9_readDay_61 rfl ?_
  refine WP.if_eq (tgt := 69) dX9_readDay_62 (by decide) (fun q => ?_) (fun q => ?_)
  · have h := h.1 q
    refine WP.iconst dX9_readDay_69 (by decide) ?_
    exact h
  · have h := h.2 q
    refine WP.iconst dX9_readDay_65 (by decide) ?_
    refine WP.goto (tgt := 70) dX9_readDay_66 (by decide) ?_
    exact h
set_option maxRecDepth 100000 in
set_option maxHeartbeats 4000000 in
theorem b_X9_readDay_0_70 (x1 s0 s1 : Int) {σ : Mem} {Q : Int → Mem → Prop} (h : WP GM M_X9_readDay 12 [some (mr 0), some (mi x1)] [] (mupd σ 0 15 (jadd s1 s0)) Q) : WP GM M_X9_readDay 70 [some (mr 0), some (mi x1)] [mi s0, mi s1, mr 0] σ Q := by
  refine WP.iadd dX9_readDay_70 ?_
  refine WP.put fp_X9_141 dX9_readDay_71 k0 rfl rfl rfl ?_
  refine WP.goto (tgt := 12) dX9_readDay_74 (by decide) ?_
  exact h
theorem dX9_ring_0 : decode cX9_ring 0 = .ok (.aload_n 0, 1) := by decide +kernel
theorem dX9_ring_1 : decode cX9_ring 1 = .ok (.getfield 22, 3) := by decide +kernel
theorem dX9_ring_4 : decode cX9_ring 4 = .ok (.iload_n 1, 1) := by decide +kernel
theorem dX9_ring_5 : decode cX9_ring 5 = .ok (.iaload, 1) := by decide +kernel
theorem dX9_ring_6 : decode cX9_ring 6 = .ok (.iconst 1, 1) := by decide +kernel
theorem dX9_ring_7 : decode cX9_ring 7 = .ok (.if_icmp .ne 25, 3) := by decide +kernel
theorem dX9_ring_10 : decode cX9_ring 10 = .ok (.aload_n 0, 1) := by decide +kernel
theorem dX9_ring_11 : decode cX9_ring 11 = .ok (.getfield 31, 3) := by decide +kernel
theorem dX9_ring_14 : decode cX9_ring 14 = .ok (.iload_n 1, 1) := by decide +kernel
theorem dX9_ring_15 : decode cX9_ring 15 = .ok (.aload_n 0, 1) := by decide +kernel
theorem dX9_ring_16 : decode cX9_ring 16 = .ok (.iload_n 2, 1) := by decide +kernel
theorem dX9_ring_17 : decode cX9_ring 17 = .ok (.iconst 0, 1) := by decide +kernel
theorem dX9_ring_18 : decode cX9_ring 18 = .ok (.invokevirtual 114, 3) := by decide +kernel
theorem dX9_ring_21 : decode cX9_ring 21 = .ok (.iastore, 1) := by decide +kernel
theorem dX9_ring_22 : decode cX9_ring 22 = .ok (.aload_n 0, 1) := by decide +kernel
theorem dX9_ring_23 : decode cX9_ring 23 = .ok (.getfield 25, 3) := by decide +kernel
theorem dX9_ring_26 : decode cX9_ring 26 = .ok (.iload_n 1, 1) := by decide +kernel
theorem dX9_ring_27 : decode cX9_ring 27 = .ok (.bipush 30, 2) := by decide +kernel
theorem dX9_ring_29 : decode cX9_ring 29 = .ok (.iastore, 1) := by decide +kernel
theorem dX9_ring_30 : decode cX9_ring 30 = .ok (.iconst 0, 1) := by decide +kernel
theorem dX9_ring_31 : decode cX9_ring 31 = .ok (.ireturn, 1) := by decide +kernel
theorem dX9_ring_32 : decode cX9_ring 32 = .ok (.aload_n 0, 1) := by decide +kernel
theorem dX9_ring_33 : decode cX9_ring 33 = .ok (.getfield 22, 3) := by decide +kernel
theorem dX9_ring_36 : decode cX9_ring 36 = .ok (.iload_n 1, 1) := by decide +kernel
theorem dX9_ring_37 : decode cX9_ring 37 = .ok (.iaload, 1) := by decide +kernel
theorem dX9_ring_38 : decode cX9_ring 38 = .ok (.iconst 3, 1) := by decide +kernel
theorem dX9_ring_39 : decode cX9_ring 39 = .ok (.if_icmp .ne 22, 3) := by decide +kernel
theorem dX9_ring_42 : decode cX9_ring 42 = .ok (.aload_n 0, 1) := by decide +kernel
theorem dX9_ring_43 : decode cX9_ring 43 = .ok (.getfield 25, 3) := by decide +kernel
theorem dX9_ring_46 : decode cX9_ring 46 = .ok (.iload_n 1, 1) := by decide +kernel
theorem dX9_ring_47 : decode cX9_ring 47 = .ok (.bipush 10, 2) := by decide +kernel
theorem dX9_ring_49 : decode cX9_ring 49 = .ok (.iload_n 2, 1) := by decide +kernel
theorem dX9_ring_50 : decode cX9_ring 50 = .ok (.iconst 1, 1) := by decide +kernel
theorem dX9_ring_51 : decode cX9_ring 51 = .ok (.iadd, 1) := by decide +kernel
theorem dX9_ring_52 : decode cX9_ring 52 = .ok (.aload_n 0, 1) := by decide +kernel
theorem dX9_ring_53 : decode cX9_ring 53 = .ok (.getfield 86, 3) := by decide +kernel
theorem dX9_ring_56 : decode cX9_ring 56 = .ok (.irem, 1) := by decide +kernel
theorem dX9_ring_57 : decode cX9_ring 57 = .ok (.iadd, 1) := by decide +kernel
theorem dX9_ring_58 : decode cX9_ring 58 = .ok (.iastore, 1) := by decide +kernel
theorem dX9_ring_59 : decode cX9_ring 59 = .ok (.iconst 0, 1) := by decide +kernel
theorem dX9_ring_60 : decode cX9_ring 60 = .ok (.ireturn, 1) := by decide +kernel
theorem dX9_ring_61 : decode cX9_ring 61 = .ok (.aload_n 0, 1) := by decide +kernel
theorem dX9_ring_62 : decode cX9_ring 62 = .ok (.getfield 16, 3) := by decide +kernel
theorem dX9_ring_65 : decode cX9_ring 65 = .ok (.iload_n 2, 1) := by decide +kernel
theorem dX9_ring_66 : decode cX9_ring 66 = .ok (.iaload, 1) := by decide +kernel
theorem dX9_ring_67 : decode cX9_ring 67 = .ok (.ifCond .ne 5, 3) := by decide +kernel
theorem dX9_ring_70 : decode cX9_ring 70 = .ok (.iconst 0, 1) := by decide +kernel
theorem dX9_ring_71 : decode cX9_ring 71 = .ok (.ireturn, 1) := by decide +kernel
theorem dX9_ring_72 : decode cX9_ring 72 = .ok (.aload_n 0, 1) := by decide +kernel
theorem dX9_ring_73 : decode cX9_ring 73 = .ok (.aload_n 0, 1) := by decide +kernel
theorem dX9_ring_74 : decode cX9_ring 74 = .ok (.getfield 37, 3) := by decide +kernel
theorem dX9_ring_77 : decode cX9_ring 77 = .ok (.i2l, 1) := by decide +kernel
theorem dX9_ring_78 : decode cX9_ring 78 = .ok (.ldc2_w 200, 3) := by decide +kernel
theorem dX9_ring_81 : decode cX9_ring 81 = .ok (.lmul, 1) := by decide +kernel
theorem dX9_ring_82 : decode cX9_ring 82 = .ok (.ldc2_w 202, 3) := by decide +kernel
theorem dX9_ring_85 : decode cX9_ring 85 = .ok (.ladd, 1) := by decide +kernel
theorem dX9_ring_86 : decode cX9_ring 86 = .ok (.ldc2_w 204, 3) := by decide +kernel
theorem dX9_ring_89 : decode cX9_ring 89 = .ok (.land, 1) := by decide +kernel
theorem dX9_ring_90 : decode cX9_ring 90 = .ok (.l2i, 1) := by decide +kernel
theorem dX9_ring_91 : decode cX9_ring 91 = .ok (.putfield 37, 3) := by decide +kernel
theorem dX9_ring_94 : decode cX9_ring 94 = .ok (.aload_n 0, 1) := by decide +kernel
theorem dX9_ring_95 : decode cX9_ring 95 = .ok (.getfield 37, 3) := by decide +kernel
theorem dX9_ring_98 : decode cX9_ring 98 = .ok (.ldc 206, 2) := by decide +kernel
theorem dX9_ring_100 : decode cX9_ring 100 = .ok (.idiv, 1) := by decide +kernel
theorem dX9_ring_101 : decode cX9_ring 101 = .ok (.iconst 4, 1) := by decide +kernel
theorem dX9_ring_102 : decode cX9_ring 102 = .ok (.irem, 1) := by decide +kernel
theorem dX9_ring_103 : decode cX9_ring 103 = .ok (.aload_n 0, 1) := by decide +kernel
theorem dX9_ring_104 : decode cX9_ring 104 = .ok (.getfield 16, 3) := by decide +kernel
theorem dX9_ring_107 : decode cX9_ring 107 = .ok (.iload_n 2, 1) := by decide +kernel
theorem dX9_ring_108 : decode cX9_ring 108 = .ok (.iaload, 1) := by decide +kernel
theorem dX9_ring_109 : decode cX9_ring 109 = .ok (.if_icmp .ge 7, 3) := by decide +kernel
theorem dX9_ring_112 : decode cX9_ring 112 = .ok (.iconst 1, 1) := by decide +kernel
theorem dX9_ring_113 : decode cX9_ring 113 = .ok (.goto 4, 3) := by decide +kernel
theorem dX9_ring_116 : decode cX9_ring 116 = .ok (.iconst 0, 1) := by decide +kernel
theorem dX9_ring_117 : decode cX9_ring 117 = .ok (.istore_n 3, 1) := by decide +kernel
theorem dX9_ring_118 : decode cX9_ring 118 = .ok (.aload_n 0, 1) := by decide +kernel
theorem dX9_ring_119 : decode cX9_ring 119 = .ok (.getfield 25, 3) := by decide +kernel
theorem dX9_ring_122 : decode cX9_ring 122 = .ok (.iload_n 1, 1) := by decide +kernel
theorem dX9_ring_123 : decode cX9_ring 123 = .ok (.iload_n 3, 1) := by decide +kernel
theorem dX9_ring_124 : decode cX9_ring 124 = .ok (.ifCond .eq 10, 3) := by decide +kernel
theorem dX9_ring_127 : decode cX9_ring 127 = .ok (.bipush 20, 2) := by decide +kernel
theorem dX9_ring_129 : decode cX9_ring 129 = .ok (.iload_n 2, 1) := by decide +kernel
theorem dX9_ring_130 : decode cX9_ring 130 = .ok (.iadd, 1) := by decide +kernel
theorem dX9_ring_131 : decode cX9_ring 131 = .ok (.goto 9, 3) := by decide +kernel
theorem dX9_ring_134 : decode cX9_ring 134 = .ok (.aload_n 0, 1) := by decide +kernel
theorem dX9_ring_135 : decode cX9_ring 135 = .ok (.getfield 25, 3) := by decide +kernel
theorem dX9_ring_138 : decode cX9_ring 138 = .ok (.iload_n 1, 1) := by decide +kernel
theorem dX9_ring_139 : decode cX9_ring 139 = .ok (.iaload, 1) := by decide +kernel
theorem dX9_ring_140 : decode cX9_ring 140 = .ok (.iastore, 1) := by decide +kernel
theorem dX9_ring_141 : decode cX9_ring 141 = .ok (.iload_n 3, 1) := by decide +kernel
theorem dX9_ring_142 : decode cX9_ring 142 = .ok (.ireturn, 1) := by decide +kernel
set_option maxRecDepth 100000 in
set_option maxHeartbeats 4000000 in
theorem e_X9_ring_0 (x1 x2 : Int) {σ : Mem} {Q : Int → Mem → Prop} (h : (0 ≤ x1 ∧ x1 < 8) ∧ ((¬ σ 5 x1 = 1 → (0 ≤ x1 ∧ x1 < 8) ∧ ((¬ σ 5 x1 = 3 → (0 ≤ x2 ∧ x2 < 4) ∧ ((¬ σ 3 x2 = 0 → (0 ≤ x2 ∧ x2 < 4) ∧ ((σ 3 x2 ≤ jrem (jdiv (jl2i (jland (jladd (jlmul (σ 0 12) 1103515245) 12345) 2147483647)) 65536) 4 → WP GM M_X9_ring 117 [some (mr 0), some (mi x1), some (mi x2), none] [mi 0] (mupd σ 0 12 (jl2i (jland (jladd (jlmul (σ 0 12) 1103515245) 12345) 2147483647))) Q) ∧ (¬ σ 3 x2 ≤ jrem (jdiv (jl2i (jland (jladd (jlmul (σ 0 12) 1103515245) 12345) 2147483647)) 65536) 4 → WP GM M_X9_ring 117 [some (mr 0), some (mi x1), some (mi x2), none] [mi 1] (mupd σ 0 12 (jl2i (jland (jladd (jlmul (σ 0 12) 1103515245) 12345) 2147483647))) Q))) ∧ (σ 3 x2 = 0 → Q 0 σ))) ∧ (σ 5 x1 = 3 → (¬ σ 0 4 = 0) ∧ ((0 ≤ x1 ∧ x1 < 8) ∧ (Q 0 (mupd σ 6 x1 (jadd 10 (jrem (jadd x2 1) (σ 0 4))))))))) ∧ (σ 5 x1 = 1 → HT GM M_X9_wearer [mr 0, mi x2, mi 0] σ (fun r18 σ18 => (0 ≤ x1 ∧ x1 < 8) ∧ ((0 ≤ x1 ∧ x1 < 8) ∧ (Q 0 (mupd (mupd σ18 8 x1 r18) 6 x1 30))))))) : HT GM M_X9_ring [mr 0, mi x1, mi x2] σ Q := by
  refine HT.of pn_X9 (Nat.le_of_ble_eq_true rfl) ?_
  show WP GM M_X9_ring 0 [some (mr 0), some (mi x1), some (mi x2), none] [] σ Q
  refine WP.aload_n dX9_ring_0 rfl ?_
  refine WP.getR fd_X9_22 dX9_ring_1 k0 rfl ?_
  refine WP.iload_n dX9_ring_4 rfl ?_
  obtain ⟨hi, h⟩ := h
  refine WP.iald dX9_ring_5 k5 hi ?_
  refine WP.iconst dX9_ring_6 (by decide) ?_
  refine WP.icmp_ne (tgt := 32) dX9_ring_7 (by decide) (fun q => ?_) (fun q => ?_)
  · have h := h.1 q
    refine WP.aload_n dX9_ring_32 rfl ?_
    refine WP.getR fd_X9_22 dX9_ring_33 k0 rfl ?_
    refine WP.iload_n dX9_ring_36 rfl ?_
    obtain ⟨hi, h⟩ := h
    refine WP.iald dX9_ring_37 k5 hi ?_
    refine WP.iconst dX9_ring_38 (by decide) ?_
    refine WP.icmp_ne (tgt := 61) dX9_ring_39 (by decide) (fun q => ?_) (fun q => ?_)
    · have h := h.1 q
      refine WP.aload_n dX9_ring_61 rfl ?_
      refine WP.getR fd_X9_16 dX9_ring_62 k0 rfl ?_
      refine WP.iload_n dX9_ring_65 rfl ?_
      obtain ⟨hi, h⟩ := h
      refine WP.iald dX9_ring_66 k3 hi ?_
      refine WP.if_ne (tgt := 72) dX9_ring_67 (by decide) (fun q => ?_) (fun q => ?_)
      · have h := h.1 q
        refine WP.aload_n dX9_ring_72 rfl ?_
        refine WP.aload_n dX9_ring_73 rfl ?_
        refine WP.getI (v := σ 0 12) fd_X9_37 dX9_ring_74 k0 rfl rfl ?_
        refine WP.i2l dX9_ring_77 ?_
        refine WP.ldc2 (x := 1103515245) dX9_ring_78 ct_X9_200 (by decide) (by decide) ?_
        refine WP.lmul dX9_ring_81 ?_
        refine WP.ldc2 (x := 12345) dX9_ring_82 ct_X9_202 (by decide) (by decide) ?_
        refine WP.ladd dX9_ring_85 ?_
        refine WP.ldc2 (x := 2147483647) dX9_ring_86 ct_X9_204 (by decide) (by decide) ?_
        refine WP.land dX9_ring_89 ?_
        refine WP.l2i dX9_ring_90 ?_
        refine WP.put fp_X9_37 dX9_ring_91 k0 rfl rfl rfl ?_
        refine WP.aload_n dX9_ring_94 rfl ?_
        refine WP.getI (v := jl2i (jland (jladd (jlmul (σ 0 12) 1103515245) 12345) 2147483647)) fd_X9_37 dX9_ring_95 k0 rfl mupd_at ?_
        refine WP.ldc (x := 65536) dX9_ring_98 ct_X9_206 (by decide) (by decide) ?_
        refine WP.idiv dX9_ring_100 (by decide) ?_
        refine WP.iconst dX9_ring_101 (by decide) ?_
        refine WP.irem dX9_ring_102 (by decide) ?_
        refine WP.aload_n dX9_ring_103 rfl ?_
        refine WP.getR fd_X9_16 dX9_ring_104 k0 rfl ?_
        refine WP.iload_n dX9_ring_107 rfl ?_
        obtain ⟨hi, h⟩ := h
        refine WP.iald dX9_ring_108 k3 hi ?_
        refine WP.topI (y := σ 3 x2) (mupd_rp (by decide)) ?_
        refine WP.icmp_ge (tgt := 116) dX9_ring_109 (by decide) (fun q => ?_) (fun q => ?_)
        · have h := h.1 q
          refine WP.iconst dX9_ring_116 (by decide) ?_
          exact h
        · have h := h.2 q
          refine WP.iconst dX9_ring_112 (by decide) ?_
          refine WP.goto (tgt := 117) dX9_ring_113 (by decide) ?_
          exact h
      · have h := h.2 q
        refine WP.iconst dX9_ring_70 (by decide) ?_
        exact WP.zret rfl dX9_ring_71 (by decide) h
    · have h := h.2 q
      refine WP.aload_n dX9_ring_42 rfl ?_
      refine WP.getR fd_X9_25 dX9_ring_43 k0 rfl ?_
      refine WP.iload_n dX9_ring_46 rfl ?_
      refine WP.bipush dX9_ring_47 (by decide) bp_10 ?_
      refine WP.iload_n dX9_ring_49 rfl ?_
      refine WP.iconst dX9_ring_50 (by decide) ?_
      refine WP.iadd dX9_ring_51 ?_
      refine WP.aload_n dX9_ring_52 rfl ?_
      refine WP.getI (v := σ 0 4) fd_X9_86 dX9_ring_53 k0 rfl rfl ?_
      obtain ⟨hi, h⟩ := h
      refine WP.irem dX9_ring_56 hi ?_
      refine WP.iadd dX9_ring_57 ?_
      obtain ⟨hi, h⟩ := h
      refine WP.iast dX9_ring_58 k6 hi ?_
      refine WP.iconst dX9_ring_59 (by decide) ?_
      exact WP.zret rfl dX9_ring_60 (by decide) h
  · have h := h.2 q
    refine WP.aload_n dX9_ring_10 rfl ?_
    refine WP.getR fd_X9_31 dX9_ring_11 k0 rfl ?_
    refine WP.iload_n dX9_ring_14 rfl ?_
    refine WP.aload_n dX9_ring_15 rfl ?_
    refine WP.iload_n dX9_ring_16 rfl ?_
    refine WP.iconst dX9_ring_17 (by decide) ?_
    refine WP.callV M_X9_wearer [mi x2, mi 0] cv_X9_wearer dX9_ring_18 lk_X9_114 k0 rfl ft_X9_ring__X9_wearer rfl (Nat.le_of_ble_eq_true rfl) (HT.mono h ?_)
    rintro r18 σ18 - - h
    obtain ⟨hi, h⟩ := h
    refine WP.iast dX9_ring_21 k8 hi ?_
    refine WP.aload_n dX9_ring_22 rfl ?_
    refine WP.getR fd_X9_25 dX9_ring_23 k0 rfl ?_
    refine WP.iload_n dX9_ring_26 rfl ?_
    refine WP.bipush dX9_ring_27 (by decide) bp_30 ?_
    obtain ⟨hi, h⟩ := h
    refine WP.iast dX9_ring_29 k6 hi ?_
    refine WP.iconst dX9_ring_30 (by decide) ?_
    exact WP.zret rfl dX9_ring_31 (by decide) h
set_option maxRecDepth 100000 in
set_option maxHeartbeats 4000000 in
theorem b_X9_ring_0_117 (x1 x2 s0 : Int) {σ : Mem} {Q : Int → Mem → Prop} (h : (s0 = 0 → (0 ≤ x1 ∧ x1 < 8) ∧ ((0 ≤ x1 ∧ x1 < 8) ∧ ((s0 = 0 ∨ s0 = 1) ∧ Q s0 (mupd σ 6 x1 (σ 6 x1))))) ∧ (¬ s0 = 0 → (0 ≤ x1 ∧ x1 < 8) ∧ ((s0 = 0 ∨ s0 = 1) ∧ Q s0 (mupd σ 6 x1 (jadd 20 x2))))) : WP GM M_X9_ring 117 [some (mr 0), some (mi x1), some (mi x2), none] [mi s0] σ Q := by
  refine WP.istore_n (L2 := [some (mr 0), some (mi x1), some (mi x2), some (mi s0)]) dX9_ring_117 (by decide) rfl ?_
  refine WP.aload_n dX9_ring_118 rfl ?_
  refine WP.getR fd_X9_25 dX9_ring_119 k0 rfl ?_
  refine WP.iload_n dX9_ring_122 rfl ?_
  refine WP.iload_n dX9_ring_123 rfl ?_
  refine WP.if_eq (tgt := 134) dX9_ring_124 (by decide) (fun q => ?_) (fun q => ?_)
  · have h := h.1 q
    refine WP.aload_n dX9_ring_134 rfl ?_
    refine WP.getR fd_X9_25 dX9_ring_135 k0 rfl ?_
    refine WP.iload_n dX9_ring_138 rfl ?_
    obtain ⟨hi, h⟩ := h
    refine WP.iald dX9_ring_139 k6 hi ?_
    obtain ⟨hi, h⟩ := h
    refine WP.iast dX9_ring_140 k6 hi ?_
    refine WP.iload_n dX9_ring_141 rfl ?_
    exact WP.zret rfl dX9_ring_142 h.1 h.2
  · have h := h.2 q
    refine WP.bipush dX9_ring_127 (by decide) bp_20 ?_
    refine WP.iload_n dX9_ring_129 rfl ?_
    refine WP.iadd dX9_ring_130 ?_
    refine WP.goto (tgt := 140) dX9_ring_131 (by decide) ?_
    obtain ⟨hi, h⟩ := h
    refine WP.iast dX9_ring_140 k6 hi ?_
    refine WP.iload_n dX9_ring_141 rfl ?_
    exact WP.zret rfl dX9_ring_142 h.1 h.2
theorem dX9_come_0 : decode cX9_come 0 = .ok (.aload_n 0, 1) := by decide +kernel
theorem dX9_come_1 : decode cX9_come 1 = .ok (.getfield 25, 3) := by decide +kernel
theorem dX9_come_4 : decode cX9_come 4 = .ok (.iload_n 1, 1) := by decide +kernel
theorem dX9_come_5 : decode cX9_come 5 = .ok (.bipush 10, 2) := by decide +kernel
theorem dX9_come_7 : decode cX9_come 7 = .ok (.iload_n 2, 1) := by decide +kernel
theorem dX9_come_8 : decode cX9_come 8 = .ok (.iadd, 1) := by decide +kernel
theorem dX9_come_9 : decode cX9_come 9 = .ok (.iastore, 1) := by decide +kernel
theorem dX9_come_10 : decode cX9_come 10 = .ok (.aload_n 0, 1) := by decide +kernel
theorem dX9_come_11 : decode cX9_come 11 = .ok (.getfield 28, 3) := by decide +kernel
theorem dX9_come_14 : decode cX9_come 14 = .ok (.iload_n 1, 1) := by decide +kernel
theorem dX9_come_15 : decode cX9_come 15 = .ok (.dup2, 1) := by decide +kernel
theorem dX9_come_16 : decode cX9_come 16 = .ok (.iaload, 1) := by decide +kernel
theorem dX9_come_17 : decode cX9_come 17 = .ok (.aload_n 0, 1) := by decide +kernel
theorem dX9_come_18 : decode cX9_come 18 = .ok (.getfield 22, 3) := by decide +kernel
theorem dX9_come_21 : decode cX9_come 21 = .ok (.iload_n 1, 1) := by decide +kernel
theorem dX9_come_22 : decode cX9_come 22 = .ok (.iaload, 1) := by decide +kernel
theorem dX9_come_23 : decode cX9_come 23 = .ok (.iconst 2, 1) := by decide +kernel
theorem dX9_come_24 : decode cX9_come 24 = .ok (.if_icmp .ne 14, 3) := by decide +kernel
theorem dX9_come_27 : decode cX9_come 27 = .ok (.iconst 1, 1) := by decide +kernel
theorem dX9_come_28 : decode cX9_come 28 = .ok (.aload_n 0, 1) := by decide +kernel
theorem dX9_come_29 : decode cX9_come 29 = .ok (.iload_n 2, 1) := by decide +kernel
theorem dX9_come_30 : decode cX9_come 30 = .ok (.iconst 0, 1) := by decide +kernel
theorem dX9_come_31 : decode cX9_come 31 = .ok (.invokevirtual 114, 3) := by decide +kernel
theorem dX9_come_34 : decode cX9_come 34 = .ok (.ishl, 1) := by decide +kernel
theorem dX9_come_35 : decode cX9_come 35 = .ok (.goto 4, 3) := by decide +kernel
theorem dX9_come_38 : decode cX9_come 38 = .ok (.iconst 0, 1) := by decide +kernel
theorem dX9_come_39 : decode cX9_come 39 = .ok (.ior, 1) := by decide +kernel
theorem dX9_come_40 : decode cX9_come 40 = .ok (.iastore, 1) := by decide +kernel
theorem dX9_come_41 : decode cX9_come 41 = .ok (.return_, 1) := by decide +kernel
set_option maxRecDepth 100000 in
set_option maxHeartbeats 4000000 in
theorem e_X9_come_0 (x1 x2 : Int) {σ : Mem} {Q : Int → Mem → Prop} (h : (0 ≤ x1 ∧ x1 < 8) ∧ ((0 ≤ x1 ∧ x1 < 8) ∧ ((0 ≤ x1 ∧ x1 < 8) ∧ ((¬ σ 5 x1 = 2 → (0 ≤ x1 ∧ x1 < 8) ∧ (Q 0 (mupd (mupd σ 6 x1 (jadd 10 x2)) 7 x1 (jor (σ 7 x1) 0)))) ∧ (σ 5 x1 = 2 → HT GM M_X9_wearer [mr 0, mi x2, mi 0] (mupd σ 6 x1 (jadd 10 x2)) (fun r31 σ31 => (0 ≤ x1 ∧ x1 < 8) ∧ (Q 0 (mupd σ31 7 x1 (jor (σ 7 x1) (jshl 1 r31)))))))))) : HT GM M_X9_come [mr 0, mi x1, mi x2] σ Q := by
  refine HT.of pn_X9 (Nat.le_of_ble_eq_true rfl) ?_
  show WP GM M_X9_come 0 [some (mr 0), some (mi x1), some (mi x2)] [] σ Q
  refine WP.aload_n dX9_come_0 rfl ?_
  refine WP.getR fd_X9_25 dX9_come_1 k0 rfl ?_
  refine WP.iload_n dX9_come_4 rfl ?_
  refine WP.bipush dX9_come_5 (by decide) bp_10 ?_
  refine WP.iload_n dX9_come_7 rfl ?_
  refine WP.iadd dX9_come_8 ?_
  obtain ⟨hi, h⟩ := h
  refine WP.iast dX9_come_9 k6 hi ?_
  refine WP.aload_n dX9_come_10 rfl ?_
  refine WP.getR fd_X9_28 dX9_come_11 k0 rfl ?_
  refine WP.iload_n dX9_come_14 rfl ?_
  refine WP.dup2 dX9_come_15 rfl rfl ?_
  obtain ⟨hi, h⟩ := h
  refine WP.iald dX9_come_16 k7 hi ?_
  refine WP.topI (y := σ 7 x1) (mupd_rp (by decide)) ?_
  refine WP.aload_n dX9_come_17 rfl ?_
  refine WP.getR fd_X9_22 dX9_come_18 k0 rfl ?_
  refine WP.iload_n dX9_come_21 rfl ?_
  obtain ⟨hi, h⟩ := h
  refine WP.iald dX9_come_22 k5 hi ?_
  refine WP.topI (y := σ 5 x1) (mupd_rp (by decide)) ?_
  refine WP.iconst dX9_come_23 (by decide) ?_
  refine WP.icmp_ne (tgt := 38) dX9_come_24 (by decide) (fun q => ?_) (fun q => ?_)
  · have h := h.1 q
    refine WP.iconst dX9_come_38 (by decide) ?_
    refine WP.ior dX9_come_39 ?_
    obtain ⟨hi, h⟩ := h
    refine WP.iast dX9_come_40 k7 hi ?_
    exact WP.vret rfl dX9_come_41 h
  · have h := h.2 q
    refine WP.iconst dX9_come_27 (by decide) ?_
    refine WP.aload_n dX9_come_28 rfl ?_
    refine WP.iload_n dX9_come_29 rfl ?_
    refine WP.iconst dX9_come_30 (by decide) ?_
    refine WP.callV M_X9_wearer [mi x2, mi 0] cv_X9_wearer dX9_come_31 lk_X9_114 k0 rfl ft_X9_come__X9_wearer rfl (Nat.le_of_ble_eq_true rfl) (HT.mono h ?_)
    rintro r31 σ31 - - h
    refine WP.ishl dX9_come_34 ?_
    refine WP.goto (tgt := 39) dX9_come_35 (by decide) ?_
    refine WP.ior dX9_come_39 ?_
    obtain ⟨hi, h⟩ := h
    refine WP.iast dX9_come_40 k7 hi ?_
    exact WP.vret rfl dX9_come_41 h
theorem dX9_bell_0 : decode cX9_bell 0 = .ok (.aload_n 0, 1) := by decide +kernel
theorem dX9_bell_1 : decode cX9_bell 1 = .ok (.getfield 129, 3) := by decide +kernel
theorem dX9_bell_4 : decode cX9_bell 4 = .ok (.sipush 9999, 3) := by decide +kernel
theorem dX9_bell_7 : decode cX9_bell 7 = .ok (.if_icmp .ne 6, 3) := by decide +kernel
theorem dX9_bell_10 : decode cX9_bell 10 = .ok (.bipush (-3), 2) := by decide +kernel
theorem dX9_bell_12 : decode cX9_bell 12 = .ok (.ireturn, 1) := by decide +kernel
theorem dX9_bell_13 : decode cX9_bell 13 = .ok (.iconst 0, 1) := by decide +kernel
theorem dX9_bell_14 : decode cX9_bell 14 = .ok (.istore_n 1, 1) := by decide +kernel
theorem dX9_bell_15 : decode cX9_bell 15 = .ok (.iconst 0, 1) := by decide +kernel
theorem dX9_bell_16 : decode cX9_bell 16 = .ok (.istore_n 2, 1) := by decide +kernel
theorem dX9_bell_17 : decode cX9_bell 17 = .ok (.iload_n 2, 1) := by decide +kernel
theorem dX9_bell_18 : decode cX9_bell 18 = .ok (.aload_n 0, 1) := by decide +kernel
theorem dX9_bell_19 : decode cX9_bell 19 = .ok (.getfield 89, 3) := by decide +kernel
theorem dX9_bell_22 : decode cX9_bell 22 = .ok (.if_icmp .ge 53, 3) := by decide +kernel
theorem dX9_bell_25 : decode cX9_bell 25 = .ok (.aload_n 0, 1) := by decide +kernel
theorem dX9_bell_26 : decode cX9_bell 26 = .ok (.getfield 25, 3) := by decide +kernel
theorem dX9_bell_29 : decode cX9_bell 29 = .ok (.iload_n 2, 1) := by decide +kernel
theorem dX9_bell_30 : decode cX9_bell 30 = .ok (.iaload, 1) := by decide +kernel
theorem dX9_bell_31 : decode cX9_bell 31 = .ok (.i2l, 1) := by decide +kernel
theorem dX9_bell_32 : decode cX9_bell 32 = .ok (.ldc2_w 121, 3) := by decide +kernel
theorem dX9_bell_35 : decode cX9_bell 35 = .ok (.ldc2_w 123, 3) := by decide +kernel
theorem dX9_bell_38 : decode cX9_bell 38 = .ok (.invokestatic 82, 3) := by decide +kernel
theorem dX9_bell_41 : decode cX9_bell 41 = .ok (.ifCond .eq 28, 3) := by decide +kernel
theorem dX9_bell_44 : decode cX9_bell 44 = .ok (.iload_n 1, 1) := by decide +kernel
theorem dX9_bell_45 : decode cX9_bell 45 = .ok (.aload_n 0, 1) := by decide +kernel
theorem dX9_bell_46 : decode cX9_bell 46 = .ok (.iload_n 2, 1) := by decide +kernel
theorem dX9_bell_47 : decode cX9_bell 47 = .ok (.aload_n 0, 1) := by decide +kernel
theorem dX9_bell_48 : decode cX9_bell 48 = .ok (.getfield 25, 3) := by decide +kernel
theorem dX9_bell_51 : decode cX9_bell 51 = .ok (.iload_n 2, 1) := by decide +kernel
theorem dX9_bell_52 : decode cX9_bell 52 = .ok (.iaload, 1) := by decide +kernel
theorem dX9_bell_53 : decode cX9_bell 53 = .ok (.bipush 10, 2) := by decide +kernel
theorem dX9_bell_55 : decode cX9_bell 55 = .ok (.isub, 1) := by decide +kernel
theorem dX9_bell_56 : decode cX9_bell 56 = .ok (.invokevirtual 207, 3) := by decide +kernel
theorem dX9_bell_59 : decode cX9_bell 59 = .ok (.ifCond .eq 7, 3) := by decide +kernel
theorem dX9_bell_62 : decode cX9_bell 62 = .ok (.iconst 1, 1) := by decide +kernel
theorem dX9_bell_63 : decode cX9_bell 63 = .ok (.goto 4, 3) := by decide +kernel
theorem dX9_bell_66 : decode cX9_bell 66 = .ok (.iconst 0, 1) := by decide +kernel
theorem dX9_bell_67 : decode cX9_bell 67 = .ok (.iadd, 1) := by decide +kernel
theorem dX9_bell_68 : decode cX9_bell 68 = .ok (.istore_n 1, 1) := by decide +kernel
theorem dX9_bell_69 : decode cX9_bell 69 = .ok (.iinc 2 1, 3) := by decide +kernel
theorem dX9_bell_72 : decode cX9_bell 72 = .ok (.goto (-55), 3) := by decide +kernel
theorem dX9_bell_75 : decode cX9_bell 75 = .ok (.iconst 0, 1) := by decide +kernel
theorem dX9_bell_76 : decode cX9_bell 76 = .ok (.istore_n 2, 1) := by decide +kernel
theorem dX9_bell_77 : decode cX9_bell 77 = .ok (.iload_n 2, 1) := by decide +kernel
theorem dX9_bell_78 : decode cX9_bell 78 = .ok (.aload_n 0, 1) := by decide +kernel
theorem dX9_bell_79 : decode cX9_bell 79 = .ok (.getfield 86, 3) := by decide +kernel
theorem dX9_bell_82 : decode cX9_bell 82 = .ok (.if_icmp .ge 30, 3) := by decide +kernel
theorem dX9_bell_85 : decode cX9_bell 85 = .ok (.aload_n 0, 1) := by decide +kernel
theorem dX9_bell_86 : decode cX9_bell 86 = .ok (.getfield 13, 3) := by decide +kernel
theorem dX9_bell_89 : decode cX9_bell 89 = .ok (.iload_n 2, 1) := by decide +kernel
theorem dX9_bell_90 : decode cX9_bell 90 = .ok (.aload_n 0, 1) := by decide +kernel
theorem dX9_bell_91 : decode cX9_bell 91 = .ok (.getfield 13, 3) := by decide +kernel
theorem dX9_bell_94 : decode cX9_bell 94 = .ok (.iload_n 2, 1) := by decide +kernel
theorem dX9_bell_95 : decode cX9_bell 95 = .ok (.iaload, 1) := by decide +kernel
theorem dX9_bell_96 : decode cX9_bell 96 = .ok (.iconst 1, 1) := by decide +kernel
theorem dX9_bell_97 : decode cX9_bell 97 = .ok (.iadd, 1) := by decide +kernel
theorem dX9_bell_98 : decode cX9_bell 98 = .ok (.aload_n 0, 1) := by decide +kernel
theorem dX9_bell_99 : decode cX9_bell 99 = .ok (.getfield 7, 3) := by decide +kernel
theorem dX9_bell_102 : decode cX9_bell 102 = .ok (.iload_n 2, 1) := by decide +kernel
theorem dX9_bell_103 : decode cX9_bell 103 = .ok (.iaload, 1) := by decide +kernel
theorem dX9_bell_104 : decode cX9_bell 104 = .ok (.irem, 1) := by decide +kernel
theorem dX9_bell_105 : decode cX9_bell 105 = .ok (.iastore, 1) := by decide +kernel
theorem dX9_bell_106 : decode cX9_bell 106 = .ok (.iinc 2 1, 3) := by decide +kernel
theorem dX9_bell_109 : decode cX9_bell 109 = .ok (.goto (-32), 3) := by decide +kernel
theorem dX9_bell_112 : decode cX9_bell 112 = .ok (.iconst 0, 1) := by decide +kernel
theorem dX9_bell_113 : decode cX9_bell 113 = .ok (.istore_n 2, 1) := by decide +kernel
theorem dX9_bell_114 : decode cX9_bell 114 = .ok (.iload_n 2, 1) := by decide +kernel
theorem dX9_bell_115 : decode cX9_bell 115 = .ok (.aload_n 0, 1) := by decide +kernel
theorem dX9_bell_116 : decode cX9_bell 116 = .ok (.getfield 89, 3) := by decide +kernel
theorem dX9_bell_119 : decode cX9_bell 119 = .ok (.if_icmp .ge 42, 3) := by decide +kernel
theorem dX9_bell_122 : decode cX9_bell 122 = .ok (.aload_n 0, 1) := by decide +kernel
theorem dX9_bell_123 : decode cX9_bell 123 = .ok (.getfield 25, 3) := by decide +kernel
theorem dX9_bell_126 : decode cX9_bell 126 = .ok (.iload_n 2, 1) := by decide +kernel
theorem dX9_bell_127 : decode cX9_bell 127 = .ok (.iaload, 1) := by decide +kernel
theorem dX9_bell_128 : decode cX9_bell 128 = .ok (.i2l, 1) := by decide +kernel
theorem dX9_bell_129 : decode cX9_bell 129 = .ok (.ldc2_w 121, 3) := by decide +kernel
theorem dX9_bell_132 : decode cX9_bell 132 = .ok (.ldc2_w 123, 3) := by decide +kernel
theorem dX9_bell_135 : decode cX9_bell 135 = .ok (.invokestatic 82, 3) := by decide +kernel
theorem dX9_bell_138 : decode cX9_bell 138 = .ok (.ifCond .eq 17, 3) := by decide +kernel
theorem dX9_bell_141 : decode cX9_bell 141 = .ok (.aload_n 0, 1) := by decide +kernel
theorem dX9_bell_142 : decode cX9_bell 142 = .ok (.iload_n 2, 1) := by decide +kernel
theorem dX9_bell_143 : decode cX9_bell 143 = .ok (.aload_n 0, 1) := by decide +kernel
theorem dX9_bell_144 : decode cX9_bell 144 = .ok (.getfield 25, 3) := by decide +kernel
theorem dX9_bell_147 : decode cX9_bell 147 = .ok (.iload_n 2, 1) := by decide +kernel
theorem dX9_bell_148 : decode cX9_bell 148 = .ok (.iaload, 1) := by decide +kernel
theorem dX9_bell_149 : decode cX9_bell 149 = .ok (.bipush 10, 2) := by decide +kernel
theorem dX9_bell_151 : decode cX9_bell 151 = .ok (.isub, 1) := by decide +kernel
theorem dX9_bell_152 : decode cX9_bell 152 = .ok (.invokevirtual 193, 3) := by decide +kernel
theorem dX9_bell_155 : decode cX9_bell 155 = .ok (.iinc 2 1, 3) := by decide +kernel
theorem dX9_bell_158 : decode cX9_bell 158 = .ok (.goto (-44), 3) := by decide +kernel
theorem dX9_bell_161 : decode cX9_bell 161 = .ok (.aload_n 0, 1) := by decide +kernel
theorem dX9_bell_162 : decode cX9_bell 162 = .ok (.dup, 1) := by decide +kernel
theorem dX9_bell_163 : decode cX9_bell 163 = .ok (.getfield 129, 3) := by decide +kernel
theorem dX9_bell_166 : decode cX9_bell 166 = .ok (.iconst 1, 1) := by decide +kernel
theorem dX9_bell_167 : decode cX9_bell 167 = .ok (.iadd, 1) := by decide +kernel
theorem dX9_bell_168 : decode cX9_bell 168 = .ok (.putfield 129, 3) := by decide +kernel
theorem dX9_bell_171 : decode cX9_bell 171 = .ok (.iload_n 1, 1) := by decide +kernel
theorem dX9_bell_172 : decode cX9_bell 172 = .ok (.ireturn, 1) := by decide +kernel
set_option maxRecDepth 100000 in
set_option maxHeartbeats 4000000 in
theorem e_X9_bell_0 {σ : Mem} {Q : Int → Mem → Prop} (h : (¬ σ 0 11 = 9999 → WP GM M_X9_bell 17 [some (mr 0), some (mi 0), some (mi 0)] [] σ Q) ∧ (σ 0 11 = 9999 → Q (-3) σ)) : HT GM M_X9_bell [mr 0] σ Q := by
  refine HT.of pn_X9 (Nat.le_of_ble_eq_true rfl) ?_
  show WP GM M_X9_bell 0 [some (mr 0), none, none] [] σ Q
  refine WP.aload_n dX9_bell_0 rfl ?_
  refine WP.getI (v := σ 0 11) fd_X9_129 dX9_bell_1 k0 rfl rfl ?_
  refine WP.sipush dX9_bell_4 (by decide) sp_9999 ?_
  refine WP.icmp_ne (tgt := 13) dX9_bell_7 (by decide) (fun q => ?_) (fun q => ?_)
  · have h := h.1 q
    refine WP.iconst dX9_bell_13 (by decide) ?_
    refine WP.istore_n (L2 := [some (mr 0), some (mi 0), none]) dX9_bell_14 (by decide) rfl ?_
    refine WP.iconst dX9_bell_15 (by decide) ?_
    refine WP.istore_n (L2 := [some (mr 0), some (mi 0), some (mi 0)]) dX9_bell_16 (by decide) rfl ?_
    exact h
  · have h := h.2 q
    refine WP.bipush dX9_bell_10 (by decide) bp_m3 ?_
    exact WP.iret rfl dX9_bell_12 h
set_option maxRecDepth 100000 in
set_option maxHeartbeats 4000000 in
theorem b_X9_bell_0_17 (x1 x2 : Int) {σ : Mem} {Q : Int → Mem → Prop} (h : (σ 0 9 ≤ x2 → WP GM M_X9_bell 77 [some (mr 0), some (mi x1), some (mi 0)] [] σ Q) ∧ (¬ σ 0 9 ≤ x2 → (0 ≤ x2 ∧ x2 < 8) ∧ (HT GM M_X9_in [ml (σ 6 x2), ml 10, ml 13] σ (fun r38 σ38 => (r38 = 0 → WP GM M_X9_bell 69 [some (mr 0), some (mi x1), some (mi x2)] [] σ38 Q) ∧ (¬ r38 = 0 → (0 ≤ x2 ∧ x2 < 8) ∧ (HT GM M_X9_ring [mr 0, mi x2, mi (jsub (σ38 6 x2) 10)] σ38 (fun r56 σ56 => (r56 = 0 → WP GM M_X9_bell 67 [some (mr 0), none, some (mi x2)] [mi 0, mi x1] σ56 Q) ∧ (¬ r56 = 0 → WP GM M_X9_bell 67 [some (mr 0), none, some (mi x2)] [mi 1, mi x1] σ56 Q)))))))) : WP GM M_X9_bell 17 [some (mr 0), some (mi x1), some (mi x2)] [] σ Q := by
  refine WP.iload_n dX9_bell_17 rfl ?_
  refine WP.aload_n dX9_bell_18 rfl ?_
  refine WP.getI (v := σ 0 9) fd_X9_89 dX9_bell_19 k0 rfl rfl ?_
  refine WP.icmp_ge (tgt := 75) dX9_bell_22 (by decide) (fun q => ?_) (fun q => ?_)
  · have h := h.1 q
    refine WP.iconst dX9_bell_75 (by decide) ?_
    refine WP.istore_n (L2 := [some (mr 0), some (mi x1), some (mi 0)]) dX9_bell_76 (by decide) rfl ?_
    exact h
  · have h := h.2 q
    refine WP.aload_n dX9_bell_25 rfl ?_
    refine WP.getR fd_X9_25 dX9_bell_26 k0 rfl ?_
    refine WP.iload_n dX9_bell_29 rfl ?_
    obtain ⟨hi, h⟩ := h
    refine WP.iald dX9_bell_30 k6 hi ?_
    refine WP.i2l dX9_bell_31 ?_
    refine WP.ldc2 (x := 10) dX9_bell_32 ct_X9_121 (by decide) (by decide) ?_
    refine WP.ldc2 (x := 13) dX9_bell_35 ct_X9_123 (by decide) (by decide) ?_
    refine WP.callS M_X9_in [ml (σ 6 x2), ml 10, ml 13] cs_X9_in dX9_bell_38 lk_X9_82 ft_X9_bell__X9_in rfl (Nat.le_of_ble_eq_true rfl) (HT.mono h ?_)
    rintro r38 σ38 - - h
    refine WP.if_eq (tgt := 69) dX9_bell_41 (by decide) (fun q => ?_) (fun q => ?_)
    · have h := h.1 q
      exact h
    · have h := h.2 q
      refine WP.iload_n dX9_bell_44 rfl ?_
      refine WP.aload_n dX9_bell_45 rfl ?_
      refine WP.iload_n dX9_bell_46 rfl ?_
      refine WP.aload_n dX9_bell_47 rfl ?_
      refine WP.getR fd_X9_25 dX9_bell_48 k0 rfl ?_
      refine WP.iload_n dX9_bell_51 rfl ?_
      obtain ⟨hi, h⟩ := h
      refine WP.iald dX9_bell_52 k6 hi ?_
      refine WP.bipush dX9_bell_53 (by decide) bp_10 ?_
      refine WP.isub dX9_bell_55 ?_
      refine WP.callV M_X9_ring [mi x2, mi (jsub (σ38 6 x2) 10)] cv_X9_ring dX9_bell_56 lk_X9_207 k0 rfl ft_X9_bell__X9_ring rfl (Nat.le_of_ble_eq_true rfl) (HT.mono h ?_)
      rintro r56 σ56 - - h
      refine WP.if_eq (tgt := 66) dX9_bell_59 (by decide) (fun q => ?_) (fun q => ?_)
      · have h := h.1 q
        refine WP.iconst dX9_bell_66 (by decide) ?_
        refine WP.drop 1 (L2 := [some (mr 0), none, some (mi x2)]) rfl ?_
        exact h
      · have h := h.2 q
        refine WP.iconst dX9_bell_62 (by decide) ?_
        refine WP.goto (tgt := 67) dX9_bell_63 (by decide) ?_
        refine WP.drop 1 (L2 := [some (mr 0), none, some (mi x2)]) rfl ?_
        exact h
set_option maxRecDepth 100000 in
set_option maxHeartbeats 4000000 in
theorem b_X9_bell_0_67 (x2 s0 s1 : Int) {σ : Mem} {Q : Int → Mem → Prop} (h : WP GM M_X9_bell 69 [some (mr 0), some (mi (jadd s1 s0)), some (mi x2)] [] σ Q) : WP GM M_X9_bell 67 [some (mr 0), none, some (mi x2)] [mi s0, mi s1] σ Q := by
  refine WP.iadd dX9_bell_67 ?_
  refine WP.istore_n (L2 := [some (mr 0), some (mi (jadd s1 s0)), some (mi x2)]) dX9_bell_68 (by decide) rfl ?_
  exact h
set_option maxRecDepth 100000 in
set_option maxHeartbeats 4000000 in
theorem b_X9_bell_0_69 (x1 x2 : Int) {σ : Mem} {Q : Int → Mem → Prop} (h : WP GM M_X9_bell 17 [some (mr 0), some (mi x1), some (mi (jadd x2 1))] [] σ Q) : WP GM M_X9_bell 69 [some (mr 0), some (mi x1), some (mi x2)] [] σ Q := by
  refine WP.iinc (L2 := [some (mr 0), some (mi x1), some (mi (jadd x2 1))]) dX9_bell_69 (by decide) rfl (by decide) rfl ?_
  refine WP.goto (tgt := 17) dX9_bell_72 (by decide) ?_
  exact h
set_option maxRecDepth 100000 in
set_option maxHeartbeats 4000000 in
theorem b_X9_bell_0_77 (x1 x2 : Int) {σ : Mem} {Q : Int → Mem → Prop} (h : (σ 0 4 ≤ x2 → WP GM M_X9_bell 114 [some (mr 0), some (mi x1), some (mi 0)] [] σ Q) ∧ (¬ σ 0 4 ≤ x2 → (0 ≤ x2 ∧ x2 < 4) ∧ ((0 ≤ x2 ∧ x2 < 4) ∧ ((¬ σ 1 x2 = 0) ∧ ((0 ≤ x2 ∧ x2 < 4) ∧ (WP GM M_X9_bell 77 [some (mr 0), some (mi x1), some (mi (jadd x2 1))] [] (mupd σ 2 x2 (jrem (jadd (σ 2 x2) 1) (σ 1 x2))) Q)))))) : WP GM M_X9_bell 77 [some (mr 0), some (mi x1), some (mi x2)] [] σ Q := by
  refine WP.iload_n dX9_bell_77 rfl ?_
  refine WP.aload_n dX9_bell_78 rfl ?_
  refine WP.getI (v := σ 0 4) fd_X9_86 dX9_bell_79 k0 rfl rfl ?_
  refine WP.icmp_ge (tgt := 112) dX9_bell_82 (by decide) (fun q => ?_) (fun q => ?_)
  · have h := h.1 q
    refine WP.iconst dX9_bell_112 (by decide) ?_
    refine WP.istore_n (L2 := [some (mr 0), some (mi x1), some (mi 0)]) dX9_bell_113 (by decide) rfl ?_
    exact h
  · have h := h.2 q
    refine WP.aload_n dX9_bell_85 rfl ?_
    refine WP.getR fd_X9_13 dX9_bell_86 k0 rfl ?_
    refine WP.iload_n dX9_bell_89 rfl ?_
    refine WP.aload_n dX9_bell_90 rfl ?_
    refine WP.getR fd_X9_13 dX9_bell_91 k0 rfl ?_
    refine WP.iload_n dX9_bell_94 rfl ?_
    obtain ⟨hi, h⟩ := h
    refine WP.iald dX9_bell_95 k2 hi ?_
    refine WP.iconst dX9_bell_96 (by decide) ?_
    refine WP.iadd dX9_bell_97 ?_
    refine WP.aload_n dX9_bell_98 rfl ?_
    refine WP.getR fd_X9_7 dX9_bell_99 k0 rfl ?_
    refine WP.iload_n dX9_bell_102 rfl ?_
    obtain ⟨hi, h⟩ := h
    refine WP.iald dX9_bell_103 k1 hi ?_
    obtain ⟨hi, h⟩ := h
    refine WP.irem dX9_bell_104 hi ?_
    obtain ⟨hi, h⟩ := h
    refine WP.iast dX9_bell_105 k2 hi ?_
    refine WP.iinc (L2 := [some (mr 0), some (mi x1), some (mi (jadd x2 1))]) dX9_bell_106 (by decide) rfl (by decide) rfl ?_
    refine WP.goto (tgt := 77) dX9_bell_109 (by decide) ?_
    exact h
set_option maxRecDepth 100000 in
set_option maxHeartbeats 4000000 in
theorem b_X9_bell_0_114 (x1 x2 : Int) {σ : Mem} {Q : Int → Mem → Prop} (h : (σ 0 9 ≤ x2 → Q x1 (mupd σ 0 11 (jadd (σ 0 11) 1))) ∧ (¬ σ 0 9 ≤ x2 → (0 ≤ x2 ∧ x2 < 8) ∧ (HT GM M_X9_in [ml (σ 6 x2), ml 10, ml 13] σ (fun r135 σ135 => (r135 = 0 → WP GM M_X9_bell 155 [some (mr 0), some (mi x1), some (mi x2)] [] σ135 Q) ∧ (¬ r135 = 0 → (0 ≤ x2 ∧ x2 < 8) ∧ (HT GM M_X9_come [mr 0, mi x2, mi (jsub (σ135 6 x2) 10)] σ135 (fun _ σ152 => WP GM M_X9_bell 155 [some (mr 0), some (mi x1), some (mi x2)] [] σ152 Q))))))) : WP GM M_X9_bell 114 [some (mr 0), some (mi x1), some (mi x2)] [] σ Q := by
  refine WP.iload_n dX9_bell_114 rfl ?_
  refine WP.aload_n dX9_bell_115 rfl ?_
  refine WP.getI (v := σ 0 9) fd_X9_89 dX9_bell_116 k0 rfl rfl ?_
  refine WP.icmp_ge (tgt := 161) dX9_bell_119 (by decide) (fun q => ?_) (fun q => ?_)
  · have h := h.1 q
    refine WP.aload_n dX9_bell_161 rfl ?_
    refine WP.dup dX9_bell_162 rfl ?_
    refine WP.getI (v := σ 0 11) fd_X9_129 dX9_bell_163 k0 rfl rfl ?_
    refine WP.iconst dX9_bell_166 (by decide) ?_
    refine WP.iadd dX9_bell_167 ?_
    refine WP.put fp_X9_129 dX9_bell_168 k0 rfl rfl rfl ?_
    refine WP.iload_n dX9_bell_171 rfl ?_
    exact WP.iret rfl dX9_bell_172 h
  · have h := h.2 q
    refine WP.aload_n dX9_bell_122 rfl ?_
    refine WP.getR fd_X9_25 dX9_bell_123 k0 rfl ?_
    refine WP.iload_n dX9_bell_126 rfl ?_
    obtain ⟨hi, h⟩ := h
    refine WP.iald dX9_bell_127 k6 hi ?_
    refine WP.i2l dX9_bell_128 ?_
    refine WP.ldc2 (x := 10) dX9_bell_129 ct_X9_121 (by decide) (by decide) ?_
    refine WP.ldc2 (x := 13) dX9_bell_132 ct_X9_123 (by decide) (by decide) ?_
    refine WP.callS M_X9_in [ml (σ 6 x2), ml 10, ml 13] cs_X9_in dX9_bell_135 lk_X9_82 ft_X9_bell__X9_in rfl (Nat.le_of_ble_eq_true rfl) (HT.mono h ?_)
    rintro r135 σ135 - - h
    refine WP.if_eq (tgt := 155) dX9_bell_138 (by decide) (fun q => ?_) (fun q => ?_)
    · have h := h.1 q
      exact h
    · have h := h.2 q
      refine WP.aload_n dX9_bell_141 rfl ?_
      refine WP.iload_n dX9_bell_142 rfl ?_
      refine WP.aload_n dX9_bell_143 rfl ?_
      refine WP.getR fd_X9_25 dX9_bell_144 k0 rfl ?_
      refine WP.iload_n dX9_bell_147 rfl ?_
      obtain ⟨hi, h⟩ := h
      refine WP.iald dX9_bell_148 k6 hi ?_
      refine WP.bipush dX9_bell_149 (by decide) bp_10 ?_
      refine WP.isub dX9_bell_151 ?_
      refine WP.callV M_X9_come [mi x2, mi (jsub (σ135 6 x2) 10)] cv_X9_come dX9_bell_152 lk_X9_193 k0 rfl ft_X9_bell__X9_come rfl (Nat.le_of_ble_eq_true rfl) (HT.mono h ?_)
      rintro _ σ152 - - h
      exact h
set_option maxRecDepth 100000 in
set_option maxHeartbeats 4000000 in
theorem b_X9_bell_0_155 (x1 x2 : Int) {σ : Mem} {Q : Int → Mem → Prop} (h : WP GM M_X9_bell 114 [some (mr 0), some (mi x1), some (mi (jadd x2 1))] [] σ Q) : WP GM M_X9_bell 155 [some (mr 0), some (mi x1), some (mi x2)] [] σ Q := by
  refine WP.iinc (L2 := [some (mr 0), some (mi x1), some (mi (jadd x2 1))]) dX9_bell_155 (by decide) rfl (by decide) rfl ?_
  refine WP.goto (tgt := 114) dX9_bell_158 (by decide) ?_
  exact h
theorem dX9_wearsAny_0 : decode cX9_wearsAny 0 = .ok (.iconst 0, 1) := by decide +kernel
theorem dX9_wearsAny_1 : decode cX9_wearsAny 1 = .ok (.istore_n 2, 1) := by decide +kernel
theorem dX9_wearsAny_2 : decode cX9_wearsAny 2 = .ok (.iconst 0, 1) := by decide +kernel
theorem dX9_wearsAny_3 : decode cX9_wearsAny 3 = .ok (.istore_n 3, 1) := by decide +kernel
theorem dX9_wearsAny_4 : decode cX9_wearsAny 4 = .ok (.iload_n 3, 1) := by decide +kernel
theorem dX9_wearsAny_5 : decode cX9_wearsAny 5 = .ok (.aload_n 0, 1) := by decide +kernel
theorem dX9_wearsAny_6 : decode cX9_wearsAny 6 = .ok (.getfield 86, 3) := by decide +kernel
theorem dX9_wearsAny_9 : decode cX9_wearsAny 9 = .ok (.if_icmp .ge 29, 3) := by decide +kernel
theorem dX9_wearsAny_12 : decode cX9_wearsAny 12 = .ok (.iload_n 2, 1) := by decide +kernel
theorem dX9_wearsAny_13 : decode cX9_wearsAny 13 = .ok (.ifCond .ne 13, 3) := by decide +kernel
theorem dX9_wearsAny_16 : decode cX9_wearsAny 16 = .ok (.aload_n 0, 1) := by decide +kernel
theorem dX9_wearsAny_17 : decode cX9_wearsAny 17 = .ok (.iload_n 3, 1) := by decide +kernel
theorem dX9_wearsAny_18 : decode cX9_wearsAny 18 = .ok (.iconst 0, 1) := by decide +kernel
theorem dX9_wearsAny_19 : decode cX9_wearsAny 19 = .ok (.invokevirtual 114, 3) := by decide +kernel
theorem dX9_wearsAny_22 : decode cX9_wearsAny 22 = .ok (.iload_n 1, 1) := by decide +kernel
theorem dX9_wearsAny_23 : decode cX9_wearsAny 23 = .ok (.if_icmp .ne 7, 3) := by decide +kernel
theorem dX9_wearsAny_26 : decode cX9_wearsAny 26 = .ok (.iconst 1, 1) := by decide +kernel
theorem dX9_wearsAny_27 : decode cX9_wearsAny 27 = .ok (.goto 4, 3) := by decide +kernel
theorem dX9_wearsAny_30 : decode cX9_wearsAny 30 = .ok (.iconst 0, 1) := by decide +kernel
theorem dX9_wearsAny_31 : decode cX9_wearsAny 31 = .ok (.istore_n 2, 1) := by decide +kernel
theorem dX9_wearsAny_32 : decode cX9_wearsAny 32 = .ok (.iinc 3 1, 3) := by decide +kernel
theorem dX9_wearsAny_35 : decode cX9_wearsAny 35 = .ok (.goto (-31), 3) := by decide +kernel
theorem dX9_wearsAny_38 : decode cX9_wearsAny 38 = .ok (.iload_n 2, 1) := by decide +kernel
theorem dX9_wearsAny_39 : decode cX9_wearsAny 39 = .ok (.ireturn, 1) := by decide +kernel
set_option maxRecDepth 100000 in
set_option maxHeartbeats 4000000 in
theorem e_X9_wearsAny_0 (x1 : Int) {σ : Mem} {Q : Int → Mem → Prop} (h : WP GM M_X9_wearsAny 4 [some (mr 0), some (mi x1), some (mi 0), some (mi 0)] [] σ Q) : HT GM M_X9_wearsAny [mr 0, mi x1] σ Q := by
  refine HT.of pn_X9 (Nat.le_of_ble_eq_true rfl) ?_
  show WP GM M_X9_wearsAny 0 [some (mr 0), some (mi x1), none, none] [] σ Q
  refine WP.iconst dX9_wearsAny_0 (by decide) ?_
  refine WP.istore_n (L2 := [some (mr 0), some (mi x1), some (mi 0), none]) dX9_wearsAny_1 (by decide) rfl ?_
  refine WP.iconst dX9_wearsAny_2 (by decide) ?_
  refine WP.istore_n (L2 := [some (mr 0), some (mi x1), some (mi 0), some (mi 0)]) dX9_wearsAny_3 (by decide) rfl ?_
  exact h
set_option maxRecDepth 100000 in
set_option maxHeartbeats 4000000 in
theorem b_X9_wearsAny_0_4 (x1 x2 x3 : Int) {σ : Mem} {Q : Int → Mem → Prop} (h : (σ 0 4 ≤ x3 → (x2 = 0 ∨ x2 = 1) ∧ Q x2 σ) ∧ (¬ σ 0 4 ≤ x3 → (¬ x2 = 0 → WP GM M_X9_wearsAny 26 [some (mr 0), some (mi x1), none, some (mi x3)] [] σ Q) ∧ (x2 = 0 → HT GM M_X9_wearer [mr 0, mi x3, mi 0] σ (fun r19 σ19 => (¬ r19 = x1 → WP GM M_X9_wearsAny 31 [some (mr 0), some (mi x1), none, some (mi x3)] [mi 0] σ19 Q) ∧ (r19 = x1 → WP GM M_X9_wearsAny 26 [some (mr 0), some (mi x1), none, some (mi x3)] [] σ19 Q))))) : WP GM M_X9_wearsAny 4 [some (mr 0), some (mi x1), some (mi x2), some (mi x3)] [] σ Q := by
  refine WP.iload_n dX9_wearsAny_4 rfl ?_
  refine WP.aload_n dX9_wearsAny_5 rfl ?_
  refine WP.getI (v := σ 0 4) fd_X9_86 dX9_wearsAny_6 k0 rfl rfl ?_
  refine WP.icmp_ge (tgt := 38) dX9_wearsAny_9 (by decide) (fun q => ?_) (fun q => ?_)
  · have h := h.1 q
    refine WP.iload_n dX9_wearsAny_38 rfl ?_
    exact WP.zret rfl dX9_wearsAny_39 h.1 h.2
  · have h := h.2 q
    refine WP.iload_n dX9_wearsAny_12 rfl ?_
    refine WP.if_ne (tgt := 26) dX9_wearsAny_13 (by decide) (fun q => ?_) (fun q => ?_)
    · have h := h.1 q
      refine WP.drop 2 (L2 := [some (mr 0), some (mi x1), none, some (mi x3)]) rfl ?_
      exact h
    · have h := h.2 q
      refine WP.aload_n dX9_wearsAny_16 rfl ?_
      refine WP.iload_n dX9_wearsAny_17 rfl ?_
      refine WP.iconst dX9_wearsAny_18 (by decide) ?_
      refine WP.callV M_X9_wearer [mi x3, mi 0] cv_X9_wearer dX9_wearsAny_19 lk_X9_114 k0 rfl ft_X9_wearsAny__X9_wearer rfl (Nat.le_of_ble_eq_true rfl) (HT.mono h ?_)
      rintro r19 σ19 - - h
      refine WP.iload_n dX9_wearsAny_22 rfl ?_
      refine WP.icmp_ne (tgt := 30) dX9_wearsAny_23 (by decide) (fun q => ?_) (fun q => ?_)
      · have h := h.1 q
        refine WP.iconst dX9_wearsAny_30 (by decide) ?_
        refine WP.drop 2 (L2 := [some (mr 0), some (mi x1), none, some (mi x3)]) rfl ?_
        exact h
      · have h := h.2 q
        refine WP.drop 2 (L2 := [some (mr 0), some (mi x1), none, some (mi x3)]) rfl ?_
        exact h
set_option maxRecDepth 100000 in
set_option maxHeartbeats 4000000 in
theorem b_X9_wearsAny_0_26 (x1 x3 : Int) {σ : Mem} {Q : Int → Mem → Prop} (h : WP GM M_X9_wearsAny 31 [some (mr 0), some (mi x1), none, some (mi x3)] [mi 1] σ Q) : WP GM M_X9_wearsAny 26 [some (mr 0), some (mi x1), none, some (mi x3)] [] σ Q := by
  refine WP.iconst dX9_wearsAny_26 (by decide) ?_
  refine WP.goto (tgt := 31) dX9_wearsAny_27 (by decide) ?_
  exact h
set_option maxRecDepth 100000 in
set_option maxHeartbeats 4000000 in
theorem b_X9_wearsAny_0_31 (x1 x3 s0 : Int) {σ : Mem} {Q : Int → Mem → Prop} (h : WP GM M_X9_wearsAny 4 [some (mr 0), some (mi x1), some (mi s0), some (mi (jadd x3 1))] [] σ Q) : WP GM M_X9_wearsAny 31 [some (mr 0), some (mi x1), none, some (mi x3)] [mi s0] σ Q := by
  refine WP.istore_n (L2 := [some (mr 0), some (mi x1), some (mi s0), some (mi x3)]) dX9_wearsAny_31 (by decide) rfl ?_
  refine WP.iinc (L2 := [some (mr 0), some (mi x1), some (mi s0), some (mi (jadd x3 1))]) dX9_wearsAny_32 (by decide) rfl (by decide) rfl ?_
  refine WP.goto (tgt := 4) dX9_wearsAny_35 (by decide) ?_
  exact h
theorem dX9_give_0 : decode cX9_give 0 = .ok (.aload_n 0, 1) := by decide +kernel
theorem dX9_give_1 : decode cX9_give 1 = .ok (.iload_n 1, 1) := by decide +kernel
theorem dX9_give_2 : decode cX9_give 2 = .ok (.invokevirtual 104, 3) := by decide +kernel
theorem dX9_give_5 : decode cX9_give 5 = .ok (.ifCond .eq 10, 3) := by decide +kernel
theorem dX9_give_8 : decode cX9_give 8 = .ok (.iload_n 2, 1) := by decide +kernel
theorem dX9_give_9 : decode cX9_give 9 = .ok (.invokestatic 100, 3) := by decide +kernel
theorem dX9_give_12 : decode cX9_give 12 = .ok (.ifCond .ne 5, 3) := by decide +kernel
theorem dX9_give_15 : decode cX9_give 15 = .ok (.iconst (-1), 1) := by decide +kernel
theorem dX9_give_16 : decode cX9_give 16 = .ok (.ireturn, 1) := by decide +kernel
theorem dX9_give_17 : decode cX9_give 17 = .ok (.aload_n 0, 1) := by decide +kernel
theorem dX9_give_18 : decode cX9_give 18 = .ok (.getfield 25, 3) := by decide +kernel
theorem dX9_give_21 : decode cX9_give 21 = .ok (.iload_n 1, 1) := by decide +kernel
theorem dX9_give_22 : decode cX9_give 22 = .ok (.iaload, 1) := by decide +kernel
theorem dX9_give_23 : decode cX9_give 23 = .ok (.istore_n 3, 1) := by decide +kernel
theorem dX9_give_24 : decode cX9_give 24 = .ok (.iload_n 3, 1) := by decide +kernel
theorem dX9_give_25 : decode cX9_give 25 = .ok (.invokestatic 100, 3) := by decide +kernel
theorem dX9_give_28 : decode cX9_give 28 = .ok (.ifCond .eq 24, 3) := by decide +kernel
theorem dX9_give_31 : decode cX9_give 31 = .ok (.iload_n 3, 1) := by decide +kernel
theorem dX9_give_32 : decode cX9_give 32 = .ok (.iload_n 2, 1) := by decide +kernel
theorem dX9_give_33 : decode cX9_give 33 = .ok (.if_icmp .eq 19, 3) := by decide +kernel
theorem dX9_give_36 : decode cX9_give 36 = .ok (.aload_n 0, 1) := by decide +kernel
theorem dX9_give_37 : decode cX9_give 37 = .ok (.iload_n 3, 1) := by decide +kernel
theorem dX9_give_38 : decode cX9_give 38 = .ok (.invokevirtual 197, 3) := by decide +kernel
theorem dX9_give_41 : decode cX9_give 41 = .ok (.ifCond .eq 11, 3) := by decide +kernel
theorem dX9_give_44 : decode cX9_give 44 = .ok (.aload_n 0, 1) := by decide +kernel
theorem dX9_give_45 : decode cX9_give 45 = .ok (.iload_n 2, 1) := by decide +kernel
theorem dX9_give_46 : decode cX9_give 46 = .ok (.invokevirtual 197, 3) := by decide +kernel
theorem dX9_give_49 : decode cX9_give 49 = .ok (.ifCond .ne 6, 3) := by decide +kernel
theorem dX9_give_52 : decode cX9_give 52 = .ok (.bipush (-2), 2) := by decide +kernel
theorem dX9_give_54 : decode cX9_give 54 = .ok (.ireturn, 1) := by decide +kernel
theorem dX9_give_55 : decode cX9_give 55 = .ok (.aload_n 0, 1) := by decide +kernel
theorem dX9_give_56 : decode cX9_give 56 = .ok (.getfield 25, 3) := by decide +kernel
theorem dX9_give_59 : decode cX9_give 59 = .ok (.iload_n 1, 1) := by decide +kernel
theorem dX9_give_60 : decode cX9_give 60 = .ok (.iload_n 2, 1) := by decide +kernel
theorem dX9_give_61 : decode cX9_give 61 = .ok (.iastore, 1) := by decide +kernel
theorem dX9_give_62 : decode cX9_give 62 = .ok (.iload_n 3, 1) := by decide +kernel
theorem dX9_give_63 : decode cX9_give 63 = .ok (.ireturn, 1) := by decide +kernel
set_option maxRecDepth 100000 in
set_option maxHeartbeats 4000000 in
theorem e_X9_give_0 (x1 x2 : Int) {σ : Mem} {Q : Int → Mem → Prop} (h : HT GM M_X9_isThing [mr 0, mi x1] σ (fun r2 σ2 => (r2 = 0 → Q (-1) σ2) ∧ (¬ r2 = 0 → HT GM M_X9_isBoy [mi x2] σ2 (fun r9 σ9 => (¬ r9 = 0 → (0 ≤ x1 ∧ x1 < 8) ∧ (HT GM M_X9_isBoy [mi (σ9 6 x1)] σ9 (fun r25 σ25 => (r25 = 0 → Q (-2) σ25) ∧ (¬ r25 = 0 → (σ9 6 x1 = x2 → Q (-2) σ25) ∧ (¬ σ9 6 x1 = x2 → HT GM M_X9_wearsAny [mr 0, mi (σ9 6 x1)] σ25 (fun r38 σ38 => (r38 = 0 → Q (-2) σ38) ∧ (¬ r38 = 0 → HT GM M_X9_wearsAny [mr 0, mi x2] σ38 (fun r46 σ46 => (¬ r46 = 0 → (0 ≤ x1 ∧ x1 < 8) ∧ (Q (σ9 6 x1) (mupd σ46 6 x1 x2))) ∧ (r46 = 0 → Q (-2) σ46))))))))) ∧ (r9 = 0 → Q (-1) σ9))))) : HT GM M_X9_give [mr 0, mi x1, mi x2] σ Q := by
  refine HT.of pn_X9 (Nat.le_of_ble_eq_true rfl) ?_
  show WP GM M_X9_give 0 [some (mr 0), some (mi x1), some (mi x2), none] [] σ Q
  refine WP.aload_n dX9_give_0 rfl ?_
  refine WP.iload_n dX9_give_1 rfl ?_
  refine WP.callV M_X9_isThing [mi x1] cv_X9_isThing dX9_give_2 lk_X9_104 k0 rfl ft_X9_give__X9_isThing rfl (Nat.le_of_ble_eq_true rfl) (HT.mono h ?_)
  rintro r2 σ2 - - h
  refine WP.if_eq (tgt := 15) dX9_give_5 (by decide) (fun q => ?_) (fun q => ?_)
  · have h := h.1 q
    refine WP.iconst dX9_give_15 (by decide) ?_
    exact WP.iret rfl dX9_give_16 h
  · have h := h.2 q
    refine WP.iload_n dX9_give_8 rfl ?_
    refine WP.callS M_X9_isBoy [mi x2] cs_X9_isBoy dX9_give_9 lk_X9_100 ft_X9_give__X9_isBoy rfl (Nat.le_of_ble_eq_true rfl) (HT.mono h ?_)
    rintro r9 σ9 - - h
    refine WP.if_ne (tgt := 17) dX9_give_12 (by decide) (fun q => ?_) (fun q => ?_)
    · have h := h.1 q
      refine WP.aload_n dX9_give_17 rfl ?_
      refine WP.getR fd_X9_25 dX9_give_18 k0 rfl ?_
      refine WP.iload_n dX9_give_21 rfl ?_
      obtain ⟨hi, h⟩ := h
      refine WP.iald dX9_give_22 k6 hi ?_
      refine WP.istore_n (L2 := [some (mr 0), some (mi x1), some (mi x2), some (mi (σ9 6 x1))]) dX9_give_23 (by decide) rfl ?_
      refine WP.iload_n dX9_give_24 rfl ?_
      refine WP.callS M_X9_isBoy [mi (σ9 6 x1)] cs_X9_isBoy dX9_give_25 lk_X9_100 ft_X9_give__X9_isBoy rfl (Nat.le_of_ble_eq_true rfl) (HT.mono h ?_)
      rintro r25 σ25 - - h
      refine WP.if_eq (tgt := 52) dX9_give_28 (by decide) (fun q => ?_) (fun q => ?_)
      · have h := h.1 q
        refine WP.bipush dX9_give_52 (by decide) bp_m2 ?_
        exact WP.iret rfl dX9_give_54 h
      · have h := h.2 q
        refine WP.iload_n dX9_give_31 rfl ?_
        refine WP.iload_n dX9_give_32 rfl ?_
        refine WP.icmp_eq (tgt := 52) dX9_give_33 (by decide) (fun q => ?_) (fun q => ?_)
        · have h := h.1 q
          refine WP.bipush dX9_give_52 (by decide) bp_m2 ?_
          exact WP.iret rfl dX9_give_54 h
        · have h := h.2 q
          refine WP.aload_n dX9_give_36 rfl ?_
          refine WP.iload_n dX9_give_37 rfl ?_
          refine WP.callV M_X9_wearsAny [mi (σ9 6 x1)] cv_X9_wearsAny dX9_give_38 lk_X9_197 k0 rfl ft_X9_give__X9_wearsAny rfl (Nat.le_of_ble_eq_true rfl) (HT.mono h ?_)
          rintro r38 σ38 - - h
          refine WP.if_eq (tgt := 52) dX9_give_41 (by decide) (fun q => ?_) (fun q => ?_)
          · have h := h.1 q
            refine WP.bipush dX9_give_52 (by decide) bp_m2 ?_
            exact WP.iret rfl dX9_give_54 h
          · have h := h.2 q
            refine WP.aload_n dX9_give_44 rfl ?_
            refine WP.iload_n dX9_give_45 rfl ?_
            refine WP.callV M_X9_wearsAny [mi x2] cv_X9_wearsAny dX9_give_46 lk_X9_197 k0 rfl ft_X9_give__X9_wearsAny rfl (Nat.le_of_ble_eq_true rfl) (HT.mono h ?_)
            rintro r46 σ46 - - h
            refine WP.if_ne (tgt := 55) dX9_give_49 (by decide) (fun q => ?_) (fun q => ?_)
            · have h := h.1 q
              refine WP.aload_n dX9_give_55 rfl ?_
              refine WP.getR fd_X9_25 dX9_give_56 k0 rfl ?_
              refine WP.iload_n dX9_give_59 rfl ?_
              refine WP.iload_n dX9_give_60 rfl ?_
              obtain ⟨hi, h⟩ := h
              refine WP.iast dX9_give_61 k6 hi ?_
              refine WP.iload_n dX9_give_62 rfl ?_
              exact WP.iret rfl dX9_give_63 h
            · have h := h.2 q
              refine WP.bipush dX9_give_52 (by decide) bp_m2 ?_
              exact WP.iret rfl dX9_give_54 h
    · have h := h.2 q
      refine WP.iconst dX9_give_15 (by decide) ?_
      exact WP.iret rfl dX9_give_16 h
theorem dX9_search_0 : decode cX9_search 0 = .ok (.aload_n 0, 1) := by decide +kernel
theorem dX9_search_1 : decode cX9_search 1 = .ok (.iload_n 1, 1) := by decide +kernel
theorem dX9_search_2 : decode cX9_search 2 = .ok (.invokevirtual 109, 3) := by decide +kernel
theorem dX9_search_5 : decode cX9_search 5 = .ok (.ifCond .ne 5, 3) := by decide +kernel
theorem dX9_search_8 : decode cX9_search 8 = .ok (.iconst (-1), 1) := by decide +kernel
theorem dX9_search_9 : decode cX9_search 9 = .ok (.ireturn, 1) := by decide +kernel
theorem dX9_search_10 : decode cX9_search 10 = .ok (.iconst 0, 1) := by decide +kernel
theorem dX9_search_11 : decode cX9_search 11 = .ok (.istore_n 2, 1) := by decide +kernel
theorem dX9_search_12 : decode cX9_search 12 = .ok (.iconst 0, 1) := by decide +kernel
theorem dX9_search_13 : decode cX9_search 13 = .ok (.istore_n 3, 1) := by decide +kernel
theorem dX9_search_14 : decode cX9_search 14 = .ok (.iload_n 3, 1) := by decide +kernel
theorem dX9_search_15 : decode cX9_search 15 = .ok (.aload_n 0, 1) := by decide +kernel
theorem dX9_search_16 : decode cX9_search 16 = .ok (.getfield 89, 3) := by decide +kernel
theorem dX9_search_19 : decode cX9_search 19 = .ok (.if_icmp .ge 31, 3) := by decide +kernel
theorem dX9_search_22 : decode cX9_search 22 = .ok (.aload_n 0, 1) := by decide +kernel
theorem dX9_search_23 : decode cX9_search 23 = .ok (.getfield 25, 3) := by decide +kernel
theorem dX9_search_26 : decode cX9_search 26 = .ok (.iload_n 3, 1) := by decide +kernel
theorem dX9_search_27 : decode cX9_search 27 = .ok (.iaload, 1) := by decide +kernel
theorem dX9_search_28 : decode cX9_search 28 = .ok (.bipush 20, 2) := by decide +kernel
theorem dX9_search_30 : decode cX9_search 30 = .ok (.iload_n 1, 1) := by decide +kernel
theorem dX9_search_31 : decode cX9_search 31 = .ok (.iadd, 1) := by decide +kernel
theorem dX9_search_32 : decode cX9_search 32 = .ok (.if_icmp .ne 12, 3) := by decide +kernel
theorem dX9_search_35 : decode cX9_search 35 = .ok (.aload_n 0, 1) := by decide +kernel
theorem dX9_search_36 : decode cX9_search 36 = .ok (.iload_n 3, 1) := by decide +kernel
theorem dX9_search_37 : decode cX9_search 37 = .ok (.iload_n 1, 1) := by decide +kernel
theorem dX9_search_38 : decode cX9_search 38 = .ok (.invokevirtual 193, 3) := by decide +kernel
theorem dX9_search_41 : decode cX9_search 41 = .ok (.iinc 2 1, 3) := by decide +kernel
theorem dX9_search_44 : decode cX9_search 44 = .ok (.iinc 3 1, 3) := by decide +kernel
theorem dX9_search_47 : decode cX9_search 47 = .ok (.goto (-33), 3) := by decide +kernel
theorem dX9_search_50 : decode cX9_search 50 = .ok (.iload_n 2, 1) := by decide +kernel
theorem dX9_search_51 : decode cX9_search 51 = .ok (.ireturn, 1) := by decide +kernel
set_option maxRecDepth 100000 in
set_option maxHeartbeats 4000000 in
theorem e_X9_search_0 (x1 : Int) {σ : Mem} {Q : Int → Mem → Prop} (h : HT GM M_X9_isCoat [mr 0, mi x1] σ (fun r2 σ2 => (¬ r2 = 0 → WP GM M_X9_search 14 [some (mr 0), some (mi x1), some (mi 0), some (mi 0)] [] σ2 Q) ∧ (r2 = 0 → Q (-1) σ2))) : HT GM M_X9_search [mr 0, mi x1] σ Q := by
  refine HT.of pn_X9 (Nat.le_of_ble_eq_true rfl) ?_
  show WP GM M_X9_search 0 [some (mr 0), some (mi x1), none, none] [] σ Q
  refine WP.aload_n dX9_search_0 rfl ?_
  refine WP.iload_n dX9_search_1 rfl ?_
  refine WP.callV M_X9_isCoat [mi x1] cv_X9_isCoat dX9_search_2 lk_X9_109 k0 rfl ft_X9_search__X9_isCoat rfl (Nat.le_of_ble_eq_true rfl) (HT.mono h ?_)
  rintro r2 σ2 - - h
  refine WP.if_ne (tgt := 10) dX9_search_5 (by decide) (fun q => ?_) (fun q => ?_)
  · have h := h.1 q
    refine WP.iconst dX9_search_10 (by decide) ?_
    refine WP.istore_n (L2 := [some (mr 0), some (mi x1), some (mi 0), none]) dX9_search_11 (by decide) rfl ?_
    refine WP.iconst dX9_search_12 (by decide) ?_
    refine WP.istore_n (L2 := [some (mr 0), some (mi x1), some (mi 0), some (mi 0)]) dX9_search_13 (by decide) rfl ?_
    exact h
  · have h := h.2 q
    refine WP.iconst dX9_search_8 (by decide) ?_
    exact WP.iret rfl dX9_search_9 h
set_option maxRecDepth 100000 in
set_option maxHeartbeats 4000000 in
theorem b_X9_search_0_14 (x1 x2 x3 : Int) {σ : Mem} {Q : Int → Mem → Prop} (h : (σ 0 9 ≤ x3 → Q x2 σ) ∧ (¬ σ 0 9 ≤ x3 → (0 ≤ x3 ∧ x3 < 8) ∧ ((¬ σ 6 x3 = jadd 20 x1 → WP GM M_X9_search 44 [some (mr 0), some (mi x1), some (mi x2), some (mi x3)] [] σ Q) ∧ (σ 6 x3 = jadd 20 x1 → HT GM M_X9_come [mr 0, mi x3, mi x1] σ (fun _ σ38 => WP GM M_X9_search 44 [some (mr 0), some (mi x1), some (mi (jadd x2 1)), some (mi x3)] [] σ38 Q))))) : WP GM M_X9_search 14 [some (mr 0), some (mi x1), some (mi x2), some (mi x3)] [] σ Q := by
  refine WP.iload_n dX9_search_14 rfl ?_
  refine WP.aload_n dX9_search_15 rfl ?_
  refine WP.getI (v := σ 0 9) fd_X9_89 dX9_search_16 k0 rfl rfl ?_
  refine WP.icmp_ge (tgt := 50) dX9_search_19 (by decide) (fun q => ?_) (fun q => ?_)
  · have h := h.1 q
    refine WP.iload_n dX9_search_50 rfl ?_
    exact WP.iret rfl dX9_search_51 h
  · have h := h.2 q
    refine WP.aload_n dX9_search_22 rfl ?_
    refine WP.getR fd_X9_25 dX9_search_23 k0 rfl ?_
    refine WP.iload_n dX9_search_26 rfl ?_
    obtain ⟨hi, h⟩ := h
    refine WP.iald dX9_search_27 k6 hi ?_
    refine WP.bipush dX9_search_28 (by decide) bp_20 ?_
    refine WP.iload_n dX9_search_30 rfl ?_
    refine WP.iadd dX9_search_31 ?_
    refine WP.icmp_ne (tgt := 44) dX9_search_32 (by decide) (fun q => ?_) (fun q => ?_)
    · have h := h.1 q
      exact h
    · have h := h.2 q
      refine WP.aload_n dX9_search_35 rfl ?_
      refine WP.iload_n dX9_search_36 rfl ?_
      refine WP.iload_n dX9_search_37 rfl ?_
      refine WP.callV M_X9_come [mi x3, mi x1] cv_X9_come dX9_search_38 lk_X9_193 k0 rfl ft_X9_search__X9_come rfl (Nat.le_of_ble_eq_true rfl) (HT.mono h ?_)
      rintro _ σ38 - - h
      refine WP.iinc (L2 := [some (mr 0), some (mi x1), some (mi (jadd x2 1)), some (mi x3)]) dX9_search_41 (by decide) rfl (by decide) rfl ?_
      exact h
set_option maxRecDepth 100000 in
set_option maxHeartbeats 4000000 in
theorem b_X9_search_0_44 (x1 x2 x3 : Int) {σ : Mem} {Q : Int → Mem → Prop} (h : WP GM M_X9_search 14 [some (mr 0), some (mi x1), some (mi x2), some (mi (jadd x3 1))] [] σ Q) : WP GM M_X9_search 44 [some (mr 0), some (mi x1), some (mi x2), some (mi x3)] [] σ Q := by
  refine WP.iinc (L2 := [some (mr 0), some (mi x1), some (mi x2), some (mi (jadd x3 1))]) dX9_search_44 (by decide) rfl (by decide) rfl ?_
  refine WP.goto (tgt := 14) dX9_search_47 (by decide) ?_
  exact h
theorem dX9_take_0 : decode cX9_take 0 = .ok (.aload_n 0, 1) := by decide +kernel
theorem dX9_take_1 : decode cX9_take 1 = .ok (.iload_n 1, 1) := by decide +kernel
theorem dX9_take_2 : decode cX9_take 2 = .ok (.invokevirtual 104, 3) := by decide +kernel
theorem dX9_take_5 : decode cX9_take 5 = .ok (.ifCond .eq 11, 3) := by decide +kernel
theorem dX9_take_8 : decode cX9_take 8 = .ok (.aload_n 0, 1) := by decide +kernel
theorem dX9_take_9 : decode cX9_take 9 = .ok (.iload_n 2, 1) := by decide +kernel
theorem dX9_take_10 : decode cX9_take 10 = .ok (.invokevirtual 109, 3) := by decide +kernel
theorem dX9_take_13 : decode cX9_take 13 = .ok (.ifCond .ne 5, 3) := by decide +kernel
theorem dX9_take_16 : decode cX9_take 16 = .ok (.iconst (-1), 1) := by decide +kernel
theorem dX9_take_17 : decode cX9_take 17 = .ok (.ireturn, 1) := by decide +kernel
theorem dX9_take_18 : decode cX9_take 18 = .ok (.aload_n 0, 1) := by decide +kernel
theorem dX9_take_19 : decode cX9_take 19 = .ok (.getfield 25, 3) := by decide +kernel
theorem dX9_take_22 : decode cX9_take 22 = .ok (.iload_n 1, 1) := by decide +kernel
theorem dX9_take_23 : decode cX9_take 23 = .ok (.iaload, 1) := by decide +kernel
theorem dX9_take_24 : decode cX9_take 24 = .ok (.bipush 10, 2) := by decide +kernel
theorem dX9_take_26 : decode cX9_take 26 = .ok (.iload_n 2, 1) := by decide +kernel
theorem dX9_take_27 : decode cX9_take 27 = .ok (.iadd, 1) := by decide +kernel
theorem dX9_take_28 : decode cX9_take 28 = .ok (.if_icmp .eq 6, 3) := by decide +kernel
theorem dX9_take_31 : decode cX9_take 31 = .ok (.bipush (-2), 2) := by decide +kernel
theorem dX9_take_33 : decode cX9_take 33 = .ok (.ireturn, 1) := by decide +kernel
theorem dX9_take_34 : decode cX9_take 34 = .ok (.aload_n 0, 1) := by decide +kernel
theorem dX9_take_35 : decode cX9_take 35 = .ok (.getfield 25, 3) := by decide +kernel
theorem dX9_take_38 : decode cX9_take 38 = .ok (.iload_n 1, 1) := by decide +kernel
theorem dX9_take_39 : decode cX9_take 39 = .ok (.aload_n 0, 1) := by decide +kernel
theorem dX9_take_40 : decode cX9_take 40 = .ok (.iload_n 2, 1) := by decide +kernel
theorem dX9_take_41 : decode cX9_take 41 = .ok (.iconst 0, 1) := by decide +kernel
theorem dX9_take_42 : decode cX9_take 42 = .ok (.invokevirtual 114, 3) := by decide +kernel
theorem dX9_take_45 : decode cX9_take 45 = .ok (.iastore, 1) := by decide +kernel
theorem dX9_take_46 : decode cX9_take 46 = .ok (.aload_n 0, 1) := by decide +kernel
theorem dX9_take_47 : decode cX9_take 47 = .ok (.getfield 25, 3) := by decide +kernel
theorem dX9_take_50 : decode cX9_take 50 = .ok (.iload_n 1, 1) := by decide +kernel
theorem dX9_take_51 : decode cX9_take 51 = .ok (.iaload, 1) := by decide +kernel
theorem dX9_take_52 : decode cX9_take 52 = .ok (.ireturn, 1) := by decide +kernel
set_option maxRecDepth 100000 in
set_option maxHeartbeats 4000000 in
theorem e_X9_take_0 (x1 x2 : Int) {σ : Mem} {Q : Int → Mem → Prop} (h : HT GM M_X9_isThing [mr 0, mi x1] σ (fun r2 σ2 => (r2 = 0 → Q (-1) σ2) ∧ (¬ r2 = 0 → HT GM M_X9_isCoat [mr 0, mi x2] σ2 (fun r10 σ10 => (¬ r10 = 0 → (0 ≤ x1 ∧ x1 < 8) ∧ ((σ10 6 x1 = jadd 10 x2 → HT GM M_X9_wearer [mr 0, mi x2, mi 0] σ10 (fun r42 σ42 => (0 ≤ x1 ∧ x1 < 8) ∧ ((0 ≤ x1 ∧ x1 < 8) ∧ (Q r42 (mupd σ42 6 x1 r42))))) ∧ (¬ σ10 6 x1 = jadd 10 x2 → Q (-2) σ10))) ∧ (r10 = 0 → Q (-1) σ10))))) : HT GM M_X9_take [mr 0, mi x1, mi x2] σ Q := by
  refine HT.of pn_X9 (Nat.le_of_ble_eq_true rfl) ?_
  show WP GM M_X9_take 0 [some (mr 0), some (mi x1), some (mi x2)] [] σ Q
  refine WP.aload_n dX9_take_0 rfl ?_
  refine WP.iload_n dX9_take_1 rfl ?_
  refine WP.callV M_X9_isThing [mi x1] cv_X9_isThing dX9_take_2 lk_X9_104 k0 rfl ft_X9_take__X9_isThing rfl (Nat.le_of_ble_eq_true rfl) (HT.mono h ?_)
  rintro r2 σ2 - - h
  refine WP.if_eq (tgt := 16) dX9_take_5 (by decide) (fun q => ?_) (fun q => ?_)
  · have h := h.1 q
    refine WP.iconst dX9_take_16 (by decide) ?_
    exact WP.iret rfl dX9_take_17 h
  · have h := h.2 q
    refine WP.aload_n dX9_take_8 rfl ?_
    refine WP.iload_n dX9_take_9 rfl ?_
    refine WP.callV M_X9_isCoat [mi x2] cv_X9_isCoat dX9_take_10 lk_X9_109 k0 rfl ft_X9_take__X9_isCoat rfl (Nat.le_of_ble_eq_true rfl) (HT.mono h ?_)
    rintro r10 σ10 - - h
    refine WP.if_ne (tgt := 18) dX9_take_13 (by decide) (fun q => ?_) (fun q => ?_)
    · have h := h.1 q
      refine WP.aload_n dX9_take_18 rfl ?_
      refine WP.getR fd_X9_25 dX9_take_19 k0 rfl ?_
      refine WP.iload_n dX9_take_22 rfl ?_
      obtain ⟨hi, h⟩ := h
      refine WP.iald dX9_take_23 k6 hi ?_
      refine WP.bipush dX9_take_24 (by decide) bp_10 ?_
      refine WP.iload_n dX9_take_26 rfl ?_
      refine WP.iadd dX9_take_27 ?_
      refine WP.icmp_eq (tgt := 34) dX9_take_28 (by decide) (fun q => ?_) (fun q => ?_)
      · have h := h.1 q
        refine WP.aload_n dX9_take_34 rfl ?_
        refine WP.getR fd_X9_25 dX9_take_35 k0 rfl ?_
        refine WP.iload_n dX9_take_38 rfl ?_
        refine WP.aload_n dX9_take_39 rfl ?_
        refine WP.iload_n dX9_take_40 rfl ?_
        refine WP.iconst dX9_take_41 (by decide) ?_
        refine WP.callV M_X9_wearer [mi x2, mi 0] cv_X9_wearer dX9_take_42 lk_X9_114 k0 rfl ft_X9_take__X9_wearer rfl (Nat.le_of_ble_eq_true rfl) (HT.mono h ?_)
        rintro r42 σ42 - - h
        obtain ⟨hi, h⟩ := h
        refine WP.iast dX9_take_45 k6 hi ?_
        refine WP.aload_n dX9_take_46 rfl ?_
        refine WP.getR fd_X9_25 dX9_take_47 k0 rfl ?_
        refine WP.iload_n dX9_take_50 rfl ?_
        obtain ⟨hi, h⟩ := h
        refine WP.iald dX9_take_51 k6 hi ?_
        refine WP.topI (y := r42) mupd_at ?_
        exact WP.iret rfl dX9_take_52 h
      · have h := h.2 q
        refine WP.bipush dX9_take_31 (by decide) bp_m2 ?_
        exact WP.iret rfl dX9_take_33 h
    · have h := h.2 q
      refine WP.iconst dX9_take_16 (by decide) ?_
      exact WP.iret rfl dX9_take_17 h
theorem dX9_put_0 : decode cX9_put 0 = .ok (.aload_n 0, 1) := by decide +kernel
theorem dX9_put_1 : decode cX9_put 1 = .ok (.iload_n 1, 1) := by decide +kernel
theorem dX9_put_2 : decode cX9_put 2 = .ok (.invokevirtual 104, 3) := by decide +kernel
theorem dX9_put_5 : decode cX9_put 5 = .ok (.ifCond .eq 11, 3) := by decide +kernel
theorem dX9_put_8 : decode cX9_put 8 = .ok (.aload_n 0, 1) := by decide +kernel
theorem dX9_put_9 : decode cX9_put 9 = .ok (.iload_n 2, 1) := by decide +kernel
theorem dX9_put_10 : decode cX9_put 10 = .ok (.invokevirtual 109, 3) := by decide +kernel
theorem dX9_put_13 : decode cX9_put 13 = .ok (.ifCond .ne 5, 3) := by decide +kernel
theorem dX9_put_16 : decode cX9_put 16 = .ok (.iconst (-1), 1) := by decide +kernel
theorem dX9_put_17 : decode cX9_put 17 = .ok (.ireturn, 1) := by decide +kernel
theorem dX9_put_18 : decode cX9_put 18 = .ok (.aload_n 0, 1) := by decide +kernel
theorem dX9_put_19 : decode cX9_put 19 = .ok (.iload_n 2, 1) := by decide +kernel
theorem dX9_put_20 : decode cX9_put 20 = .ok (.iconst 0, 1) := by decide +kernel
theorem dX9_put_21 : decode cX9_put 21 = .ok (.invokevirtual 114, 3) := by decide +kernel
theorem dX9_put_24 : decode cX9_put 24 = .ok (.istore_n 3, 1) := by decide +kernel
theorem dX9_put_25 : decode cX9_put 25 = .ok (.aload_n 0, 1) := by decide +kernel
theorem dX9_put_26 : decode cX9_put 26 = .ok (.getfield 25, 3) := by decide +kernel
theorem dX9_put_29 : decode cX9_put 29 = .ok (.iload_n 1, 1) := by decide +kernel
theorem dX9_put_30 : decode cX9_put 30 = .ok (.iaload, 1) := by decide +kernel
theorem dX9_put_31 : decode cX9_put 31 = .ok (.iload_n 3, 1) := by decide +kernel
theorem dX9_put_32 : decode cX9_put 32 = .ok (.if_icmp .eq 6, 3) := by decide +kernel
theorem dX9_put_35 : decode cX9_put 35 = .ok (.bipush (-2), 2) := by decide +kernel
theorem dX9_put_37 : decode cX9_put 37 = .ok (.ireturn, 1) := by decide +kernel
theorem dX9_put_38 : decode cX9_put 38 = .ok (.aload_n 0, 1) := by decide +kernel
theorem dX9_put_39 : decode cX9_put 39 = .ok (.iload_n 1, 1) := by decide +kernel
theorem dX9_put_40 : decode cX9_put 40 = .ok (.iload_n 2, 1) := by decide +kernel
theorem dX9_put_41 : decode cX9_put 41 = .ok (.invokevirtual 193, 3) := by decide +kernel
theorem dX9_put_44 : decode cX9_put 44 = .ok (.iload_n 3, 1) := by decide +kernel
theorem dX9_put_45 : decode cX9_put 45 = .ok (.ireturn, 1) := by decide +kernel
set_option maxRecDepth 100000 in
set_option maxHeartbeats 4000000 in
theorem e_X9_put_0 (x1 x2 : Int) {σ : Mem} {Q : Int → Mem → Prop} (h : HT GM M_X9_isThing [mr 0, mi x1] σ (fun r2 σ2 => (r2 = 0 → Q (-1) σ2) ∧ (¬ r2 = 0 → HT GM M_X9_isCoat [mr 0, mi x2] σ2 (fun r10 σ10 => (¬ r10 = 0 → HT GM M_X9_wearer [mr 0, mi x2, mi 0] σ10 (fun r21 σ21 => (0 ≤ x1 ∧ x1 < 8) ∧ ((σ21 6 x1 = r21 → HT GM M_X9_come [mr 0, mi x1, mi x2] σ21 (fun _ σ41 => Q r21 σ41)) ∧ (¬ σ21 6 x1 = r21 → Q (-2) σ21)))) ∧ (r10 = 0 → Q (-1) σ10))))) : HT GM M_X9_put [mr 0, mi x1, mi x2] σ Q := by
  refine HT.of pn_X9 (Nat.le_of_ble_eq_true rfl) ?_
  show WP GM M_X9_put 0 [some (mr 0), some (mi x1), some (mi x2), none] [] σ Q
  refine WP.aload_n dX9_put_0 rfl ?_
  refine WP.iload_n dX9_put_1 rfl ?_
  refine WP.callV M_X9_isThing [mi x1] cv_X9_isThing dX9_put_2 lk_X9_104 k0 rfl ft_X9_put__X9_isThing rfl (Nat.le_of_ble_eq_true rfl) (HT.mono h ?_)
  rintro r2 σ2 - - h
  refine WP.if_eq (tgt := 16) dX9_put_5 (by decide) (fun q => ?_) (fun q => ?_)
  · have h := h.1 q
    refine WP.iconst dX9_put_16 (by decide) ?_
    exact WP.iret rfl dX9_put_17 h
  · have h := h.2 q
    refine WP.aload_n dX9_put_8 rfl ?_
    refine WP.iload_n dX9_put_9 rfl ?_
    refine WP.callV M_X9_isCoat [mi x2] cv_X9_isCoat dX9_put_10 lk_X9_109 k0 rfl ft_X9_put__X9_isCoat rfl (Nat.le_of_ble_eq_true rfl) (HT.mono h ?_)
    rintro r10 σ10 - - h
    refine WP.if_ne (tgt := 18) dX9_put_13 (by decide) (fun q => ?_) (fun q => ?_)
    · have h := h.1 q
      refine WP.aload_n dX9_put_18 rfl ?_
      refine WP.iload_n dX9_put_19 rfl ?_
      refine WP.iconst dX9_put_20 (by decide) ?_
      refine WP.callV M_X9_wearer [mi x2, mi 0] cv_X9_wearer dX9_put_21 lk_X9_114 k0 rfl ft_X9_put__X9_wearer rfl (Nat.le_of_ble_eq_true rfl) (HT.mono h ?_)
      rintro r21 σ21 - - h
      refine WP.istore_n (L2 := [some (mr 0), some (mi x1), some (mi x2), some (mi r21)]) dX9_put_24 (by decide) rfl ?_
      refine WP.aload_n dX9_put_25 rfl ?_
      refine WP.getR fd_X9_25 dX9_put_26 k0 rfl ?_
      refine WP.iload_n dX9_put_29 rfl ?_
      obtain ⟨hi, h⟩ := h
      refine WP.iald dX9_put_30 k6 hi ?_
      refine WP.iload_n dX9_put_31 rfl ?_
      refine WP.icmp_eq (tgt := 38) dX9_put_32 (by decide) (fun q => ?_) (fun q => ?_)
      · have h := h.1 q
        refine WP.aload_n dX9_put_38 rfl ?_
        refine WP.iload_n dX9_put_39 rfl ?_
        refine WP.iload_n dX9_put_40 rfl ?_
        refine WP.callV M_X9_come [mi x1, mi x2] cv_X9_come dX9_put_41 lk_X9_193 k0 rfl ft_X9_put__X9_come rfl (Nat.le_of_ble_eq_true rfl) (HT.mono h ?_)
        rintro _ σ41 - - h
        refine WP.iload_n dX9_put_44 rfl ?_
        exact WP.iret rfl dX9_put_45 h
      · have h := h.2 q
        refine WP.bipush dX9_put_35 (by decide) bp_m2 ?_
        exact WP.iret rfl dX9_put_37 h
    · have h := h.2 q
      refine WP.iconst dX9_put_16 (by decide) ?_
      exact WP.iret rfl dX9_put_17 h
theorem dX9_does_0 : decode cX9_does 0 = .ok (.aload_n 0, 1) := by decide +kernel
theorem dX9_does_1 : decode cX9_does 1 = .ok (.getfield 44, 3) := by decide +kernel
theorem dX9_does_4 : decode cX9_does 4 = .ok (.iload_n 1, 1) := by decide +kernel
theorem dX9_does_5 : decode cX9_does 5 = .ok (.iaload, 1) := by decide +kernel
theorem dX9_does_6 : decode cX9_does 6 = .ok (.istore_n 2, 1) := by decide +kernel
theorem dX9_does_7 : decode cX9_does 7 = .ok (.aload_n 0, 1) := by decide +kernel
theorem dX9_does_8 : decode cX9_does 8 = .ok (.getfield 44, 3) := by decide +kernel
theorem dX9_does_11 : decode cX9_does 11 = .ok (.iload_n 1, 1) := by decide +kernel
theorem dX9_does_12 : decode cX9_does 12 = .ok (.iconst 1, 1) := by decide +kernel
theorem dX9_does_13 : decode cX9_does 13 = .ok (.iadd, 1) := by decide +kernel
theorem dX9_does_14 : decode cX9_does 14 = .ok (.iaload, 1) := by decide +kernel
theorem dX9_does_15 : decode cX9_does 15 = .ok (.istore_n 3, 1) := by decide +kernel
theorem dX9_does_16 : decode cX9_does 16 = .ok (.aload_n 0, 1) := by decide +kernel
theorem dX9_does_17 : decode cX9_does 17 = .ok (.getfield 44, 3) := by decide +kernel
theorem dX9_does_20 : decode cX9_does 20 = .ok (.iload_n 1, 1) := by decide +kernel
theorem dX9_does_21 : decode cX9_does 21 = .ok (.iconst 2, 1) := by decide +kernel
theorem dX9_does_22 : decode cX9_does 22 = .ok (.iadd, 1) := by decide +kernel
theorem dX9_does_23 : decode cX9_does 23 = .ok (.iaload, 1) := by decide +kernel
theorem dX9_does_24 : decode cX9_does 24 = .ok (.istore 4, 2) := by decide +kernel
theorem dX9_does_26 : decode cX9_does 26 = .ok (.iload_n 2, 1) := by decide +kernel
theorem dX9_does_27 : decode cX9_does 27 = .ok (.bipush 112, 2) := by decide +kernel
theorem dX9_does_29 : decode cX9_does 29 = .ok (.if_icmp .ne 21, 3) := by decide +kernel
theorem dX9_does_32 : decode cX9_does 32 = .ok (.aload_n 0, 1) := by decide +kernel
theorem dX9_does_33 : decode cX9_does 33 = .ok (.iload_n 3, 1) := by decide +kernel
theorem dX9_does_34 : decode cX9_does 34 = .ok (.iload 4, 2) := by decide +kernel
theorem dX9_does_36 : decode cX9_does 36 = .ok (.invokevirtual 172, 3) := by decide +kernel
theorem dX9_does_39 : decode cX9_does 39 = .ok (.ifCond .lt 7, 3) := by decide +kernel
theorem dX9_does_42 : decode cX9_does 42 = .ok (.iconst 1, 1) := by decide +kernel
theorem dX9_does_43 : decode cX9_does 43 = .ok (.goto 89, 3) := by decide +kernel
theorem dX9_does_46 : decode cX9_does 46 = .ok (.iconst 0, 1) := by decide +kernel
theorem dX9_does_47 : decode cX9_does 47 = .ok (.goto 85, 3) := by decide +kernel
theorem dX9_does_50 : decode cX9_does 50 = .ok (.iload_n 2, 1) := by decide +kernel
theorem dX9_does_51 : decode cX9_does 51 = .ok (.bipush 116, 2) := by decide +kernel
theorem dX9_does_53 : decode cX9_does 53 = .ok (.if_icmp .ne 21, 3) := by decide +kernel
theorem dX9_does_56 : decode cX9_does 56 = .ok (.aload_n 0, 1) := by decide +kernel
theorem dX9_does_57 : decode cX9_does 57 = .ok (.iload_n 3, 1) := by decide +kernel
theorem dX9_does_58 : decode cX9_does 58 = .ok (.iload 4, 2) := by decide +kernel
theorem dX9_does_60 : decode cX9_does 60 = .ok (.invokevirtual 175, 3) := by decide +kernel
theorem dX9_does_63 : decode cX9_does 63 = .ok (.ifCond .lt 7, 3) := by decide +kernel
theorem dX9_does_66 : decode cX9_does 66 = .ok (.iconst 1, 1) := by decide +kernel
theorem dX9_does_67 : decode cX9_does 67 = .ok (.goto 65, 3) := by decide +kernel
theorem dX9_does_70 : decode cX9_does 70 = .ok (.iconst 0, 1) := by decide +kernel
theorem dX9_does_71 : decode cX9_does 71 = .ok (.goto 61, 3) := by decide +kernel
theorem dX9_does_74 : decode cX9_does 74 = .ok (.iload_n 2, 1) := by decide +kernel
theorem dX9_does_75 : decode cX9_does 75 = .ok (.bipush 115, 2) := by decide +kernel
theorem dX9_does_77 : decode cX9_does 77 = .ok (.if_icmp .ne 19, 3) := by decide +kernel
theorem dX9_does_80 : decode cX9_does 80 = .ok (.aload_n 0, 1) := by decide +kernel
theorem dX9_does_81 : decode cX9_does 81 = .ok (.iload_n 3, 1) := by decide +kernel
theorem dX9_does_82 : decode cX9_does 82 = .ok (.invokevirtual 178, 3) := by decide +kernel
theorem dX9_does_85 : decode cX9_does 85 = .ok (.ifCond .lt 7, 3) := by decide +kernel
theorem dX9_does_88 : decode cX9_does 88 = .ok (.iconst 1, 1) := by decide +kernel
theorem dX9_does_89 : decode cX9_does 89 = .ok (.goto 43, 3) := by decide +kernel
theorem dX9_does_92 : decode cX9_does 92 = .ok (.iconst 0, 1) := by decide +kernel
theorem dX9_does_93 : decode cX9_does 93 = .ok (.goto 39, 3) := by decide +kernel
theorem dX9_does_96 : decode cX9_does 96 = .ok (.iload_n 2, 1) := by decide +kernel
theorem dX9_does_97 : decode cX9_does 97 = .ok (.bipush 103, 2) := by decide +kernel
theorem dX9_does_99 : decode cX9_does 99 = .ok (.if_icmp .ne 21, 3) := by decide +kernel
theorem dX9_does_102 : decode cX9_does 102 = .ok (.aload_n 0, 1) := by decide +kernel
theorem dX9_does_103 : decode cX9_does 103 = .ok (.iload_n 3, 1) := by decide +kernel
theorem dX9_does_104 : decode cX9_does 104 = .ok (.iload 4, 2) := by decide +kernel
theorem dX9_does_106 : decode cX9_does 106 = .ok (.invokevirtual 181, 3) := by decide +kernel
theorem dX9_does_109 : decode cX9_does 109 = .ok (.ifCond .lt 7, 3) := by decide +kernel
theorem dX9_does_112 : decode cX9_does 112 = .ok (.iconst 1, 1) := by decide +kernel
theorem dX9_does_113 : decode cX9_does 113 = .ok (.goto 19, 3) := by decide +kernel
theorem dX9_does_116 : decode cX9_does 116 = .ok (.iconst 0, 1) := by decide +kernel
theorem dX9_does_117 : decode cX9_does 117 = .ok (.goto 15, 3) := by decide +kernel
theorem dX9_does_120 : decode cX9_does 120 = .ok (.aload_n 0, 1) := by decide +kernel
theorem dX9_does_121 : decode cX9_does 121 = .ok (.invokevirtual 184, 3) := by decide +kernel
theorem dX9_does_124 : decode cX9_does 124 = .ok (.ifCond .lt 7, 3) := by decide +kernel
theorem dX9_does_127 : decode cX9_does 127 = .ok (.iconst 1, 1) := by decide +kernel
theorem dX9_does_128 : decode cX9_does 128 = .ok (.goto 4, 3) := by decide +kernel
theorem dX9_does_131 : decode cX9_does 131 = .ok (.iconst 0, 1) := by decide +kernel
theorem dX9_does_132 : decode cX9_does 132 = .ok (.ireturn, 1) := by decide +kernel
set_option maxRecDepth 100000 in
set_option maxHeartbeats 4000000 in
theorem e_X9_does_0 (x1 : Int) {σ : Mem} {Q : Int → Mem → Prop} (h : (0 ≤ x1 ∧ x1 < 160) ∧ ((0 ≤ jadd x1 1 ∧ jadd x1 1 < 160) ∧ ((0 ≤ jadd x1 2 ∧ jadd x1 2 < 160) ∧ ((¬ σ 11 x1 = 112 → (¬ σ 11 x1 = 116 → (¬ σ 11 x1 = 115 → (¬ σ 11 x1 = 103 → HT GM M_X9_bell [mr 0] σ (fun r121 σ121 => (r121 < 0 → Q 0 σ121) ∧ (¬ r121 < 0 → Q 1 σ121))) ∧ (σ 11 x1 = 103 → HT GM M_X9_give [mr 0, mi (σ 11 (jadd x1 1)), mi (σ 11 (jadd x1 2))] σ (fun r106 σ106 => (r106 < 0 → Q 0 σ106) ∧ (¬ r106 < 0 → Q 1 σ106)))) ∧ (σ 11 x1 = 115 → HT GM M_X9_search [mr 0, mi (σ 11 (jadd x1 1))] σ (fun r82 σ82 => (r82 < 0 → Q 0 σ82) ∧ (¬ r82 < 0 → Q 1 σ82)))) ∧ (σ 11 x1 = 116 → HT GM M_X9_take [mr 0, mi (σ 11 (jadd x1 1)), mi (σ 11 (jadd x1 2))] σ (fun r60 σ60 => (r60 < 0 → Q 0 σ60) ∧ (¬ r60 < 0 → Q 1 σ60)))) ∧ (σ 11 x1 = 112 → HT GM M_X9_put [mr 0, mi (σ 11 (jadd x1 1)), mi (σ 11 (jadd x1 2))] σ (fun r36 σ36 => (r36 < 0 → Q 0 σ36) ∧ (¬ r36 < 0 → Q 1 σ36))))))) : HT GM M_X9_does [mr 0, mi x1] σ Q := by
  refine HT.of pn_X9 (Nat.le_of_ble_eq_true rfl) ?_
  show WP GM M_X9_does 0 [some (mr 0), some (mi x1), none, none, none] [] σ Q
  refine WP.aload_n dX9_does_0 rfl ?_
  refine WP.getR fd_X9_44 dX9_does_1 k0 rfl ?_
  refine WP.iload_n dX9_does_4 rfl ?_
  obtain ⟨hi, h⟩ := h
  refine WP.iald dX9_does_5 k11 hi ?_
  refine WP.istore_n (L2 := [some (mr 0), some (mi x1), some (mi (σ 11 x1)), none, none]) dX9_does_6 (by decide) rfl ?_
  refine WP.aload_n dX9_does_7 rfl ?_
  refine WP.getR fd_X9_44 dX9_does_8 k0 rfl ?_
  refine WP.iload_n dX9_does_11 rfl ?_
  refine WP.iconst dX9_does_12 (by decide) ?_
  refine WP.iadd dX9_does_13 ?_
  obtain ⟨hi, h⟩ := h
  refine WP.iald dX9_does_14 k11 hi ?_
  refine WP.istore_n (L2 := [some (mr 0), some (mi x1), some (mi (σ 11 x1)), some (mi (σ 11 (jadd x1 1))), none]) dX9_does_15 (by decide) rfl ?_
  refine WP.aload_n dX9_does_16 rfl ?_
  refine WP.getR fd_X9_44 dX9_does_17 k0 rfl ?_
  refine WP.iload_n dX9_does_20 rfl ?_
  refine WP.iconst dX9_does_21 (by decide) ?_
  refine WP.iadd dX9_does_22 ?_
  obtain ⟨hi, h⟩ := h
  refine WP.iald dX9_does_23 k11 hi ?_
  refine WP.istore (L2 := [some (mr 0), some (mi x1), some (mi (σ 11 x1)), some (mi (σ 11 (jadd x1 1))), some (mi (σ 11 (jadd x1 2)))]) dX9_does_24 (by decide) rfl ?_
  refine WP.iload_n dX9_does_26 rfl ?_
  refine WP.bipush dX9_does_27 (by decide) bp_112 ?_
  refine WP.icmp_ne (tgt := 50) dX9_does_29 (by decide) (fun q => ?_) (fun q => ?_)
  · have h := h.1 q
    refine WP.iload_n dX9_does_50 rfl ?_
    refine WP.bipush dX9_does_51 (by decide) bp_116 ?_
    refine WP.icmp_ne (tgt := 74) dX9_does_53 (by decide) (fun q => ?_) (fun q => ?_)
    · have h := h.1 q
      refine WP.iload_n dX9_does_74 rfl ?_
      refine WP.bipush dX9_does_75 (by decide) bp_115 ?_
      refine WP.icmp_ne (tgt := 96) dX9_does_77 (by decide) (fun q => ?_) (fun q => ?_)
      · have h := h.1 q
        refine WP.iload_n dX9_does_96 rfl ?_
        refine WP.bipush dX9_does_97 (by decide) bp_103 ?_
        refine WP.icmp_ne (tgt := 120) dX9_does_99 (by decide) (fun q => ?_) (fun q => ?_)
        · have h := h.1 q
          refine WP.aload_n dX9_does_120 rfl ?_
          refine WP.callV M_X9_bell [] cv_X9_bell dX9_does_121 lk_X9_184 k0 rfl ft_X9_does__X9_bell rfl (Nat.le_of_ble_eq_true rfl) (HT.mono h ?_)
          rintro r121 σ121 - - h
          refine WP.if_lt (tgt := 131) dX9_does_124 (by decide) (fun q => ?_) (fun q => ?_)
          · have h := h.1 q
            refine WP.iconst dX9_does_131 (by decide) ?_
            exact WP.zret rfl dX9_does_132 (by decide) h
          · have h := h.2 q
            refine WP.iconst dX9_does_127 (by decide) ?_
            refine WP.goto (tgt := 132) dX9_does_128 (by decide) ?_
            exact WP.zret rfl dX9_does_132 (by decide) h
        · have h := h.2 q
          refine WP.aload_n dX9_does_102 rfl ?_
          refine WP.iload_n dX9_does_103 rfl ?_
          refine WP.iload dX9_does_104 rfl ?_
          refine WP.callV M_X9_give [mi (σ 11 (jadd x1 1)), mi (σ 11 (jadd x1 2))] cv_X9_give dX9_does_106 lk_X9_181 k0 rfl ft_X9_does__X9_give rfl (Nat.le_of_ble_eq_true rfl) (HT.mono h ?_)
          rintro r106 σ106 - - h
          refine WP.if_lt (tgt := 116) dX9_does_109 (by decide) (fun q => ?_) (fun q => ?_)
          · have h := h.1 q
            refine WP.iconst dX9_does_116 (by decide) ?_
            refine WP.goto (tgt := 132) dX9_does_117 (by decide) ?_
            exact WP.zret rfl dX9_does_132 (by decide) h
          · have h := h.2 q
            refine WP.iconst dX9_does_112 (by decide) ?_
            refine WP.goto (tgt := 132) dX9_does_113 (by decide) ?_
            exact WP.zret rfl dX9_does_132 (by decide) h
      · have h := h.2 q
        refine WP.aload_n dX9_does_80 rfl ?_
        refine WP.iload_n dX9_does_81 rfl ?_
        refine WP.callV M_X9_search [mi (σ 11 (jadd x1 1))] cv_X9_search dX9_does_82 lk_X9_178 k0 rfl ft_X9_does__X9_search rfl (Nat.le_of_ble_eq_true rfl) (HT.mono h ?_)
        rintro r82 σ82 - - h
        refine WP.if_lt (tgt := 92) dX9_does_85 (by decide) (fun q => ?_) (fun q => ?_)
        · have h := h.1 q
          refine WP.iconst dX9_does_92 (by decide) ?_
          refine WP.goto (tgt := 132) dX9_does_93 (by decide) ?_
          exact WP.zret rfl dX9_does_132 (by decide) h
        · have h := h.2 q
          refine WP.iconst dX9_does_88 (by decide) ?_
          refine WP.goto (tgt := 132) dX9_does_89 (by decide) ?_
          exact WP.zret rfl dX9_does_132 (by decide) h
    · have h := h.2 q
      refine WP.aload_n dX9_does_56 rfl ?_
      refine WP.iload_n dX9_does_57 rfl ?_
      refine WP.iload dX9_does_58 rfl ?_
      refine WP.callV M_X9_take [mi (σ 11 (jadd x1 1)), mi (σ 11 (jadd x1 2))] cv_X9_take dX9_does_60 lk_X9_175 k0 rfl ft_X9_does__X9_take rfl (Nat.le_of_ble_eq_true rfl) (HT.mono h ?_)
      rintro r60 σ60 - - h
      refine WP.if_lt (tgt := 70) dX9_does_63 (by decide) (fun q => ?_) (fun q => ?_)
      · have h := h.1 q
        refine WP.iconst dX9_does_70 (by decide) ?_
        refine WP.goto (tgt := 132) dX9_does_71 (by decide) ?_
        exact WP.zret rfl dX9_does_132 (by decide) h
      · have h := h.2 q
        refine WP.iconst dX9_does_66 (by decide) ?_
        refine WP.goto (tgt := 132) dX9_does_67 (by decide) ?_
        exact WP.zret rfl dX9_does_132 (by decide) h
  · have h := h.2 q
    refine WP.aload_n dX9_does_32 rfl ?_
    refine WP.iload_n dX9_does_33 rfl ?_
    refine WP.iload dX9_does_34 rfl ?_
    refine WP.callV M_X9_put [mi (σ 11 (jadd x1 1)), mi (σ 11 (jadd x1 2))] cv_X9_put dX9_does_36 lk_X9_172 k0 rfl ft_X9_does__X9_put rfl (Nat.le_of_ble_eq_true rfl) (HT.mono h ?_)
    rintro r36 σ36 - - h
    refine WP.if_lt (tgt := 46) dX9_does_39 (by decide) (fun q => ?_) (fun q => ?_)
    · have h := h.1 q
      refine WP.iconst dX9_does_46 (by decide) ?_
      refine WP.goto (tgt := 132) dX9_does_47 (by decide) ?_
      exact WP.zret rfl dX9_does_132 (by decide) h
    · have h := h.2 q
      refine WP.iconst dX9_does_42 (by decide) ?_
      refine WP.goto (tgt := 132) dX9_does_43 (by decide) ?_
      exact WP.zret rfl dX9_does_132 (by decide) h
theorem dX9_day_0 : decode cX9_day 0 = .ok (.aload_n 0, 1) := by decide +kernel
theorem dX9_day_1 : decode cX9_day 1 = .ok (.invokevirtual 187, 3) := by decide +kernel
theorem dX9_day_4 : decode cX9_day 4 = .ok (.istore_n 1, 1) := by decide +kernel
theorem dX9_day_5 : decode cX9_day 5 = .ok (.iload_n 1, 1) := by decide +kernel
theorem dX9_day_6 : decode cX9_day 6 = .ok (.ifCond .ne 8, 3) := by decide +kernel
theorem dX9_day_9 : decode cX9_day 9 = .ok (.aload_n 0, 1) := by decide +kernel
theorem dX9_day_10 : decode cX9_day 10 = .ok (.invokevirtual 144, 3) := by decide +kernel
theorem dX9_day_13 : decode cX9_day 13 = .ok (.pop, 1) := by decide +kernel
theorem dX9_day_14 : decode cX9_day 14 = .ok (.aload_n 0, 1) := by decide +kernel
theorem dX9_day_15 : decode cX9_day 15 = .ok (.iconst 0, 1) := by decide +kernel
theorem dX9_day_16 : decode cX9_day 16 = .ok (.putfield 138, 3) := by decide +kernel
theorem dX9_day_19 : decode cX9_day 19 = .ok (.iload_n 1, 1) := by decide +kernel
theorem dX9_day_20 : decode cX9_day 20 = .ok (.ifCond .ne 11, 3) := by decide +kernel
theorem dX9_day_23 : decode cX9_day 23 = .ok (.bipush (-20), 2) := by decide +kernel
theorem dX9_day_25 : decode cX9_day 25 = .ok (.aload_n 0, 1) := by decide +kernel
theorem dX9_day_26 : decode cX9_day 26 = .ok (.getfield 141, 3) := by decide +kernel
theorem dX9_day_29 : decode cX9_day 29 = .ok (.isub, 1) := by decide +kernel
theorem dX9_day_30 : decode cX9_day 30 = .ok (.ireturn, 1) := by decide +kernel
theorem dX9_day_31 : decode cX9_day 31 = .ok (.iconst 0, 1) := by decide +kernel
theorem dX9_day_32 : decode cX9_day 32 = .ok (.istore_n 2, 1) := by decide +kernel
theorem dX9_day_33 : decode cX9_day 33 = .ok (.iload_n 2, 1) := by decide +kernel
theorem dX9_day_34 : decode cX9_day 34 = .ok (.aload_n 0, 1) := by decide +kernel
theorem dX9_day_35 : decode cX9_day 35 = .ok (.getfield 162, 3) := by decide +kernel
theorem dX9_day_38 : decode cX9_day 38 = .ok (.if_icmp .ge 21, 3) := by decide +kernel
theorem dX9_day_41 : decode cX9_day 41 = .ok (.aload_n 0, 1) := by decide +kernel
theorem dX9_day_42 : decode cX9_day 42 = .ok (.iconst 3, 1) := by decide +kernel
theorem dX9_day_43 : decode cX9_day 43 = .ok (.iload_n 2, 1) := by decide +kernel
theorem dX9_day_44 : decode cX9_day 44 = .ok (.imul, 1) := by decide +kernel
theorem dX9_day_45 : decode cX9_day 45 = .ok (.invokevirtual 190, 3) := by decide +kernel
theorem dX9_day_48 : decode cX9_day 48 = .ok (.ifCond .ne 5, 3) := by decide +kernel
theorem dX9_day_51 : decode cX9_day 51 = .ok (.iload_n 2, 1) := by decide +kernel
theorem dX9_day_52 : decode cX9_day 52 = .ok (.ireturn, 1) := by decide +kernel
theorem dX9_day_53 : decode cX9_day 53 = .ok (.iinc 2 1, 3) := by decide +kernel
theorem dX9_day_56 : decode cX9_day 56 = .ok (.goto (-23), 3) := by decide +kernel
theorem dX9_day_59 : decode cX9_day 59 = .ok (.aload_n 0, 1) := by decide +kernel
theorem dX9_day_60 : decode cX9_day 60 = .ok (.getfield 162, 3) := by decide +kernel
theorem dX9_day_63 : decode cX9_day 63 = .ok (.ireturn, 1) := by decide +kernel
set_option maxRecDepth 100000 in
set_option maxHeartbeats 4000000 in
theorem e_X9_day_0 {σ : Mem} {Q : Int → Mem → Prop} (h : HT GM M_X9_readDay [mr 0] σ (fun r1 σ1 => (¬ r1 = 0 → WP GM M_X9_day 14 [some (mr 0), some (mi r1), none] [] σ1 Q) ∧ (r1 = 0 → HT GM M_X9_nextByte [mr 0] σ1 (fun r10 σ10 => WP GM M_X9_day 14 [some (mr 0), some (mi r1), none] [] σ10 Q)))) : HT GM M_X9_day [mr 0] σ Q := by
  refine HT.of pn_X9 (Nat.le_of_ble_eq_true rfl) ?_
  show WP GM M_X9_day 0 [some (mr 0), none, none] [] σ Q
  refine WP.aload_n dX9_day_0 rfl ?_
  refine WP.callV M_X9_readDay [] cv_X9_readDay dX9_day_1 lk_X9_187 k0 rfl ft_X9_day__X9_readDay rfl (Nat.le_of_ble_eq_true rfl) (HT.mono h ?_)
  rintro r1 σ1 - - h
  refine WP.istore_n (L2 := [some (mr 0), some (mi r1), none]) dX9_day_4 (by decide) rfl ?_
  refine WP.iload_n dX9_day_5 rfl ?_
  refine WP.if_ne (tgt := 14) dX9_day_6 (by decide) (fun q => ?_) (fun q => ?_)
  · have h := h.1 q
    exact h
  · have h := h.2 q
    refine WP.aload_n dX9_day_9 rfl ?_
    refine WP.callV M_X9_nextByte [] cv_X9_nextByte dX9_day_10 lk_X9_144 k0 rfl ft_X9_day__X9_nextByte rfl (Nat.le_of_ble_eq_true rfl) (HT.mono h ?_)
    rintro r10 σ10 - - h
    refine WP.pop dX9_day_13 rfl ?_
    exact h
set_option maxRecDepth 100000 in
set_option maxHeartbeats 4000000 in
theorem b_X9_day_0_14 (x1 : Int) {σ : Mem} {Q : Int → Mem → Prop} (h : (¬ x1 = 0 → WP GM M_X9_day 33 [some (mr 0), none, some (mi 0)] [] (mupd σ 0 14 0) Q) ∧ (x1 = 0 → Q (jsub (-20) (σ 0 15)) (mupd σ 0 14 0))) : WP GM M_X9_day 14 [some (mr 0), some (mi x1), none] [] σ Q := by
  refine WP.aload_n dX9_day_14 rfl ?_
  refine WP.iconst dX9_day_15 (by decide) ?_
  refine WP.put fp_X9_138 dX9_day_16 k0 rfl rfl rfl ?_
  refine WP.iload_n dX9_day_19 rfl ?_
  refine WP.if_ne (tgt := 31) dX9_day_20 (by decide) (fun q => ?_) (fun q => ?_)
  · have h := h.1 q
    refine WP.iconst dX9_day_31 (by decide) ?_
    refine WP.istore_n (L2 := [some (mr 0), some (mi x1), some (mi 0)]) dX9_day_32 (by decide) rfl ?_
    refine WP.drop 1 (L2 := [some (mr 0), none, some (mi 0)]) rfl ?_
    exact h
  · have h := h.2 q
    refine WP.bipush dX9_day_23 (by decide) bp_m20 ?_
    refine WP.aload_n dX9_day_25 rfl ?_
    refine WP.getI (v := σ 0 15) fd_X9_141 dX9_day_26 k0 rfl (mupd_ri (by decide)) ?_
    refine WP.isub dX9_day_29 ?_
    exact WP.iret rfl dX9_day_30 h
set_option maxRecDepth 100000 in
set_option maxHeartbeats 4000000 in
theorem b_X9_day_0_33 (x2 : Int) {σ : Mem} {Q : Int → Mem → Prop} (h : (σ 0 16 ≤ x2 → Q (σ 0 16) σ) ∧ (¬ σ 0 16 ≤ x2 → HT GM M_X9_does [mr 0, mi (jmul 3 x2)] σ (fun r45 σ45 => (¬ r45 = 0 → WP GM M_X9_day 33 [some (mr 0), none, some (mi (jadd x2 1))] [] σ45 Q) ∧ (r45 = 0 → Q x2 σ45)))) : WP GM M_X9_day 33 [some (mr 0), none, some (mi x2)] [] σ Q := by
  refine WP.iload_n dX9_day_33 rfl ?_
  refine WP.aload_n dX9_day_34 rfl ?_
  refine WP.getI (v := σ 0 16) fd_X9_162 dX9_day_35 k0 rfl rfl ?_
  refine WP.icmp_ge (tgt := 59) dX9_day_38 (by decide) (fun q => ?_) (fun q => ?_)
  · have h := h.1 q
    refine WP.aload_n dX9_day_59 rfl ?_
    refine WP.getI (v := σ 0 16) fd_X9_162 dX9_day_60 k0 rfl rfl ?_
    exact WP.iret rfl dX9_day_63 h
  · have h := h.2 q
    refine WP.aload_n dX9_day_41 rfl ?_
    refine WP.iconst dX9_day_42 (by decide) ?_
    refine WP.iload_n dX9_day_43 rfl ?_
    refine WP.imul dX9_day_44 ?_
    refine WP.callV M_X9_does [mi (jmul 3 x2)] cv_X9_does dX9_day_45 lk_X9_190 k0 rfl ft_X9_day__X9_does rfl (Nat.le_of_ble_eq_true rfl) (HT.mono h ?_)
    rintro r45 σ45 - - h
    refine WP.if_ne (tgt := 53) dX9_day_48 (by decide) (fun q => ?_) (fun q => ?_)
    · have h := h.1 q
      refine WP.iinc (L2 := [some (mr 0), none, some (mi (jadd x2 1))]) dX9_day_53 (by decide) rfl (by decide) rfl ?_
      refine WP.goto (tgt := 33) dX9_day_56 (by decide) ?_
      exact h
    · have h := h.2 q
      refine WP.iload_n dX9_day_51 rfl ?_
      exact WP.iret rfl dX9_day_52 h
theorem dX9_count_0 : decode cX9_count 0 = .ok (.iconst 0, 1) := by decide +kernel
theorem dX9_count_1 : decode cX9_count 1 = .ok (.istore_n 2, 1) := by decide +kernel
theorem dX9_count_2 : decode cX9_count 2 = .ok (.iconst 0, 1) := by decide +kernel
theorem dX9_count_3 : decode cX9_count 3 = .ok (.istore_n 3, 1) := by decide +kernel
theorem dX9_count_4 : decode cX9_count 4 = .ok (.iconst 0, 1) := by decide +kernel
theorem dX9_count_5 : decode cX9_count 5 = .ok (.istore 4, 2) := by decide +kernel
theorem dX9_count_7 : decode cX9_count 7 = .ok (.iconst 0, 1) := by decide +kernel
theorem dX9_count_8 : decode cX9_count 8 = .ok (.istore 5, 2) := by decide +kernel
theorem dX9_count_10 : decode cX9_count 10 = .ok (.iload 5, 2) := by decide +kernel
theorem dX9_count_12 : decode cX9_count 12 = .ok (.aload_n 0, 1) := by decide +kernel
theorem dX9_count_13 : decode cX9_count 13 = .ok (.getfield 89, 3) := by decide +kernel
theorem dX9_count_16 : decode cX9_count 16 = .ok (.if_icmp .ge 87, 3) := by decide +kernel
theorem dX9_count_19 : decode cX9_count 19 = .ok (.iload_n 2, 1) := by decide +kernel
theorem dX9_count_20 : decode cX9_count 20 = .ok (.aload_n 0, 1) := by decide +kernel
theorem dX9_count_21 : decode cX9_count 21 = .ok (.getfield 25, 3) := by decide +kernel
theorem dX9_count_24 : decode cX9_count 24 = .ok (.iload 5, 2) := by decide +kernel
theorem dX9_count_26 : decode cX9_count 26 = .ok (.iaload, 1) := by decide +kernel
theorem dX9_count_27 : decode cX9_count 27 = .ok (.i2l, 1) := by decide +kernel
theorem dX9_count_28 : decode cX9_count 28 = .ok (.ldc2_w 121, 3) := by decide +kernel
theorem dX9_count_31 : decode cX9_count 31 = .ok (.ldc2_w 123, 3) := by decide +kernel
theorem dX9_count_34 : decode cX9_count 34 = .ok (.invokestatic 82, 3) := by decide +kernel
theorem dX9_count_37 : decode cX9_count 37 = .ok (.ifCond .eq 7, 3) := by decide +kernel
theorem dX9_count_40 : decode cX9_count 40 = .ok (.iconst 1, 1) := by decide +kernel
theorem dX9_count_41 : decode cX9_count 41 = .ok (.goto 4, 3) := by decide +kernel
theorem dX9_count_44 : decode cX9_count 44 = .ok (.iconst 0, 1) := by decide +kernel
theorem dX9_count_45 : decode cX9_count 45 = .ok (.iadd, 1) := by decide +kernel
theorem dX9_count_46 : decode cX9_count 46 = .ok (.istore_n 2, 1) := by decide +kernel
theorem dX9_count_47 : decode cX9_count 47 = .ok (.iload_n 3, 1) := by decide +kernel
theorem dX9_count_48 : decode cX9_count 48 = .ok (.aload_n 0, 1) := by decide +kernel
theorem dX9_count_49 : decode cX9_count 49 = .ok (.getfield 25, 3) := by decide +kernel
theorem dX9_count_52 : decode cX9_count 52 = .ok (.iload 5, 2) := by decide +kernel
theorem dX9_count_54 : decode cX9_count 54 = .ok (.iaload, 1) := by decide +kernel
theorem dX9_count_55 : decode cX9_count 55 = .ok (.i2l, 1) := by decide +kernel
theorem dX9_count_56 : decode cX9_count 56 = .ok (.ldc2_w 125, 3) := by decide +kernel
theorem dX9_count_59 : decode cX9_count 59 = .ok (.ldc2_w 127, 3) := by decide +kernel
theorem dX9_count_62 : decode cX9_count 62 = .ok (.invokestatic 82, 3) := by decide +kernel
theorem dX9_count_65 : decode cX9_count 65 = .ok (.ifCond .eq 7, 3) := by decide +kernel
theorem dX9_count_68 : decode cX9_count 68 = .ok (.iconst 1, 1) := by decide +kernel
theorem dX9_count_69 : decode cX9_count 69 = .ok (.goto 4, 3) := by decide +kernel
theorem dX9_count_72 : decode cX9_count 72 = .ok (.iconst 0, 1) := by decide +kernel
theorem dX9_count_73 : decode cX9_count 73 = .ok (.iadd, 1) := by decide +kernel
theorem dX9_count_74 : decode cX9_count 74 = .ok (.istore_n 3, 1) := by decide +kernel
theorem dX9_count_75 : decode cX9_count 75 = .ok (.iload 4, 2) := by decide +kernel
theorem dX9_count_77 : decode cX9_count 77 = .ok (.aload_n 0, 1) := by decide +kernel
theorem dX9_count_78 : decode cX9_count 78 = .ok (.getfield 25, 3) := by decide +kernel
theorem dX9_count_81 : decode cX9_count 81 = .ok (.iload 5, 2) := by decide +kernel
theorem dX9_count_83 : decode cX9_count 83 = .ok (.iaload, 1) := by decide +kernel
theorem dX9_count_84 : decode cX9_count 84 = .ok (.bipush 30, 2) := by decide +kernel
theorem dX9_count_86 : decode cX9_count 86 = .ok (.if_icmp .ne 7, 3) := by decide +kernel
theorem dX9_count_89 : decode cX9_count 89 = .ok (.iconst 1, 1) := by decide +kernel
theorem dX9_count_90 : decode cX9_count 90 = .ok (.goto 4, 3) := by decide +kernel
theorem dX9_count_93 : decode cX9_count 93 = .ok (.iconst 0, 1) := by decide +kernel
theorem dX9_count_94 : decode cX9_count 94 = .ok (.iadd, 1) := by decide +kernel
theorem dX9_count_95 : decode cX9_count 95 = .ok (.istore 4, 2) := by decide +kernel
theorem dX9_count_97 : decode cX9_count 97 = .ok (.iinc 5 1, 3) := by decide +kernel
theorem dX9_count_100 : decode cX9_count 100 = .ok (.goto (-90), 3) := by decide +kernel
theorem dX9_count_103 : decode cX9_count 103 = .ok (.iload_n 1, 1) := by decide +kernel
theorem dX9_count_104 : decode cX9_count 104 = .ok (.tableswitch 62 0 5 #[40, 45, 50, 55, 57, 59], 40) := by decide +kernel
theorem dX9_count_144 : decode cX9_count 144 = .ok (.aload_n 0, 1) := by decide +kernel
theorem dX9_count_145 : decode cX9_count 145 = .ok (.getfield 86, 3) := by decide +kernel
theorem dX9_count_148 : decode cX9_count 148 = .ok (.ireturn, 1) := by decide +kernel
theorem dX9_count_149 : decode cX9_count 149 = .ok (.aload_n 0, 1) := by decide +kernel
theorem dX9_count_150 : decode cX9_count 150 = .ok (.getfield 89, 3) := by decide +kernel
theorem dX9_count_153 : decode cX9_count 153 = .ok (.ireturn, 1) := by decide +kernel
theorem dX9_count_154 : decode cX9_count 154 = .ok (.aload_n 0, 1) := by decide +kernel
theorem dX9_count_155 : decode cX9_count 155 = .ok (.getfield 129, 3) := by decide +kernel
theorem dX9_count_158 : decode cX9_count 158 = .ok (.ireturn, 1) := by decide +kernel
theorem dX9_count_159 : decode cX9_count 159 = .ok (.iload_n 2, 1) := by decide +kernel
theorem dX9_count_160 : decode cX9_count 160 = .ok (.ireturn, 1) := by decide +kernel
theorem dX9_count_161 : decode cX9_count 161 = .ok (.iload_n 3, 1) := by decide +kernel
theorem dX9_count_162 : decode cX9_count 162 = .ok (.ireturn, 1) := by decide +kernel
theorem dX9_count_163 : decode cX9_count 163 = .ok (.iload 4, 2) := by decide +kernel
theorem dX9_count_165 : decode cX9_count 165 = .ok (.ireturn, 1) := by decide +kernel
theorem dX9_count_166 : decode cX9_count 166 = .ok (.iconst (-1), 1) := by decide +kernel
theorem dX9_count_167 : decode cX9_count 167 = .ok (.ireturn, 1) := by decide +kernel
set_option maxRecDepth 100000 in
set_option maxHeartbeats 4000000 in
theorem e_X9_count_0 (x1 : Int) {σ : Mem} {Q : Int → Mem → Prop} (h : WP GM M_X9_count 10 [some (mr 0), some (mi x1), some (mi 0), some (mi 0), some (mi 0), some (mi 0)] [] σ Q) : HT GM M_X9_count [mr 0, mi x1] σ Q := by
  refine HT.of pn_X9 (Nat.le_of_ble_eq_true rfl) ?_
  show WP GM M_X9_count 0 [some (mr 0), some (mi x1), none, none, none, none] [] σ Q
  refine WP.iconst dX9_count_0 (by decide) ?_
  refine WP.istore_n (L2 := [some (mr 0), some (mi x1), some (mi 0), none, none, none]) dX9_count_1 (by decide) rfl ?_
  refine WP.iconst dX9_count_2 (by decide) ?_
  refine WP.istore_n (L2 := [some (mr 0), some (mi x1), some (mi 0), some (mi 0), none, none]) dX9_count_3 (by decide) rfl ?_
  refine WP.iconst dX9_count_4 (by decide) ?_
  refine WP.istore (L2 := [some (mr 0), some (mi x1), some (mi 0), some (mi 0), some (mi 0), none]) dX9_count_5 (by decide) rfl ?_
  refine WP.iconst dX9_count_7 (by decide) ?_
  refine WP.istore (L2 := [some (mr 0), some (mi x1), some (mi 0), some (mi 0), some (mi 0), some (mi 0)]) dX9_count_8 (by decide) rfl ?_
  exact h
set_option maxRecDepth 100000 in
set_option maxHeartbeats 4000000 in
theorem b_X9_count_0_10 (x1 x2 x3 x4 x5 : Int) {σ : Mem} {Q : Int → Mem → Prop} (h : (σ 0 9 ≤ x5 → (x1 = 0 → Q (σ 0 4) σ) ∧ (x1 = 1 → Q (σ 0 9) σ) ∧ (x1 = 2 → Q (σ 0 11) σ) ∧ (x1 = 3 → Q x2 σ) ∧ (x1 = 4 → Q x3 σ) ∧ (x1 = 5 → Q x4 σ) ∧ (¬ x1 = 0 → ¬ x1 = 1 → ¬ x1 = 2 → ¬ x1 = 3 → ¬ x1 = 4 → ¬ x1 = 5 → Q (-1) σ)) ∧ (¬ σ 0 9 ≤ x5 → (0 ≤ x5 ∧ x5 < 8) ∧ (HT GM M_X9_in [ml (σ 6 x5), ml 10, ml 13] σ (fun r34 σ34 => (r34 = 0 → WP GM M_X9_count 45 [some (mr 0), some (mi x1), none, some (mi x3), some (mi x4), some (mi x5)] [mi 0, mi x2] σ34 Q) ∧ (¬ r34 = 0 → WP GM M_X9_count 45 [some (mr 0), some (mi x1), none, some (mi x3), some (mi x4), some (mi x5)] [mi 1, mi x2] σ34 Q))))) : WP GM M_X9_count 10 [some (mr 0), some (mi x1), some (mi x2), some (mi x3), some (mi x4), some (mi x5)] [] σ Q := by
  refine WP.iload dX9_count_10 rfl ?_
  refine WP.aload_n dX9_count_12 rfl ?_
  refine WP.getI (v := σ 0 9) fd_X9_89 dX9_count_13 k0 rfl rfl ?_
  refine WP.icmp_ge (tgt := 103) dX9_count_16 (by decide) (fun q => ?_) (fun q => ?_)
  · have h := h.1 q
    refine WP.iload_n dX9_count_103 rfl ?_
    by_cases q0 : x1 = 0
    · have h := h.1 q0
      refine WP.tsw_at (tgt := 144) dX9_count_104 q0 (by decide) (by decide) rfl (by decide) ?_
      refine WP.aload_n dX9_count_144 rfl ?_
      refine WP.getI (v := σ 0 4) fd_X9_86 dX9_count_145 k0 rfl rfl ?_
      exact WP.iret rfl dX9_count_148 h
    by_cases q1 : x1 = 1
    · have h := h.2.1 q1
      refine WP.tsw_at (tgt := 149) dX9_count_104 q1 (by decide) (by decide) rfl (by decide) ?_
      refine WP.aload_n dX9_count_149 rfl ?_
      refine WP.getI (v := σ 0 9) fd_X9_89 dX9_count_150 k0 rfl rfl ?_
      exact WP.iret rfl dX9_count_153 h
    by_cases q2 : x1 = 2
    · have h := h.2.2.1 q2
      refine WP.tsw_at (tgt := 154) dX9_count_104 q2 (by decide) (by decide) rfl (by decide) ?_
      refine WP.aload_n dX9_count_154 rfl ?_
      refine WP.getI (v := σ 0 11) fd_X9_129 dX9_count_155 k0 rfl rfl ?_
      exact WP.iret rfl dX9_count_158 h
    by_cases q3 : x1 = 3
    · have h := h.2.2.2.1 q3
      refine WP.tsw_at (tgt := 159) dX9_count_104 q3 (by decide) (by decide) rfl (by decide) ?_
      refine WP.iload_n dX9_count_159 rfl ?_
      exact WP.iret rfl dX9_count_160 h
    by_cases q4 : x1 = 4
    · have h := h.2.2.2.2.1 q4
      refine WP.tsw_at (tgt := 161) dX9_count_104 q4 (by decide) (by decide) rfl (by decide) ?_
      refine WP.iload_n dX9_count_161 rfl ?_
      exact WP.iret rfl dX9_count_162 h
    by_cases q5 : x1 = 5
    · have h := h.2.2.2.2.2.1 q5
      refine WP.tsw_at (tgt := 163) dX9_count_104 q5 (by decide) (by decide) rfl (by decide) ?_
      refine WP.iload dX9_count_163 rfl ?_
      exact WP.iret rfl dX9_count_165 h
    have h := h.2.2.2.2.2.2 q0 q1 q2 q3 q4 q5
    refine WP.tsw_out (tgt := 166) dX9_count_104 (by omega) (by decide) ?_
    refine WP.iconst dX9_count_166 (by decide) ?_
    exact WP.iret rfl dX9_count_167 h
  · have h := h.2 q
    refine WP.iload_n dX9_count_19 rfl ?_
    refine WP.aload_n dX9_count_20 rfl ?_
    refine WP.getR fd_X9_25 dX9_count_21 k0 rfl ?_
    refine WP.iload dX9_count_24 rfl ?_
    obtain ⟨hi, h⟩ := h
    refine WP.iald dX9_count_26 k6 hi ?_
    refine WP.i2l dX9_count_27 ?_
    refine WP.ldc2 (x := 10) dX9_count_28 ct_X9_121 (by decide) (by decide) ?_
    refine WP.ldc2 (x := 13) dX9_count_31 ct_X9_123 (by decide) (by decide) ?_
    refine WP.callS M_X9_in [ml (σ 6 x5), ml 10, ml 13] cs_X9_in dX9_count_34 lk_X9_82 ft_X9_count__X9_in rfl (Nat.le_of_ble_eq_true rfl) (HT.mono h ?_)
    rintro r34 σ34 - - h
    refine WP.if_eq (tgt := 44) dX9_count_37 (by decide) (fun q => ?_) (fun q => ?_)
    · have h := h.1 q
      refine WP.iconst dX9_count_44 (by decide) ?_
      refine WP.drop 2 (L2 := [some (mr 0), some (mi x1), none, some (mi x3), some (mi x4), some (mi x5)]) rfl ?_
      exact h
    · have h := h.2 q
      refine WP.iconst dX9_count_40 (by decide) ?_
      refine WP.goto (tgt := 45) dX9_count_41 (by decide) ?_
      refine WP.drop 2 (L2 := [some (mr 0), some (mi x1), none, some (mi x3), some (mi x4), some (mi x5)]) rfl ?_
      exact h
set_option maxRecDepth 100000 in
set_option maxHeartbeats 4000000 in
theorem b_X9_count_0_45 (x1 x3 x4 x5 s0 s1 : Int) {σ : Mem} {Q : Int → Mem → Prop} (h : (0 ≤ x5 ∧ x5 < 8) ∧ (HT GM M_X9_in [ml (σ 6 x5), ml 20, ml 23] σ (fun r62 σ62 => (r62 = 0 → WP GM M_X9_count 73 [some (mr 0), some (mi x1), some (mi (jadd s1 s0)), none, some (mi x4), some (mi x5)] [mi 0, mi x3] σ62 Q) ∧ (¬ r62 = 0 → WP GM M_X9_count 73 [some (mr 0), some (mi x1), some (mi (jadd s1 s0)), none, some (mi x4), some (mi x5)] [mi 1, mi x3] σ62 Q)))) : WP GM M_X9_count 45 [some (mr 0), some (mi x1), none, some (mi x3), some (mi x4), some (mi x5)] [mi s0, mi s1] σ Q := by
  refine WP.iadd dX9_count_45 ?_
  refine WP.istore_n (L2 := [some (mr 0), some (mi x1), some (mi (jadd s1 s0)), some (mi x3), some (mi x4), some (mi x5)]) dX9_count_46 (by decide) rfl ?_
  refine WP.iload_n dX9_count_47 rfl ?_
  refine WP.aload_n dX9_count_48 rfl ?_
  refine WP.getR fd_X9_25 dX9_count_49 k0 rfl ?_
  refine WP.iload dX9_count_52 rfl ?_
  obtain ⟨hi, h⟩ := h
  refine WP.iald dX9_count_54 k6 hi ?_
  refine WP.i2l dX9_count_55 ?_
  refine WP.ldc2 (x := 20) dX9_count_56 ct_X9_125 (by decide) (by decide) ?_
  refine WP.ldc2 (x := 23) dX9_count_59 ct_X9_127 (by decide) (by decide) ?_
  refine WP.callS M_X9_in [ml (σ 6 x5), ml 20, ml 23] cs_X9_in dX9_count_62 lk_X9_82 ft_X9_count__X9_in rfl (Nat.le_of_ble_eq_true rfl) (HT.mono h ?_)
  rintro r62 σ62 - - h
  refine WP.if_eq (tgt := 72) dX9_count_65 (by decide) (fun q => ?_) (fun q => ?_)
  · have h := h.1 q
    refine WP.iconst dX9_count_72 (by decide) ?_
    refine WP.drop 3 (L2 := [some (mr 0), some (mi x1), some (mi (jadd s1 s0)), none, some (mi x4), some (mi x5)]) rfl ?_
    exact h
  · have h := h.2 q
    refine WP.iconst dX9_count_68 (by decide) ?_
    refine WP.goto (tgt := 73) dX9_count_69 (by decide) ?_
    refine WP.drop 3 (L2 := [some (mr 0), some (mi x1), some (mi (jadd s1 s0)), none, some (mi x4), some (mi x5)]) rfl ?_
    exact h
set_option maxRecDepth 100000 in
set_option maxHeartbeats 4000000 in
theorem b_X9_count_0_73 (x1 x2 x4 x5 s0 s1 : Int) {σ : Mem} {Q : Int → Mem → Prop} (h : (0 ≤ x5 ∧ x5 < 8) ∧ ((¬ σ 6 x5 = 30 → WP GM M_X9_count 94 [some (mr 0), some (mi x1), some (mi x2), some (mi (jadd s1 s0)), none, some (mi x5)] [mi 0, mi x4] σ Q) ∧ (σ 6 x5 = 30 → WP GM M_X9_count 94 [some (mr 0), some (mi x1), some (mi x2), some (mi (jadd s1 s0)), none, some (mi x5)] [mi 1, mi x4] σ Q))) : WP GM M_X9_count 73 [some (mr 0), some (mi x1), some (mi x2), none, some (mi x4), some (mi x5)] [mi s0, mi s1] σ Q := by
  refine WP.iadd dX9_count_73 ?_
  refine WP.istore_n (L2 := [some (mr 0), some (mi x1), some (mi x2), some (mi (jadd s1 s0)), some (mi x4), some (mi x5)]) dX9_count_74 (by decide) rfl ?_
  refine WP.iload dX9_count_75 rfl ?_
  refine WP.aload_n dX9_count_77 rfl ?_
  refine WP.getR fd_X9_25 dX9_count_78 k0 rfl ?_
  refine WP.iload dX9_count_81 rfl ?_
  obtain ⟨hi, h⟩ := h
  refine WP.iald dX9_count_83 k6 hi ?_
  refine WP.bipush dX9_count_84 (by decide) bp_30 ?_
  refine WP.icmp_ne (tgt := 93) dX9_count_86 (by decide) (fun q => ?_) (fun q => ?_)
  · have h := h.1 q
    refine WP.iconst dX9_count_93 (by decide) ?_
    refine WP.drop 4 (L2 := [some (mr 0), some (mi x1), some (mi x2), some (mi (jadd s1 s0)), none, some (mi x5)]) rfl ?_
    exact h
  · have h := h.2 q
    refine WP.iconst dX9_count_89 (by decide) ?_
    refine WP.goto (tgt := 94) dX9_count_90 (by decide) ?_
    refine WP.drop 4 (L2 := [some (mr 0), some (mi x1), some (mi x2), some (mi (jadd s1 s0)), none, some (mi x5)]) rfl ?_
    exact h
set_option maxRecDepth 100000 in
set_option maxHeartbeats 4000000 in
theorem b_X9_count_0_94 (x1 x2 x3 x5 s0 s1 : Int) {σ : Mem} {Q : Int → Mem → Prop} (h : WP GM M_X9_count 10 [some (mr 0), some (mi x1), some (mi x2), some (mi x3), some (mi (jadd s1 s0)), some (mi (jadd x5 1))] [] σ Q) : WP GM M_X9_count 94 [some (mr 0), some (mi x1), some (mi x2), some (mi x3), none, some (mi x5)] [mi s0, mi s1] σ Q := by
  refine WP.iadd dX9_count_94 ?_
  refine WP.istore (L2 := [some (mr 0), some (mi x1), some (mi x2), some (mi x3), some (mi (jadd s1 s0)), some (mi x5)]) dX9_count_95 (by decide) rfl ?_
  refine WP.iinc (L2 := [some (mr 0), some (mi x1), some (mi x2), some (mi x3), some (mi (jadd s1 s0)), some (mi (jadd x5 1))]) dX9_count_97 (by decide) rfl (by decide) rfl ?_
  refine WP.goto (tgt := 10) dX9_count_100 (by decide) ?_
  exact h
theorem dX9_begin_0 : decode cX9_begin 0 = .ok (.aload_n 0, 1) := by decide +kernel
theorem dX9_begin_1 : decode cX9_begin 1 = .ok (.iconst 1, 1) := by decide +kernel
theorem dX9_begin_2 : decode cX9_begin 2 = .ok (.iload_n 1, 1) := by decide +kernel
theorem dX9_begin_3 : decode cX9_begin 3 = .ok (.ishl, 1) := by decide +kernel
theorem dX9_begin_4 : decode cX9_begin 4 = .ok (.putfield 210, 3) := by decide +kernel
theorem dX9_begin_7 : decode cX9_begin 7 = .ok (.aload_n 0, 1) := by decide +kernel
theorem dX9_begin_8 : decode cX9_begin 8 = .ok (.iconst 0, 1) := by decide +kernel
theorem dX9_begin_9 : decode cX9_begin 9 = .ok (.putfield 213, 3) := by decide +kernel
theorem dX9_begin_12 : decode cX9_begin 12 = .ok (.return_, 1) := by decide +kernel
set_option maxRecDepth 100000 in
set_option maxHeartbeats 4000000 in
theorem e_X9_begin_0 (x1 : Int) {σ : Mem} {Q : Int → Mem → Prop} (h : Q 0 (mupd (mupd σ 0 18 (jshl 1 x1)) 0 19 0)) : HT GM M_X9_begin [mr 0, mi x1] σ Q := by
  refine HT.of pn_X9 (Nat.le_of_ble_eq_true rfl) ?_
  show WP GM M_X9_begin 0 [some (mr 0), some (mi x1)] [] σ Q
  refine WP.aload_n dX9_begin_0 rfl ?_
  refine WP.iconst dX9_begin_1 (by decide) ?_
  refine WP.iload_n dX9_begin_2 rfl ?_
  refine WP.ishl dX9_begin_3 ?_
  refine WP.put fp_X9_210 dX9_begin_4 k0 rfl rfl rfl ?_
  refine WP.aload_n dX9_begin_7 rfl ?_
  refine WP.iconst dX9_begin_8 (by decide) ?_
  refine WP.put fp_X9_213 dX9_begin_9 k0 rfl rfl rfl ?_
  exact WP.vret rfl dX9_begin_12 h
theorem dX9_close_0 : decode cX9_close 0 = .ok (.iconst 0, 1) := by decide +kernel
theorem dX9_close_1 : decode cX9_close 1 = .ok (.istore_n 3, 1) := by decide +kernel
theorem dX9_close_2 : decode cX9_close 2 = .ok (.iload_n 3, 1) := by decide +kernel
theorem dX9_close_3 : decode cX9_close 3 = .ok (.aload_n 0, 1) := by decide +kernel
theorem dX9_close_4 : decode cX9_close 4 = .ok (.getfield 86, 3) := by decide +kernel
theorem dX9_close_7 : decode cX9_close 7 = .ok (.if_icmp .ge 74, 3) := by decide +kernel
theorem dX9_close_10 : decode cX9_close 10 = .ok (.aload_n 0, 1) := by decide +kernel
theorem dX9_close_11 : decode cX9_close 11 = .ok (.iload_n 3, 1) := by decide +kernel
theorem dX9_close_12 : decode cX9_close 12 = .ok (.iload_n 1, 1) := by decide +kernel
theorem dX9_close_13 : decode cX9_close 13 = .ok (.invokevirtual 114, 3) := by decide +kernel
theorem dX9_close_16 : decode cX9_close 16 = .ok (.istore 4, 2) := by decide +kernel
theorem dX9_close_18 : decode cX9_close 18 = .ok (.iload_n 2, 1) := by decide +kernel
theorem dX9_close_19 : decode cX9_close 19 = .ok (.iload 4, 2) := by decide +kernel
theorem dX9_close_21 : decode cX9_close 21 = .ok (.invokestatic 152, 3) := by decide +kernel
theorem dX9_close_24 : decode cX9_close 24 = .ok (.ifCond .ne 51, 3) := by decide +kernel
theorem dX9_close_27 : decode cX9_close 27 = .ok (.aload_n 0, 1) := by decide +kernel
theorem dX9_close_28 : decode cX9_close 28 = .ok (.getfield 210, 3) := by decide +kernel
theorem dX9_close_31 : decode cX9_close 31 = .ok (.iload 4, 2) := by decide +kernel
theorem dX9_close_33 : decode cX9_close 33 = .ok (.invokestatic 152, 3) := by decide +kernel
theorem dX9_close_36 : decode cX9_close 36 = .ok (.ifCond .ne 14, 3) := by decide +kernel
theorem dX9_close_39 : decode cX9_close 39 = .ok (.aload_n 0, 1) := by decide +kernel
theorem dX9_close_40 : decode cX9_close 40 = .ok (.getfield 213, 3) := by decide +kernel
theorem dX9_close_43 : decode cX9_close 43 = .ok (.iload_n 3, 1) := by decide +kernel
theorem dX9_close_44 : decode cX9_close 44 = .ok (.invokestatic 152, 3) := by decide +kernel
theorem dX9_close_47 : decode cX9_close 47 = .ok (.ifCond .eq 28, 3) := by decide +kernel
theorem dX9_close_50 : decode cX9_close 50 = .ok (.aload_n 0, 1) := by decide +kernel
theorem dX9_close_51 : decode cX9_close 51 = .ok (.dup, 1) := by decide +kernel
theorem dX9_close_52 : decode cX9_close 52 = .ok (.getfield 210, 3) := by decide +kernel
theorem dX9_close_55 : decode cX9_close 55 = .ok (.iconst 1, 1) := by decide +kernel
theorem dX9_close_56 : decode cX9_close 56 = .ok (.iload 4, 2) := by decide +kernel
theorem dX9_close_58 : decode cX9_close 58 = .ok (.ishl, 1) := by decide +kernel
theorem dX9_close_59 : decode cX9_close 59 = .ok (.ior, 1) := by decide +kernel
theorem dX9_close_60 : decode cX9_close 60 = .ok (.putfield 210, 3) := by decide +kernel
theorem dX9_close_63 : decode cX9_close 63 = .ok (.aload_n 0, 1) := by decide +kernel
theorem dX9_close_64 : decode cX9_close 64 = .ok (.dup, 1) := by decide +kernel
theorem dX9_close_65 : decode cX9_close 65 = .ok (.getfield 213, 3) := by decide +kernel
theorem dX9_close_68 : decode cX9_close 68 = .ok (.iconst 1, 1) := by decide +kernel
theorem dX9_close_69 : decode cX9_close 69 = .ok (.iload_n 3, 1) := by decide +kernel
theorem dX9_close_70 : decode cX9_close 70 = .ok (.ishl, 1) := by decide +kernel
theorem dX9_close_71 : decode cX9_close 71 = .ok (.ior, 1) := by decide +kernel
theorem dX9_close_72 : decode cX9_close 72 = .ok (.putfield 213, 3) := by decide +kernel
theorem dX9_close_75 : decode cX9_close 75 = .ok (.iinc 3 1, 3) := by decide +kernel
theorem dX9_close_78 : decode cX9_close 78 = .ok (.goto (-76), 3) := by decide +kernel
theorem dX9_close_81 : decode cX9_close 81 = .ok (.return_, 1) := by decide +kernel
set_option maxRecDepth 100000 in
set_option maxHeartbeats 4000000 in
theorem e_X9_close_0 (x1 x2 : Int) {σ : Mem} {Q : Int → Mem → Prop} (h : WP GM M_X9_close 2 [some (mr 0), some (mi x1), some (mi x2), some (mi 0), none] [] σ Q) : HT GM M_X9_close [mr 0, mi x1, mi x2] σ Q := by
  refine HT.of pn_X9 (Nat.le_of_ble_eq_true rfl) ?_
  show WP GM M_X9_close 0 [some (mr 0), some (mi x1), some (mi x2), none, none] [] σ Q
  refine WP.iconst dX9_close_0 (by decide) ?_
  refine WP.istore_n (L2 := [some (mr 0), some (mi x1), some (mi x2), some (mi 0), none]) dX9_close_1 (by decide) rfl ?_
  exact h
set_option maxRecDepth 100000 in
set_option maxHeartbeats 4000000 in
theorem b_X9_close_0_2 (x1 x2 x3 : Int) {σ : Mem} {Q : Int → Mem → Prop} (h : (σ 0 4 ≤ x3 → Q 0 σ) ∧ (¬ σ 0 4 ≤ x3 → HT GM M_X9_wearer [mr 0, mi x3, mi x1] σ (fun r13 σ13 => HT GM M_X9_has [mi x2, mi r13] σ13 (fun r21 σ21 => (¬ r21 = 0 → WP GM M_X9_close 75 [some (mr 0), some (mi x1), some (mi x2), some (mi x3), none] [] σ21 Q) ∧ (r21 = 0 → HT GM M_X9_has [mi (σ21 0 18), mi r13] σ21 (fun r33 σ33 => (¬ r33 = 0 → WP GM M_X9_close 50 [some (mr 0), some (mi x1), some (mi x2), some (mi x3), some (mi r13)] [] σ33 Q) ∧ (r33 = 0 → HT GM M_X9_has [mi (σ33 0 19), mi x3] σ33 (fun r44 σ44 => (r44 = 0 → WP GM M_X9_close 75 [some (mr 0), some (mi x1), some (mi x2), some (mi x3), none] [] σ44 Q) ∧ (¬ r44 = 0 → WP GM M_X9_close 50 [some (mr 0), some (mi x1), some (mi x2), some (mi x3), some (mi r13)] [] σ44 Q))))))))) : WP GM M_X9_close 2 [some (mr 0), some (mi x1), some (mi x2), some (mi x3), none] [] σ Q := by
  refine WP.iload_n dX9_close_2 rfl ?_
  refine WP.aload_n dX9_close_3 rfl ?_
  refine WP.getI (v := σ 0 4) fd_X9_86 dX9_close_4 k0 rfl rfl ?_
  refine WP.icmp_ge (tgt := 81) dX9_close_7 (by decide) (fun q => ?_) (fun q => ?_)
  · have h := h.1 q
    exact WP.vret rfl dX9_close_81 h
  · have h := h.2 q
    refine WP.aload_n dX9_close_10 rfl ?_
    refine WP.iload_n dX9_close_11 rfl ?_
    refine WP.iload_n dX9_close_12 rfl ?_
    refine WP.callV M_X9_wearer [mi x3, mi x1] cv_X9_wearer dX9_close_13 lk_X9_114 k0 rfl ft_X9_close__X9_wearer rfl (Nat.le_of_ble_eq_true rfl) (HT.mono h ?_)
    rintro r13 σ13 - - h
    refine WP.istore (L2 := [some (mr 0), some (mi x1), some (mi x2), some (mi x3), some (mi r13)]) dX9_close_16 (by decide) rfl ?_
    refine WP.iload_n dX9_close_18 rfl ?_
    refine WP.iload dX9_close_19 rfl ?_
    refine WP.callS M_X9_has [mi x2, mi r13] cs_X9_has dX9_close_21 lk_X9_152 ft_X9_close__X9_has rfl (Nat.le_of_ble_eq_true rfl) (HT.mono h ?_)
    rintro r21 σ21 - - h
    refine WP.if_ne (tgt := 75) dX9_close_24 (by decide) (fun q => ?_) (fun q => ?_)
    · have h := h.1 q
      refine WP.drop 4 (L2 := [some (mr 0), some (mi x1), some (mi x2), some (mi x3), none]) rfl ?_
      exact h
    · have h := h.2 q
      refine WP.aload_n dX9_close_27 rfl ?_
      refine WP.getI (v := σ21 0 18) fd_X9_210 dX9_close_28 k0 rfl rfl ?_
      refine WP.iload dX9_close_31 rfl ?_
      refine WP.callS M_X9_has [mi (σ21 0 18), mi r13] cs_X9_has dX9_close_33 lk_X9_152 ft_X9_close__X9_has rfl (Nat.le_of_ble_eq_true rfl) (HT.mono h ?_)
      rintro r33 σ33 - - h
      refine WP.if_ne (tgt := 50) dX9_close_36 (by decide) (fun q => ?_) (fun q => ?_)
      · have h := h.1 q
        exact h
      · have h := h.2 q
        refine WP.aload_n dX9_close_39 rfl ?_
        refine WP.getI (v := σ33 0 19) fd_X9_213 dX9_close_40 k0 rfl rfl ?_
        refine WP.iload_n dX9_close_43 rfl ?_
        refine WP.callS M_X9_has [mi (σ33 0 19), mi x3] cs_X9_has dX9_close_44 lk_X9_152 ft_X9_close__X9_has rfl (Nat.le_of_ble_eq_true rfl) (HT.mono h ?_)
        rintro r44 σ44 - - h
        refine WP.if_eq (tgt := 75) dX9_close_47 (by decide) (fun q => ?_) (fun q => ?_)
        · have h := h.1 q
          refine WP.drop 4 (L2 := [some (mr 0), some (mi x1), some (mi x2), some (mi x3), none]) rfl ?_
          exact h
        · have h := h.2 q
          exact h
set_option maxRecDepth 100000 in
set_option maxHeartbeats 4000000 in
theorem b_X9_close_0_50 (x1 x2 x3 x4 : Int) {σ : Mem} {Q : Int → Mem → Prop} (h : WP GM M_X9_close 75 [some (mr 0), some (mi x1), some (mi x2), some (mi x3), none] [] (mupd (mupd σ 0 18 (jor (σ 0 18) (jshl 1 x4))) 0 19 (jor (σ 0 19) (jshl 1 x3))) Q) : WP GM M_X9_close 50 [some (mr 0), some (mi x1), some (mi x2), some (mi x3), some (mi x4)] [] σ Q := by
  refine WP.aload_n dX9_close_50 rfl ?_
  refine WP.dup dX9_close_51 rfl ?_
  refine WP.getI (v := σ 0 18) fd_X9_210 dX9_close_52 k0 rfl rfl ?_
  refine WP.iconst dX9_close_55 (by decide) ?_
  refine WP.iload dX9_close_56 rfl ?_
  refine WP.ishl dX9_close_58 ?_
  refine WP.ior dX9_close_59 ?_
  refine WP.put fp_X9_210 dX9_close_60 k0 rfl rfl rfl ?_
  refine WP.aload_n dX9_close_63 rfl ?_
  refine WP.dup dX9_close_64 rfl ?_
  refine WP.getI (v := σ 0 19) fd_X9_213 dX9_close_65 k0 rfl (mupd_ri (by decide)) ?_
  refine WP.iconst dX9_close_68 (by decide) ?_
  refine WP.iload_n dX9_close_69 rfl ?_
  refine WP.ishl dX9_close_70 ?_
  refine WP.ior dX9_close_71 ?_
  refine WP.put fp_X9_213 dX9_close_72 k0 rfl rfl rfl ?_
  refine WP.drop 4 (L2 := [some (mr 0), some (mi x1), some (mi x2), some (mi x3), none]) rfl ?_
  exact h
set_option maxRecDepth 100000 in
set_option maxHeartbeats 4000000 in
theorem b_X9_close_0_75 (x1 x2 x3 : Int) {σ : Mem} {Q : Int → Mem → Prop} (h : WP GM M_X9_close 2 [some (mr 0), some (mi x1), some (mi x2), some (mi (jadd x3 1)), none] [] σ Q) : WP GM M_X9_close 75 [some (mr 0), some (mi x1), some (mi x2), some (mi x3), none] [] σ Q := by
  refine WP.iinc (L2 := [some (mr 0), some (mi x1), some (mi x2), some (mi (jadd x3 1)), none]) dX9_close_75 (by decide) rfl (by decide) rfl ?_
  refine WP.goto (tgt := 2) dX9_close_78 (by decide) ?_
  exact h
theorem dX9_closeAll_0 : decode cX9_closeAll 0 = .ok (.iconst (-1), 1) := by decide +kernel
theorem dX9_closeAll_1 : decode cX9_closeAll 1 = .ok (.istore_n 3, 1) := by decide +kernel
theorem dX9_closeAll_2 : decode cX9_closeAll 2 = .ok (.iload_n 3, 1) := by decide +kernel
theorem dX9_closeAll_3 : decode cX9_closeAll 3 = .ok (.aload_n 0, 1) := by decide +kernel
theorem dX9_closeAll_4 : decode cX9_closeAll 4 = .ok (.getfield 210, 3) := by decide +kernel
theorem dX9_closeAll_7 : decode cX9_closeAll 7 = .ok (.if_icmp .eq 17, 3) := by decide +kernel
theorem dX9_closeAll_10 : decode cX9_closeAll 10 = .ok (.aload_n 0, 1) := by decide +kernel
theorem dX9_closeAll_11 : decode cX9_closeAll 11 = .ok (.getfield 210, 3) := by decide +kernel
theorem dX9_closeAll_14 : decode cX9_closeAll 14 = .ok (.istore_n 3, 1) := by decide +kernel
theorem dX9_closeAll_15 : decode cX9_closeAll 15 = .ok (.aload_n 0, 1) := by decide +kernel
theorem dX9_closeAll_16 : decode cX9_closeAll 16 = .ok (.iload_n 1, 1) := by decide +kernel
theorem dX9_closeAll_17 : decode cX9_closeAll 17 = .ok (.iload_n 2, 1) := by decide +kernel
theorem dX9_closeAll_18 : decode cX9_closeAll 18 = .ok (.invokevirtual 216, 3) := by decide +kernel
theorem dX9_closeAll_21 : decode cX9_closeAll 21 = .ok (.goto (-19), 3) := by decide +kernel
theorem dX9_closeAll_24 : decode cX9_closeAll 24 = .ok (.return_, 1) := by decide +kernel
set_option maxRecDepth 100000 in
set_option maxHeartbeats 4000000 in
theorem e_X9_closeAll_0 (x1 x2 : Int) {σ : Mem} {Q : Int → Mem → Prop} (h : WP GM M_X9_closeAll 2 [some (mr 0), some (mi x1), some (mi x2), some (mi (-1))] [] σ Q) : HT GM M_X9_closeAll [mr 0, mi x1, mi x2] σ Q := by
  refine HT.of pn_X9 (Nat.le_of_ble_eq_true rfl) ?_
  show WP GM M_X9_closeAll 0 [some (mr 0), some (mi x1), some (mi x2), none] [] σ Q
  refine WP.iconst dX9_closeAll_0 (by decide) ?_
  refine WP.istore_n (L2 := [some (mr 0), some (mi x1), some (mi x2), some (mi (-1))]) dX9_closeAll_1 (by decide) rfl ?_
  exact h
set_option maxRecDepth 100000 in
set_option maxHeartbeats 4000000 in
theorem b_X9_closeAll_0_2 (x1 x2 x3 : Int) {σ : Mem} {Q : Int → Mem → Prop} (h : (x3 = σ 0 18 → Q 0 σ) ∧ (¬ x3 = σ 0 18 → HT GM M_X9_close [mr 0, mi x1, mi x2] σ (fun _ σ18 => WP GM M_X9_closeAll 2 [some (mr 0), some (mi x1), some (mi x2), some (mi (σ 0 18))] [] σ18 Q))) : WP GM M_X9_closeAll 2 [some (mr 0), some (mi x1), some (mi x2), some (mi x3)] [] σ Q := by
  refine WP.iload_n dX9_closeAll_2 rfl ?_
  refine WP.aload_n dX9_closeAll_3 rfl ?_
  refine WP.getI (v := σ 0 18) fd_X9_210 dX9_closeAll_4 k0 rfl rfl ?_
  refine WP.icmp_eq (tgt := 24) dX9_closeAll_7 (by decide) (fun q => ?_) (fun q => ?_)
  · have h := h.1 q
    exact WP.vret rfl dX9_closeAll_24 h
  · have h := h.2 q
    refine WP.aload_n dX9_closeAll_10 rfl ?_
    refine WP.getI (v := σ 0 18) fd_X9_210 dX9_closeAll_11 k0 rfl rfl ?_
    refine WP.istore_n (L2 := [some (mr 0), some (mi x1), some (mi x2), some (mi (σ 0 18))]) dX9_closeAll_14 (by decide) rfl ?_
    refine WP.aload_n dX9_closeAll_15 rfl ?_
    refine WP.iload_n dX9_closeAll_16 rfl ?_
    refine WP.iload_n dX9_closeAll_17 rfl ?_
    refine WP.callV M_X9_close [mi x1, mi x2] cv_X9_close dX9_closeAll_18 lk_X9_216 k0 rfl ft_X9_closeAll__X9_close rfl (Nat.le_of_ble_eq_true rfl) (HT.mono h ?_)
    rintro _ σ18 - - h
    refine WP.goto (tgt := 2) dX9_closeAll_21 (by decide) ?_
    exact h
theorem dX9_ringOn_0 : decode cX9_ringOn 0 = .ok (.iconst 0, 1) := by decide +kernel
theorem dX9_ringOn_1 : decode cX9_ringOn 1 = .ok (.istore_n 3, 1) := by decide +kernel
theorem dX9_ringOn_2 : decode cX9_ringOn 2 = .ok (.iload_n 3, 1) := by decide +kernel
theorem dX9_ringOn_3 : decode cX9_ringOn 3 = .ok (.aload_n 0, 1) := by decide +kernel
theorem dX9_ringOn_4 : decode cX9_ringOn 4 = .ok (.getfield 86, 3) := by decide +kernel
theorem dX9_ringOn_7 : decode cX9_ringOn 7 = .ok (.if_icmp .ge 52, 3) := by decide +kernel
theorem dX9_ringOn_10 : decode cX9_ringOn 10 = .ok (.aload_n 0, 1) := by decide +kernel
theorem dX9_ringOn_11 : decode cX9_ringOn 11 = .ok (.aload_n 0, 1) := by decide +kernel
theorem dX9_ringOn_12 : decode cX9_ringOn 12 = .ok (.getfield 16, 3) := by decide +kernel
theorem dX9_ringOn_15 : decode cX9_ringOn 15 = .ok (.iload_n 3, 1) := by decide +kernel
theorem dX9_ringOn_16 : decode cX9_ringOn 16 = .ok (.iaload, 1) := by decide +kernel
theorem dX9_ringOn_17 : decode cX9_ringOn 17 = .ok (.ifCond .gt 16, 3) := by decide +kernel
theorem dX9_ringOn_20 : decode cX9_ringOn 20 = .ok (.iload_n 2, 1) := by decide +kernel
theorem dX9_ringOn_21 : decode cX9_ringOn 21 = .ok (.aload_n 0, 1) := by decide +kernel
theorem dX9_ringOn_22 : decode cX9_ringOn 22 = .ok (.iload_n 3, 1) := by decide +kernel
theorem dX9_ringOn_23 : decode cX9_ringOn 23 = .ok (.iload_n 1, 1) := by decide +kernel
theorem dX9_ringOn_24 : decode cX9_ringOn 24 = .ok (.invokevirtual 114, 3) := by decide +kernel
theorem dX9_ringOn_27 : decode cX9_ringOn 27 = .ok (.invokestatic 152, 3) := by decide +kernel
theorem dX9_ringOn_30 : decode cX9_ringOn 30 = .ok (.ifCond .eq 16, 3) := by decide +kernel
theorem dX9_ringOn_33 : decode cX9_ringOn 33 = .ok (.aload_n 0, 1) := by decide +kernel
theorem dX9_ringOn_34 : decode cX9_ringOn 34 = .ok (.getfield 213, 3) := by decide +kernel
theorem dX9_ringOn_37 : decode cX9_ringOn 37 = .ok (.iconst 1, 1) := by decide +kernel
theorem dX9_ringOn_38 : decode cX9_ringOn 38 = .ok (.iload_n 3, 1) := by decide +kernel
theorem dX9_ringOn_39 : decode cX9_ringOn 39 = .ok (.ishl, 1) := by decide +kernel
theorem dX9_ringOn_40 : decode cX9_ringOn 40 = .ok (.iconst (-1), 1) := by decide +kernel
theorem dX9_ringOn_41 : decode cX9_ringOn 41 = .ok (.ixor, 1) := by decide +kernel
theorem dX9_ringOn_42 : decode cX9_ringOn 42 = .ok (.iand, 1) := by decide +kernel
theorem dX9_ringOn_43 : decode cX9_ringOn 43 = .ok (.goto 7, 3) := by decide +kernel
theorem dX9_ringOn_46 : decode cX9_ringOn 46 = .ok (.aload_n 0, 1) := by decide +kernel
theorem dX9_ringOn_47 : decode cX9_ringOn 47 = .ok (.getfield 213, 3) := by decide +kernel
theorem dX9_ringOn_50 : decode cX9_ringOn 50 = .ok (.putfield 213, 3) := by decide +kernel
theorem dX9_ringOn_53 : decode cX9_ringOn 53 = .ok (.iinc 3 1, 3) := by decide +kernel
theorem dX9_ringOn_56 : decode cX9_ringOn 56 = .ok (.goto (-54), 3) := by decide +kernel
theorem dX9_ringOn_59 : decode cX9_ringOn 59 = .ok (.return_, 1) := by decide +kernel
set_option maxRecDepth 100000 in
set_option maxHeartbeats 4000000 in
theorem e_X9_ringOn_0 (x1 x2 : Int) {σ : Mem} {Q : Int → Mem → Prop} (h : WP GM M_X9_ringOn 2 [some (mr 0), some (mi x1), some (mi x2), some (mi 0)] [] σ Q) : HT GM M_X9_ringOn [mr 0, mi x1, mi x2] σ Q := by
  refine HT.of pn_X9 (Nat.le_of_ble_eq_true rfl) ?_
  show WP GM M_X9_ringOn 0 [some (mr 0), some (mi x1), some (mi x2), none] [] σ Q
  refine WP.iconst dX9_ringOn_0 (by decide) ?_
  refine WP.istore_n (L2 := [some (mr 0), some (mi x1), some (mi x2), some (mi 0)]) dX9_ringOn_1 (by decide) rfl ?_
  exact h
set_option maxRecDepth 100000 in
set_option maxHeartbeats 4000000 in
theorem b_X9_ringOn_0_2 (x1 x2 x3 : Int) {σ : Mem} {Q : Int → Mem → Prop} (h : (σ 0 4 ≤ x3 → Q 0 σ) ∧ (¬ σ 0 4 ≤ x3 → (0 ≤ x3 ∧ x3 < 4) ∧ ((0 < σ 3 x3 → WP GM M_X9_ringOn 33 [some (mr 0), some (mi x1), some (mi x2), some (mi x3)] [mr 0] σ Q) ∧ (¬ 0 < σ 3 x3 → HT GM M_X9_wearer [mr 0, mi x3, mi x1] σ (fun r24 σ24 => HT GM M_X9_has [mi x2, mi r24] σ24 (fun r27 σ27 => (r27 = 0 → WP GM M_X9_ringOn 50 [some (mr 0), some (mi x1), some (mi x2), some (mi x3)] [mi (σ27 0 19), mr 0] σ27 Q) ∧ (¬ r27 = 0 → WP GM M_X9_ringOn 33 [some (mr 0), some (mi x1), some (mi x2), some (mi x3)] [mr 0] σ27 Q))))))) : WP GM M_X9_ringOn 2 [some (mr 0), some (mi x1), some (mi x2), some (mi x3)] [] σ Q := by
  refine WP.iload_n dX9_ringOn_2 rfl ?_
  refine WP.aload_n dX9_ringOn_3 rfl ?_
  refine WP.getI (v := σ 0 4) fd_X9_86 dX9_ringOn_4 k0 rfl rfl ?_
  refine WP.icmp_ge (tgt := 59) dX9_ringOn_7 (by decide) (fun q => ?_) (fun q => ?_)
  · have h := h.1 q
    exact WP.vret rfl dX9_ringOn_59 h
  · have h := h.2 q
    refine WP.aload_n dX9_ringOn_10 rfl ?_
    refine WP.aload_n dX9_ringOn_11 rfl ?_
    refine WP.getR fd_X9_16 dX9_ringOn_12 k0 rfl ?_
    refine WP.iload_n dX9_ringOn_15 rfl ?_
    obtain ⟨hi, h⟩ := h
    refine WP.iald dX9_ringOn_16 k3 hi ?_
    refine WP.if_gt (tgt := 33) dX9_ringOn_17 (by decide) (fun q => ?_) (fun q => ?_)
    · have h := h.1 q
      exact h
    · have h := h.2 q
      refine WP.iload_n dX9_ringOn_20 rfl ?_
      refine WP.aload_n dX9_ringOn_21 rfl ?_
      refine WP.iload_n dX9_ringOn_22 rfl ?_
      refine WP.iload_n dX9_ringOn_23 rfl ?_
      refine WP.callV M_X9_wearer [mi x3, mi x1] cv_X9_wearer dX9_ringOn_24 lk_X9_114 k0 rfl ft_X9_ringOn__X9_wearer rfl (Nat.le_of_ble_eq_true rfl) (HT.mono h ?_)
      rintro r24 σ24 - - h
      refine WP.callS M_X9_has [mi x2, mi r24] cs_X9_has dX9_ringOn_27 lk_X9_152 ft_X9_ringOn__X9_has rfl (Nat.le_of_ble_eq_true rfl) (HT.mono h ?_)
      rintro r27 σ27 - - h
      refine WP.if_eq (tgt := 46) dX9_ringOn_30 (by decide) (fun q => ?_) (fun q => ?_)
      · have h := h.1 q
        refine WP.aload_n dX9_ringOn_46 rfl ?_
        refine WP.getI (v := σ27 0 19) fd_X9_213 dX9_ringOn_47 k0 rfl rfl ?_
        exact h
      · have h := h.2 q
        exact h
set_option maxRecDepth 100000 in
set_option maxHeartbeats 4000000 in
theorem b_X9_ringOn_0_33 (x1 x2 x3 : Int) {σ : Mem} {Q : Int → Mem → Prop} (h : WP GM M_X9_ringOn 50 [some (mr 0), some (mi x1), some (mi x2), some (mi x3)] [mi (jand (σ 0 19) (jxor (jshl 1 x3) (-1))), mr 0] σ Q) : WP GM M_X9_ringOn 33 [some (mr 0), some (mi x1), some (mi x2), some (mi x3)] [mr 0] σ Q := by
  refine WP.aload_n dX9_ringOn_33 rfl ?_
  refine WP.getI (v := σ 0 19) fd_X9_213 dX9_ringOn_34 k0 rfl rfl ?_
  refine WP.iconst dX9_ringOn_37 (by decide) ?_
  refine WP.iload_n dX9_ringOn_38 rfl ?_
  refine WP.ishl dX9_ringOn_39 ?_
  refine WP.iconst dX9_ringOn_40 (by decide) ?_
  refine WP.ixor dX9_ringOn_41 ?_
  refine WP.iand dX9_ringOn_42 ?_
  refine WP.goto (tgt := 50) dX9_ringOn_43 (by decide) ?_
  exact h
set_option maxRecDepth 100000 in
set_option maxHeartbeats 4000000 in
theorem b_X9_ringOn_0_50 (x1 x2 x3 s0 : Int) {σ : Mem} {Q : Int → Mem → Prop} (h : WP GM M_X9_ringOn 2 [some (mr 0), some (mi x1), some (mi x2), some (mi (jadd x3 1))] [] (mupd σ 0 19 s0) Q) : WP GM M_X9_ringOn 50 [some (mr 0), some (mi x1), some (mi x2), some (mi x3)] [mi s0, mr 0] σ Q := by
  refine WP.put fp_X9_213 dX9_ringOn_50 k0 rfl rfl rfl ?_
  refine WP.iinc (L2 := [some (mr 0), some (mi x1), some (mi x2), some (mi (jadd x3 1))]) dX9_ringOn_53 (by decide) rfl (by decide) rfl ?_
  refine WP.goto (tgt := 2) dX9_ringOn_56 (by decide) ?_
  exact h
theorem dX9_reach_0 : decode cX9_reach 0 = .ok (.iload_n 1, 1) := by decide +kernel
theorem dX9_reach_1 : decode cX9_reach 1 = .ok (.invokestatic 100, 3) := by decide +kernel
theorem dX9_reach_4 : decode cX9_reach 4 = .ok (.ifCond .eq 27, 3) := by decide +kernel
theorem dX9_reach_7 : decode cX9_reach 7 = .ok (.iload_n 2, 1) := by decide +kernel
theorem dX9_reach_8 : decode cX9_reach 8 = .ok (.i2l, 1) := by decide +kernel
theorem dX9_reach_9 : decode cX9_reach 9 = .ok (.lconst 0, 1) := by decide +kernel
theorem dX9_reach_10 : decode cX9_reach 10 = .ok (.ldc2_w 219, 3) := by decide +kernel
theorem dX9_reach_13 : decode cX9_reach 13 = .ok (.invokestatic 82, 3) := by decide +kernel
theorem dX9_reach_16 : decode cX9_reach 16 = .ok (.ifCond .eq 15, 3) := by decide +kernel
theorem dX9_reach_19 : decode cX9_reach 19 = .ok (.iload_n 3, 1) := by decide +kernel
theorem dX9_reach_20 : decode cX9_reach 20 = .ok (.i2l, 1) := by decide +kernel
theorem dX9_reach_21 : decode cX9_reach 21 = .ok (.lconst 0, 1) := by decide +kernel
theorem dX9_reach_22 : decode cX9_reach 22 = .ok (.ldc2_w 132, 3) := by decide +kernel
theorem dX9_reach_25 : decode cX9_reach 25 = .ok (.invokestatic 82, 3) := by decide +kernel
theorem dX9_reach_28 : decode cX9_reach 28 = .ok (.ifCond .ne 5, 3) := by decide +kernel
theorem dX9_reach_31 : decode cX9_reach 31 = .ok (.iconst (-1), 1) := by decide +kernel
theorem dX9_reach_32 : decode cX9_reach 32 = .ok (.ireturn, 1) := by decide +kernel
theorem dX9_reach_33 : decode cX9_reach 33 = .ok (.iload_n 3, 1) := by decide +kernel
theorem dX9_reach_34 : decode cX9_reach 34 = .ok (.iconst 1, 1) := by decide +kernel
theorem dX9_reach_35 : decode cX9_reach 35 = .ok (.iload_n 1, 1) := by decide +kernel
theorem dX9_reach_36 : decode cX9_reach 36 = .ok (.ishl, 1) := by decide +kernel
theorem dX9_reach_37 : decode cX9_reach 37 = .ok (.iconst (-1), 1) := by decide +kernel
theorem dX9_reach_38 : decode cX9_reach 38 = .ok (.ixor, 1) := by decide +kernel
theorem dX9_reach_39 : decode cX9_reach 39 = .ok (.iand, 1) := by decide +kernel
theorem dX9_reach_40 : decode cX9_reach 40 = .ok (.istore 4, 2) := by decide +kernel
theorem dX9_reach_42 : decode cX9_reach 42 = .ok (.aload_n 0, 1) := by decide +kernel
theorem dX9_reach_43 : decode cX9_reach 43 = .ok (.iload_n 1, 1) := by decide +kernel
theorem dX9_reach_44 : decode cX9_reach 44 = .ok (.invokevirtual 221, 3) := by decide +kernel
theorem dX9_reach_47 : decode cX9_reach 47 = .ok (.aload_n 0, 1) := by decide +kernel
theorem dX9_reach_48 : decode cX9_reach 48 = .ok (.iconst 0, 1) := by decide +kernel
theorem dX9_reach_49 : decode cX9_reach 49 = .ok (.iload 4, 2) := by decide +kernel
theorem dX9_reach_51 : decode cX9_reach 51 = .ok (.invokevirtual 225, 3) := by decide +kernel
theorem dX9_reach_54 : decode cX9_reach 54 = .ok (.iconst 1, 1) := by decide +kernel
theorem dX9_reach_55 : decode cX9_reach 55 = .ok (.istore 5, 2) := by decide +kernel
theorem dX9_reach_57 : decode cX9_reach 57 = .ok (.iload 5, 2) := by decide +kernel
theorem dX9_reach_59 : decode cX9_reach 59 = .ok (.iload_n 2, 1) := by decide +kernel
theorem dX9_reach_60 : decode cX9_reach 60 = .ok (.if_icmp .gt 25, 3) := by decide +kernel
theorem dX9_reach_63 : decode cX9_reach 63 = .ok (.aload_n 0, 1) := by decide +kernel
theorem dX9_reach_64 : decode cX9_reach 64 = .ok (.iload 5, 2) := by decide +kernel
theorem dX9_reach_66 : decode cX9_reach 66 = .ok (.iload 4, 2) := by decide +kernel
theorem dX9_reach_68 : decode cX9_reach 68 = .ok (.invokevirtual 228, 3) := by decide +kernel
theorem dX9_reach_71 : decode cX9_reach 71 = .ok (.aload_n 0, 1) := by decide +kernel
theorem dX9_reach_72 : decode cX9_reach 72 = .ok (.iload 5, 2) := by decide +kernel
theorem dX9_reach_74 : decode cX9_reach 74 = .ok (.iload 4, 2) := by decide +kernel
theorem dX9_reach_76 : decode cX9_reach 76 = .ok (.invokevirtual 225, 3) := by decide +kernel
theorem dX9_reach_79 : decode cX9_reach 79 = .ok (.iinc 5 1, 3) := by decide +kernel
theorem dX9_reach_82 : decode cX9_reach 82 = .ok (.goto (-25), 3) := by decide +kernel
theorem dX9_reach_85 : decode cX9_reach 85 = .ok (.aload_n 0, 1) := by decide +kernel
theorem dX9_reach_86 : decode cX9_reach 86 = .ok (.getfield 210, 3) := by decide +kernel
theorem dX9_reach_89 : decode cX9_reach 89 = .ok (.ireturn, 1) := by decide +kernel
set_option maxRecDepth 100000 in
set_option maxHeartbeats 4000000 in
theorem e_X9_reach_0 (x1 x2 x3 : Int) {σ : Mem} {Q : Int → Mem → Prop} (h : HT GM M_X9_isBoy [mi x1] σ (fun r1 σ1 => (r1 = 0 → Q (-1) σ1) ∧ (¬ r1 = 0 → HT GM M_X9_in [ml x2, ml 0, ml 24] σ1 (fun r13 σ13 => (r13 = 0 → Q (-1) σ13) ∧ (¬ r13 = 0 → HT GM M_X9_in [ml x3, ml 0, ml 255] σ13 (fun r25 σ25 => (¬ r25 = 0 → HT GM M_X9_begin [mr 0, mi x1] σ25 (fun _ σ44 => HT GM M_X9_closeAll [mr 0, mi 0, mi (jand x3 (jxor (jshl 1 x1) (-1)))] σ44 (fun _ σ51 => WP GM M_X9_reach 57 [some (mr 0), none, some (mi x2), none, some (mi (jand x3 (jxor (jshl 1 x1) (-1)))), some (mi 1)] [] σ51 Q))) ∧ (r25 = 0 → Q (-1) σ25))))))) : HT GM M_X9_reach [mr 0, mi x1, mi x2, mi x3] σ Q := by
  refine HT.of pn_X9 (Nat.le_of_ble_eq_true rfl) ?_
  show WP GM M_X9_reach 0 [some (mr 0), some (mi x1), some (mi x2), some (mi x3), none, none] [] σ Q
  refine WP.iload_n dX9_reach_0 rfl ?_
  refine WP.callS M_X9_isBoy [mi x1] cs_X9_isBoy dX9_reach_1 lk_X9_100 ft_X9_reach__X9_isBoy rfl (Nat.le_of_ble_eq_true rfl) (HT.mono h ?_)
  rintro r1 σ1 - - h
  refine WP.if_eq (tgt := 31) dX9_reach_4 (by decide) (fun q => ?_) (fun q => ?_)
  · have h := h.1 q
    refine WP.iconst dX9_reach_31 (by decide) ?_
    exact WP.iret rfl dX9_reach_32 h
  · have h := h.2 q
    refine WP.iload_n dX9_reach_7 rfl ?_
    refine WP.i2l dX9_reach_8 ?_
    refine WP.lconst (x := 0) dX9_reach_9 (by decide) rfl ?_
    refine WP.ldc2 (x := 24) dX9_reach_10 ct_X9_219 (by decide) (by decide) ?_
    refine WP.callS M_X9_in [ml x2, ml 0, ml 24] cs_X9_in dX9_reach_13 lk_X9_82 ft_X9_reach__X9_in rfl (Nat.le_of_ble_eq_true rfl) (HT.mono h ?_)
    rintro r13 σ13 - - h
    refine WP.if_eq (tgt := 31) dX9_reach_16 (by decide) (fun q => ?_) (fun q => ?_)
    · have h := h.1 q
      refine WP.iconst dX9_reach_31 (by decide) ?_
      exact WP.iret rfl dX9_reach_32 h
    · have h := h.2 q
      refine WP.iload_n dX9_reach_19 rfl ?_
      refine WP.i2l dX9_reach_20 ?_
      refine WP.lconst (x := 0) dX9_reach_21 (by decide) rfl ?_
      refine WP.ldc2 (x := 255) dX9_reach_22 ct_X9_132 (by decide) (by decide) ?_
      refine WP.callS M_X9_in [ml x3, ml 0, ml 255] cs_X9_in dX9_reach_25 lk_X9_82 ft_X9_reach__X9_in rfl (Nat.le_of_ble_eq_true rfl) (HT.mono h ?_)
      rintro r25 σ25 - - h
      refine WP.if_ne (tgt := 33) dX9_reach_28 (by decide) (fun q => ?_) (fun q => ?_)
      · have h := h.1 q
        refine WP.iload_n dX9_reach_33 rfl ?_
        refine WP.iconst dX9_reach_34 (by decide) ?_
        refine WP.iload_n dX9_reach_35 rfl ?_
        refine WP.ishl dX9_reach_36 ?_
        refine WP.iconst dX9_reach_37 (by decide) ?_
        refine WP.ixor dX9_reach_38 ?_
        refine WP.iand dX9_reach_39 ?_
        refine WP.istore (L2 := [some (mr 0), some (mi x1), some (mi x2), some (mi x3), some (mi (jand x3 (jxor (jshl 1 x1) (-1)))), none]) dX9_reach_40 (by decide) rfl ?_
        refine WP.aload_n dX9_reach_42 rfl ?_
        refine WP.iload_n dX9_reach_43 rfl ?_
        refine WP.callV M_X9_begin [mi x1] cv_X9_begin dX9_reach_44 lk_X9_221 k0 rfl ft_X9_reach__X9_begin rfl (Nat.le_of_ble_eq_true rfl) (HT.mono h ?_)
        rintro _ σ44 - - h
        refine WP.aload_n dX9_reach_47 rfl ?_
        refine WP.iconst dX9_reach_48 (by decide) ?_
        refine WP.iload dX9_reach_49 rfl ?_
        refine WP.callV M_X9_closeAll [mi 0, mi (jand x3 (jxor (jshl 1 x1) (-1)))] cv_X9_closeAll dX9_reach_51 lk_X9_225 k0 rfl ft_X9_reach__X9_closeAll rfl (Nat.le_of_ble_eq_true rfl) (HT.mono h ?_)
        rintro _ σ51 - - h
        refine WP.iconst dX9_reach_54 (by decide) ?_
        refine WP.istore (L2 := [some (mr 0), some (mi x1), some (mi x2), some (mi x3), some (mi (jand x3 (jxor (jshl 1 x1) (-1)))), some (mi 1)]) dX9_reach_55 (by decide) rfl ?_
        refine WP.drop 1 (L2 := [some (mr 0), none, some (mi x2), some (mi x3), some (mi (jand x3 (jxor (jshl 1 x1) (-1)))), some (mi 1)]) rfl ?_
        refine WP.drop 3 (L2 := [some (mr 0), none, some (mi x2), none, some (mi (jand x3 (jxor (jshl 1 x1) (-1)))), some (mi 1)]) rfl ?_
        exact h
      · have h := h.2 q
        refine WP.iconst dX9_reach_31 (by decide) ?_
        exact WP.iret rfl dX9_reach_32 h
set_option maxRecDepth 100000 in
set_option maxHeartbeats 4000000 in
theorem b_X9_reach_0_57 (x2 x4 x5 : Int) {σ : Mem} {Q : Int → Mem → Prop} (h : (x2 < x5 → Q (σ 0 18) σ) ∧ (¬ x2 < x5 → HT GM M_X9_ringOn [mr 0, mi x5, mi x4] σ (fun _ σ68 => HT GM M_X9_closeAll [mr 0, mi x5, mi x4] σ68 (fun _ σ76 => WP GM M_X9_reach 57 [some (mr 0), none, some (mi x2), none, some (mi x4), some (mi (jadd x5 1))] [] σ76 Q)))) : WP GM M_X9_reach 57 [some (mr 0), none, some (mi x2), none, some (mi x4), some (mi x5)] [] σ Q := by
  refine WP.iload dX9_reach_57 rfl ?_
  refine WP.iload_n dX9_reach_59 rfl ?_
  refine WP.icmp_gt (tgt := 85) dX9_reach_60 (by decide) (fun q => ?_) (fun q => ?_)
  · have h := h.1 q
    refine WP.aload_n dX9_reach_85 rfl ?_
    refine WP.getI (v := σ 0 18) fd_X9_210 dX9_reach_86 k0 rfl rfl ?_
    exact WP.iret rfl dX9_reach_89 h
  · have h := h.2 q
    refine WP.aload_n dX9_reach_63 rfl ?_
    refine WP.iload dX9_reach_64 rfl ?_
    refine WP.iload dX9_reach_66 rfl ?_
    refine WP.callV M_X9_ringOn [mi x5, mi x4] cv_X9_ringOn dX9_reach_68 lk_X9_228 k0 rfl ft_X9_reach__X9_ringOn rfl (Nat.le_of_ble_eq_true rfl) (HT.mono h ?_)
    rintro _ σ68 - - h
    refine WP.aload_n dX9_reach_71 rfl ?_
    refine WP.iload dX9_reach_72 rfl ?_
    refine WP.iload dX9_reach_74 rfl ?_
    refine WP.callV M_X9_closeAll [mi x5, mi x4] cv_X9_closeAll dX9_reach_76 lk_X9_225 k0 rfl ft_X9_reach__X9_closeAll rfl (Nat.le_of_ble_eq_true rfl) (HT.mono h ?_)
    rintro _ σ76 - - h
    refine WP.iinc (L2 := [some (mr 0), none, some (mi x2), none, some (mi x4), some (mi (jadd x5 1))]) dX9_reach_79 (by decide) rfl (by decide) rfl ?_
    refine WP.goto (tgt := 57) dX9_reach_82 (by decide) ?_
    exact h
theorem dX9_findSoonest_0 : decode cX9_findSoonest 0 = .ok (.iload_n 3, 1) := by decide +kernel
theorem dX9_findSoonest_1 : decode cX9_findSoonest 1 = .ok (.iconst 1, 1) := by decide +kernel
theorem dX9_findSoonest_2 : decode cX9_findSoonest 2 = .ok (.iload_n 1, 1) := by decide +kernel
theorem dX9_findSoonest_3 : decode cX9_findSoonest 3 = .ok (.ishl, 1) := by decide +kernel
theorem dX9_findSoonest_4 : decode cX9_findSoonest 4 = .ok (.iconst (-1), 1) := by decide +kernel
theorem dX9_findSoonest_5 : decode cX9_findSoonest 5 = .ok (.ixor, 1) := by decide +kernel
theorem dX9_findSoonest_6 : decode cX9_findSoonest 6 = .ok (.iand, 1) := by decide +kernel
theorem dX9_findSoonest_7 : decode cX9_findSoonest 7 = .ok (.istore 4, 2) := by decide +kernel
theorem dX9_findSoonest_9 : decode cX9_findSoonest 9 = .ok (.aload_n 0, 1) := by decide +kernel
theorem dX9_findSoonest_10 : decode cX9_findSoonest 10 = .ok (.iconst 0, 1) := by decide +kernel
theorem dX9_findSoonest_11 : decode cX9_findSoonest 11 = .ok (.putfield 231, 3) := by decide +kernel
theorem dX9_findSoonest_14 : decode cX9_findSoonest 14 = .ok (.aload_n 0, 1) := by decide +kernel
theorem dX9_findSoonest_15 : decode cX9_findSoonest 15 = .ok (.iload_n 1, 1) := by decide +kernel
theorem dX9_findSoonest_16 : decode cX9_findSoonest 16 = .ok (.invokevirtual 221, 3) := by decide +kernel
theorem dX9_findSoonest_19 : decode cX9_findSoonest 19 = .ok (.aload_n 0, 1) := by decide +kernel
theorem dX9_findSoonest_20 : decode cX9_findSoonest 20 = .ok (.iconst 0, 1) := by decide +kernel
theorem dX9_findSoonest_21 : decode cX9_findSoonest 21 = .ok (.iload 4, 2) := by decide +kernel
theorem dX9_findSoonest_23 : decode cX9_findSoonest 23 = .ok (.invokevirtual 225, 3) := by decide +kernel
theorem dX9_findSoonest_26 : decode cX9_findSoonest 26 = .ok (.aload_n 0, 1) := by decide +kernel
theorem dX9_findSoonest_27 : decode cX9_findSoonest 27 = .ok (.getfield 210, 3) := by decide +kernel
theorem dX9_findSoonest_30 : decode cX9_findSoonest 30 = .ok (.iload_n 2, 1) := by decide +kernel
theorem dX9_findSoonest_31 : decode cX9_findSoonest 31 = .ok (.invokestatic 152, 3) := by decide +kernel
theorem dX9_findSoonest_34 : decode cX9_findSoonest 34 = .ok (.ifCond .eq 5, 3) := by decide +kernel
theorem dX9_findSoonest_37 : decode cX9_findSoonest 37 = .ok (.iconst 0, 1) := by decide +kernel
theorem dX9_findSoonest_38 : decode cX9_findSoonest 38 = .ok (.ireturn, 1) := by decide +kernel
theorem dX9_findSoonest_39 : decode cX9_findSoonest 39 = .ok (.iconst 1, 1) := by decide +kernel
theorem dX9_findSoonest_40 : decode cX9_findSoonest 40 = .ok (.istore 5, 2) := by decide +kernel
theorem dX9_findSoonest_42 : decode cX9_findSoonest 42 = .ok (.iload 5, 2) := by decide +kernel
theorem dX9_findSoonest_44 : decode cX9_findSoonest 44 = .ok (.bipush 24, 2) := by decide +kernel
theorem dX9_findSoonest_46 : decode cX9_findSoonest 46 = .ok (.if_icmp .gt 102, 3) := by decide +kernel
theorem dX9_findSoonest_49 : decode cX9_findSoonest 49 = .ok (.aload_n 0, 1) := by decide +kernel
theorem dX9_findSoonest_50 : decode cX9_findSoonest 50 = .ok (.iload 5, 2) := by decide +kernel
theorem dX9_findSoonest_52 : decode cX9_findSoonest 52 = .ok (.iload 4, 2) := by decide +kernel
theorem dX9_findSoonest_54 : decode cX9_findSoonest 54 = .ok (.invokevirtual 228, 3) := by decide +kernel
theorem dX9_findSoonest_57 : decode cX9_findSoonest 57 = .ok (.aload_n 0, 1) := by decide +kernel
theorem dX9_findSoonest_58 : decode cX9_findSoonest 58 = .ok (.getfield 213, 3) := by decide +kernel
theorem dX9_findSoonest_61 : decode cX9_findSoonest 61 = .ok (.istore 6, 2) := by decide +kernel
theorem dX9_findSoonest_63 : decode cX9_findSoonest 63 = .ok (.aload_n 0, 1) := by decide +kernel
theorem dX9_findSoonest_64 : decode cX9_findSoonest 64 = .ok (.iload 5, 2) := by decide +kernel
theorem dX9_findSoonest_66 : decode cX9_findSoonest 66 = .ok (.iload 4, 2) := by decide +kernel
theorem dX9_findSoonest_68 : decode cX9_findSoonest 68 = .ok (.invokevirtual 225, 3) := by decide +kernel
theorem dX9_findSoonest_71 : decode cX9_findSoonest 71 = .ok (.aload_n 0, 1) := by decide +kernel
theorem dX9_findSoonest_72 : decode cX9_findSoonest 72 = .ok (.getfield 210, 3) := by decide +kernel
theorem dX9_findSoonest_75 : decode cX9_findSoonest 75 = .ok (.iload_n 2, 1) := by decide +kernel
theorem dX9_findSoonest_76 : decode cX9_findSoonest 76 = .ok (.invokestatic 152, 3) := by decide +kernel
theorem dX9_findSoonest_79 : decode cX9_findSoonest 79 = .ok (.ifCond .eq 63, 3) := by decide +kernel
theorem dX9_findSoonest_82 : decode cX9_findSoonest 82 = .ok (.iconst 0, 1) := by decide +kernel
theorem dX9_findSoonest_83 : decode cX9_findSoonest 83 = .ok (.istore 7, 2) := by decide +kernel
theorem dX9_findSoonest_85 : decode cX9_findSoonest 85 = .ok (.iload 7, 2) := by decide +kernel
theorem dX9_findSoonest_87 : decode cX9_findSoonest 87 = .ok (.aload_n 0, 1) := by decide +kernel
theorem dX9_findSoonest_88 : decode cX9_findSoonest 88 = .ok (.getfield 86, 3) := by decide +kernel
theorem dX9_findSoonest_91 : decode cX9_findSoonest 91 = .ok (.if_icmp .ge 48, 3) := by decide +kernel
theorem dX9_findSoonest_94 : decode cX9_findSoonest 94 = .ok (.aload_n 0, 1) := by decide +kernel
theorem dX9_findSoonest_95 : decode cX9_findSoonest 95 = .ok (.dup, 1) := by decide +kernel
theorem dX9_findSoonest_96 : decode cX9_findSoonest 96 = .ok (.getfield 231, 3) := by decide +kernel
theorem dX9_findSoonest_99 : decode cX9_findSoonest 99 = .ok (.iload 6, 2) := by decide +kernel
theorem dX9_findSoonest_101 : decode cX9_findSoonest 101 = .ok (.iload 7, 2) := by decide +kernel
theorem dX9_findSoonest_103 : decode cX9_findSoonest 103 = .ok (.invokestatic 152, 3) := by decide +kernel
theorem dX9_findSoonest_106 : decode cX9_findSoonest 106 = .ok (.ifCond .eq 22, 3) := by decide +kernel
theorem dX9_findSoonest_109 : decode cX9_findSoonest 109 = .ok (.aload_n 0, 1) := by decide +kernel
theorem dX9_findSoonest_110 : decode cX9_findSoonest 110 = .ok (.iload 7, 2) := by decide +kernel
theorem dX9_findSoonest_112 : decode cX9_findSoonest 112 = .ok (.iload 5, 2) := by decide +kernel
theorem dX9_findSoonest_114 : decode cX9_findSoonest 114 = .ok (.invokevirtual 114, 3) := by decide +kernel
theorem dX9_findSoonest_117 : decode cX9_findSoonest 117 = .ok (.iload_n 2, 1) := by decide +kernel
theorem dX9_findSoonest_118 : decode cX9_findSoonest 118 = .ok (.if_icmp .ne 10, 3) := by decide +kernel
theorem dX9_findSoonest_121 : decode cX9_findSoonest 121 = .ok (.iconst 1, 1) := by decide +kernel
theorem dX9_findSoonest_122 : decode cX9_findSoonest 122 = .ok (.iload 7, 2) := by decide +kernel
theorem dX9_findSoonest_124 : decode cX9_findSoonest 124 = .ok (.ishl, 1) := by decide +kernel
theorem dX9_findSoonest_125 : decode cX9_findSoonest 125 = .ok (.goto 4, 3) := by decide +kernel
theorem dX9_findSoonest_128 : decode cX9_findSoonest 128 = .ok (.iconst 0, 1) := by decide +kernel
theorem dX9_findSoonest_129 : decode cX9_findSoonest 129 = .ok (.ior, 1) := by decide +kernel
theorem dX9_findSoonest_130 : decode cX9_findSoonest 130 = .ok (.putfield 231, 3) := by decide +kernel
theorem dX9_findSoonest_133 : decode cX9_findSoonest 133 = .ok (.iinc 7 1, 3) := by decide +kernel
theorem dX9_findSoonest_136 : decode cX9_findSoonest 136 = .ok (.goto (-51), 3) := by decide +kernel
theorem dX9_findSoonest_139 : decode cX9_findSoonest 139 = .ok (.iload 5, 2) := by decide +kernel
theorem dX9_findSoonest_141 : decode cX9_findSoonest 141 = .ok (.ireturn, 1) := by decide +kernel
theorem dX9_findSoonest_142 : decode cX9_findSoonest 142 = .ok (.iinc 5 1, 3) := by decide +kernel
theorem dX9_findSoonest_145 : decode cX9_findSoonest 145 = .ok (.goto (-103), 3) := by decide +kernel
theorem dX9_findSoonest_148 : decode cX9_findSoonest 148 = .ok (.bipush (-4), 2) := by decide +kernel
theorem dX9_findSoonest_150 : decode cX9_findSoonest 150 = .ok (.ireturn, 1) := by decide +kernel
set_option maxRecDepth 100000 in
set_option maxHeartbeats 4000000 in
theorem e_X9_findSoonest_0 (x1 x2 x3 : Int) {σ : Mem} {Q : Int → Mem → Prop} (h : HT GM M_X9_begin [mr 0, mi x1] (mupd σ 0 20 0) (fun _ σ16 => HT GM M_X9_closeAll [mr 0, mi 0, mi (jand x3 (jxor (jshl 1 x1) (-1)))] σ16 (fun _ σ23 => HT GM M_X9_has [mi (σ23 0 18), mi x2] σ23 (fun r31 σ31 => (r31 = 0 → WP GM M_X9_findSoonest 42 [some (mr 0), none, some (mi x2), none, some (mi (jand x3 (jxor (jshl 1 x1) (-1)))), some (mi 1), none, none] [] σ31 Q) ∧ (¬ r31 = 0 → Q 0 σ31))))) : HT GM M_X9_findSoonest [mr 0, mi x1, mi x2, mi x3] σ Q := by
  refine HT.of pn_X9 (Nat.le_of_ble_eq_true rfl) ?_
  show WP GM M_X9_findSoonest 0 [some (mr 0), some (mi x1), some (mi x2), some (mi x3), none, none, none, none] [] σ Q
  refine WP.iload_n dX9_findSoonest_0 rfl ?_
  refine WP.iconst dX9_findSoonest_1 (by decide) ?_
  refine WP.iload_n dX9_findSoonest_2 rfl ?_
  refine WP.ishl dX9_findSoonest_3 ?_
  refine WP.iconst dX9_findSoonest_4 (by decide) ?_
  refine WP.ixor dX9_findSoonest_5 ?_
  refine WP.iand dX9_findSoonest_6 ?_
  refine WP.istore (L2 := [some (mr 0), some (mi x1), some (mi x2), some (mi x3), some (mi (jand x3 (jxor (jshl 1 x1) (-1)))), none, none, none]) dX9_findSoonest_7 (by decide) rfl ?_
  refine WP.aload_n dX9_findSoonest_9 rfl ?_
  refine WP.iconst dX9_findSoonest_10 (by decide) ?_
  refine WP.put fp_X9_231 dX9_findSoonest_11 k0 rfl rfl rfl ?_
  refine WP.aload_n dX9_findSoonest_14 rfl ?_
  refine WP.iload_n dX9_findSoonest_15 rfl ?_
  refine WP.callV M_X9_begin [mi x1] cv_X9_begin dX9_findSoonest_16 lk_X9_221 k0 rfl ft_X9_findSoonest__X9_begin rfl (Nat.le_of_ble_eq_true rfl) (HT.mono h ?_)
  rintro _ σ16 - - h
  refine WP.aload_n dX9_findSoonest_19 rfl ?_
  refine WP.iconst dX9_findSoonest_20 (by decide) ?_
  refine WP.iload dX9_findSoonest_21 rfl ?_
  refine WP.callV M_X9_closeAll [mi 0, mi (jand x3 (jxor (jshl 1 x1) (-1)))] cv_X9_closeAll dX9_findSoonest_23 lk_X9_225 k0 rfl ft_X9_findSoonest__X9_closeAll rfl (Nat.le_of_ble_eq_true rfl) (HT.mono h ?_)
  rintro _ σ23 - - h
  refine WP.aload_n dX9_findSoonest_26 rfl ?_
  refine WP.getI (v := σ23 0 18) fd_X9_210 dX9_findSoonest_27 k0 rfl rfl ?_
  refine WP.iload_n dX9_findSoonest_30 rfl ?_
  refine WP.callS M_X9_has [mi (σ23 0 18), mi x2] cs_X9_has dX9_findSoonest_31 lk_X9_152 ft_X9_findSoonest__X9_has rfl (Nat.le_of_ble_eq_true rfl) (HT.mono h ?_)
  rintro r31 σ31 - - h
  refine WP.if_eq (tgt := 39) dX9_findSoonest_34 (by decide) (fun q => ?_) (fun q => ?_)
  · have h := h.1 q
    refine WP.iconst dX9_findSoonest_39 (by decide) ?_
    refine WP.istore (L2 := [some (mr 0), some (mi x1), some (mi x2), some (mi x3), some (mi (jand x3 (jxor (jshl 1 x1) (-1)))), some (mi 1), none, none]) dX9_findSoonest_40 (by decide) rfl ?_
    refine WP.drop 1 (L2 := [some (mr 0), none, some (mi x2), some (mi x3), some (mi (jand x3 (jxor (jshl 1 x1) (-1)))), some (mi 1), none, none]) rfl ?_
    refine WP.drop 3 (L2 := [some (mr 0), none, some (mi x2), none, some (mi (jand x3 (jxor (jshl 1 x1) (-1)))), some (mi 1), none, none]) rfl ?_
    exact h
  · have h := h.2 q
    refine WP.iconst dX9_findSoonest_37 (by decide) ?_
    exact WP.iret rfl dX9_findSoonest_38 h
set_option maxRecDepth 100000 in
set_option maxHeartbeats 4000000 in
theorem b_X9_findSoonest_0_42 (x2 x4 x5 : Int) {σ : Mem} {Q : Int → Mem → Prop} (h : (24 < x5 → Q (-4) σ) ∧ (¬ 24 < x5 → HT GM M_X9_ringOn [mr 0, mi x5, mi x4] σ (fun _ σ54 => HT GM M_X9_closeAll [mr 0, mi x5, mi x4] σ54 (fun _ σ68 => HT GM M_X9_has [mi (σ68 0 18), mi x2] σ68 (fun r76 σ76 => (r76 = 0 → WP GM M_X9_findSoonest 42 [some (mr 0), none, some (mi x2), none, some (mi x4), some (mi (jadd x5 1)), none, none] [] σ76 Q) ∧ (¬ r76 = 0 → WP GM M_X9_findSoonest 85 [some (mr 0), none, some (mi x2), none, none, some (mi x5), some (mi (σ54 0 19)), some (mi 0)] [] σ76 Q)))))) : WP GM M_X9_findSoonest 42 [some (mr 0), none, some (mi x2), none, some (mi x4), some (mi x5), none, none] [] σ Q := by
  refine WP.iload dX9_findSoonest_42 rfl ?_
  refine WP.bipush dX9_findSoonest_44 (by decide) bp_24 ?_
  refine WP.icmp_gt (tgt := 148) dX9_findSoonest_46 (by decide) (fun q => ?_) (fun q => ?_)
  · have h := h.1 q
    refine WP.bipush dX9_findSoonest_148 (by decide) bp_m4 ?_
    exact WP.iret rfl dX9_findSoonest_150 h
  · have h := h.2 q
    refine WP.aload_n dX9_findSoonest_49 rfl ?_
    refine WP.iload dX9_findSoonest_50 rfl ?_
    refine WP.iload dX9_findSoonest_52 rfl ?_
    refine WP.callV M_X9_ringOn [mi x5, mi x4] cv_X9_ringOn dX9_findSoonest_54 lk_X9_228 k0 rfl ft_X9_findSoonest__X9_ringOn rfl (Nat.le_of_ble_eq_true rfl) (HT.mono h ?_)
    rintro _ σ54 - - h
    refine WP.aload_n dX9_findSoonest_57 rfl ?_
    refine WP.getI (v := σ54 0 19) fd_X9_213 dX9_findSoonest_58 k0 rfl rfl ?_
    refine WP.istore (L2 := [some (mr 0), none, some (mi x2), none, some (mi x4), some (mi x5), some (mi (σ54 0 19)), none]) dX9_findSoonest_61 (by decide) rfl ?_
    refine WP.aload_n dX9_findSoonest_63 rfl ?_
    refine WP.iload dX9_findSoonest_64 rfl ?_
    refine WP.iload dX9_findSoonest_66 rfl ?_
    refine WP.callV M_X9_closeAll [mi x5, mi x4] cv_X9_closeAll dX9_findSoonest_68 lk_X9_225 k0 rfl ft_X9_findSoonest__X9_closeAll rfl (Nat.le_of_ble_eq_true rfl) (HT.mono h ?_)
    rintro _ σ68 - - h
    refine WP.aload_n dX9_findSoonest_71 rfl ?_
    refine WP.getI (v := σ68 0 18) fd_X9_210 dX9_findSoonest_72 k0 rfl rfl ?_
    refine WP.iload_n dX9_findSoonest_75 rfl ?_
    refine WP.callS M_X9_has [mi (σ68 0 18), mi x2] cs_X9_has dX9_findSoonest_76 lk_X9_152 ft_X9_findSoonest__X9_has rfl (Nat.le_of_ble_eq_true rfl) (HT.mono h ?_)
    rintro r76 σ76 - - h
    refine WP.if_eq (tgt := 142) dX9_findSoonest_79 (by decide) (fun q => ?_) (fun q => ?_)
    · have h := h.1 q
      refine WP.iinc (L2 := [some (mr 0), none, some (mi x2), none, some (mi x4), some (mi (jadd x5 1)), some (mi (σ54 0 19)), none]) dX9_findSoonest_142 (by decide) rfl (by decide) rfl ?_
      refine WP.goto (tgt := 42) dX9_findSoonest_145 (by decide) ?_
      refine WP.drop 6 (L2 := [some (mr 0), none, some (mi x2), none, some (mi x4), some (mi (jadd x5 1)), none, none]) rfl ?_
      exact h
    · have h := h.2 q
      refine WP.iconst dX9_findSoonest_82 (by decide) ?_
      refine WP.istore (L2 := [some (mr 0), none, some (mi x2), none, some (mi x4), some (mi x5), some (mi (σ54 0 19)), some (mi 0)]) dX9_findSoonest_83 (by decide) rfl ?_
      refine WP.drop 4 (L2 := [some (mr 0), none, some (mi x2), none, none, some (mi x5), some (mi (σ54 0 19)), some (mi 0)]) rfl ?_
      exact h
set_option maxRecDepth 100000 in
set_option maxHeartbeats 4000000 in
theorem b_X9_findSoonest_0_85 (x2 x5 x6 x7 : Int) {σ : Mem} {Q : Int → Mem → Prop} (h : (σ 0 4 ≤ x7 → Q x5 σ) ∧ (¬ σ 0 4 ≤ x7 → HT GM M_X9_has [mi x6, mi x7] σ (fun r103 σ103 => (r103 = 0 → WP GM M_X9_findSoonest 128 [some (mr 0), none, some (mi x2), none, none, some (mi x5), some (mi x6), some (mi x7)] [mi (σ 0 20), mr 0] σ103 Q) ∧ (¬ r103 = 0 → HT GM M_X9_wearer [mr 0, mi x7, mi x5] σ103 (fun r114 σ114 => (¬ r114 = x2 → WP GM M_X9_findSoonest 128 [some (mr 0), none, some (mi x2), none, none, some (mi x5), some (mi x6), some (mi x7)] [mi (σ 0 20), mr 0] σ114 Q) ∧ (r114 = x2 → WP GM M_X9_findSoonest 129 [some (mr 0), none, some (mi x2), none, none, some (mi x5), some (mi x6), some (mi x7)] [mi (jshl 1 x7), mi (σ 0 20), mr 0] σ114 Q)))))) : WP GM M_X9_findSoonest 85 [some (mr 0), none, some (mi x2), none, none, some (mi x5), some (mi x6), some (mi x7)] [] σ Q := by
  refine WP.iload dX9_findSoonest_85 rfl ?_
  refine WP.aload_n dX9_findSoonest_87 rfl ?_
  refine WP.getI (v := σ 0 4) fd_X9_86 dX9_findSoonest_88 k0 rfl rfl ?_
  refine WP.icmp_ge (tgt := 139) dX9_findSoonest_91 (by decide) (fun q => ?_) (fun q => ?_)
  · have h := h.1 q
    refine WP.iload dX9_findSoonest_139 rfl ?_
    exact WP.iret rfl dX9_findSoonest_141 h
  · have h := h.2 q
    refine WP.aload_n dX9_findSoonest_94 rfl ?_
    refine WP.dup dX9_findSoonest_95 rfl ?_
    refine WP.getI (v := σ 0 20) fd_X9_231 dX9_findSoonest_96 k0 rfl rfl ?_
    refine WP.iload dX9_findSoonest_99 rfl ?_
    refine WP.iload dX9_findSoonest_101 rfl ?_
    refine WP.callS M_X9_has [mi x6, mi x7] cs_X9_has dX9_findSoonest_103 lk_X9_152 ft_X9_findSoonest__X9_has rfl (Nat.le_of_ble_eq_true rfl) (HT.mono h ?_)
    rintro r103 σ103 - - h
    refine WP.if_eq (tgt := 128) dX9_findSoonest_106 (by decide) (fun q => ?_) (fun q => ?_)
    · have h := h.1 q
      exact h
    · have h := h.2 q
      refine WP.aload_n dX9_findSoonest_109 rfl ?_
      refine WP.iload dX9_findSoonest_110 rfl ?_
      refine WP.iload dX9_findSoonest_112 rfl ?_
      refine WP.callV M_X9_wearer [mi x7, mi x5] cv_X9_wearer dX9_findSoonest_114 lk_X9_114 k0 rfl ft_X9_findSoonest__X9_wearer rfl (Nat.le_of_ble_eq_true rfl) (HT.mono h ?_)
      rintro r114 σ114 - - h
      refine WP.iload_n dX9_findSoonest_117 rfl ?_
      refine WP.icmp_ne (tgt := 128) dX9_findSoonest_118 (by decide) (fun q => ?_) (fun q => ?_)
      · have h := h.1 q
        exact h
      · have h := h.2 q
        refine WP.iconst dX9_findSoonest_121 (by decide) ?_
        refine WP.iload dX9_findSoonest_122 rfl ?_
        refine WP.ishl dX9_findSoonest_124 ?_
        refine WP.goto (tgt := 129) dX9_findSoonest_125 (by decide) ?_
        exact h
set_option maxRecDepth 100000 in
set_option maxHeartbeats 4000000 in
theorem b_X9_findSoonest_0_128 (x2 x5 x6 x7 s0 : Int) {σ : Mem} {Q : Int → Mem → Prop} (h : WP GM M_X9_findSoonest 129 [some (mr 0), none, some (mi x2), none, none, some (mi x5), some (mi x6), some (mi x7)] [mi 0, mi s0, mr 0] σ Q) : WP GM M_X9_findSoonest 128 [some (mr 0), none, some (mi x2), none, none, some (mi x5), some (mi x6), some (mi x7)] [mi s0, mr 0] σ Q := by
  refine WP.iconst dX9_findSoonest_128 (by decide) ?_
  exact h
set_option maxRecDepth 100000 in
set_option maxHeartbeats 4000000 in
theorem b_X9_findSoonest_0_129 (x2 x5 x6 x7 s0 s1 : Int) {σ : Mem} {Q : Int → Mem → Prop} (h : WP GM M_X9_findSoonest 85 [some (mr 0), none, some (mi x2), none, none, some (mi x5), some (mi x6), some (mi (jadd x7 1))] [] (mupd σ 0 20 (jor s1 s0)) Q) : WP GM M_X9_findSoonest 129 [some (mr 0), none, some (mi x2), none, none, some (mi x5), some (mi x6), some (mi x7)] [mi s0, mi s1, mr 0] σ Q := by
  refine WP.ior dX9_findSoonest_129 ?_
  refine WP.put fp_X9_231 dX9_findSoonest_130 k0 rfl rfl rfl ?_
  refine WP.iinc (L2 := [some (mr 0), none, some (mi x2), none, none, some (mi x5), some (mi x6), some (mi (jadd x7 1))]) dX9_findSoonest_133 (by decide) rfl (by decide) rfl ?_
  refine WP.goto (tgt := 85) dX9_findSoonest_136 (by decide) ?_
  exact h
theorem dX9_soonest_0 : decode cX9_soonest 0 = .ok (.iload_n 1, 1) := by decide +kernel
theorem dX9_soonest_1 : decode cX9_soonest 1 = .ok (.invokestatic 100, 3) := by decide +kernel
theorem dX9_soonest_4 : decode cX9_soonest 4 = .ok (.ifCond .eq 33, 3) := by decide +kernel
theorem dX9_soonest_7 : decode cX9_soonest 7 = .ok (.iload_n 2, 1) := by decide +kernel
theorem dX9_soonest_8 : decode cX9_soonest 8 = .ok (.invokestatic 100, 3) := by decide +kernel
theorem dX9_soonest_11 : decode cX9_soonest 11 = .ok (.ifCond .eq 26, 3) := by decide +kernel
theorem dX9_soonest_14 : decode cX9_soonest 14 = .ok (.iload_n 3, 1) := by decide +kernel
theorem dX9_soonest_15 : decode cX9_soonest 15 = .ok (.i2l, 1) := by decide +kernel
theorem dX9_soonest_16 : decode cX9_soonest 16 = .ok (.lconst 0, 1) := by decide +kernel
theorem dX9_soonest_17 : decode cX9_soonest 17 = .ok (.ldc2_w 132, 3) := by decide +kernel
theorem dX9_soonest_20 : decode cX9_soonest 20 = .ok (.invokestatic 82, 3) := by decide +kernel
theorem dX9_soonest_23 : decode cX9_soonest 23 = .ok (.ifCond .eq 14, 3) := by decide +kernel
theorem dX9_soonest_26 : decode cX9_soonest 26 = .ok (.iload 4, 2) := by decide +kernel
theorem dX9_soonest_28 : decode cX9_soonest 28 = .ok (.i2l, 1) := by decide +kernel
theorem dX9_soonest_29 : decode cX9_soonest 29 = .ok (.lconst 0, 1) := by decide +kernel
theorem dX9_soonest_30 : decode cX9_soonest 30 = .ok (.lconst 1, 1) := by decide +kernel
theorem dX9_soonest_31 : decode cX9_soonest 31 = .ok (.invokestatic 82, 3) := by decide +kernel
theorem dX9_soonest_34 : decode cX9_soonest 34 = .ok (.ifCond .ne 5, 3) := by decide +kernel
theorem dX9_soonest_37 : decode cX9_soonest 37 = .ok (.iconst (-1), 1) := by decide +kernel
theorem dX9_soonest_38 : decode cX9_soonest 38 = .ok (.ireturn, 1) := by decide +kernel
theorem dX9_soonest_39 : decode cX9_soonest 39 = .ok (.aload_n 0, 1) := by decide +kernel
theorem dX9_soonest_40 : decode cX9_soonest 40 = .ok (.iload_n 1, 1) := by decide +kernel
theorem dX9_soonest_41 : decode cX9_soonest 41 = .ok (.iload_n 2, 1) := by decide +kernel
theorem dX9_soonest_42 : decode cX9_soonest 42 = .ok (.iload_n 3, 1) := by decide +kernel
theorem dX9_soonest_43 : decode cX9_soonest 43 = .ok (.invokevirtual 234, 3) := by decide +kernel
theorem dX9_soonest_46 : decode cX9_soonest 46 = .ok (.istore 5, 2) := by decide +kernel
theorem dX9_soonest_48 : decode cX9_soonest 48 = .ok (.iload 5, 2) := by decide +kernel
theorem dX9_soonest_50 : decode cX9_soonest 50 = .ok (.ifCond .lt 8, 3) := by decide +kernel
theorem dX9_soonest_53 : decode cX9_soonest 53 = .ok (.iload 4, 2) := by decide +kernel
theorem dX9_soonest_55 : decode cX9_soonest 55 = .ok (.ifCond .ne 8, 3) := by decide +kernel
theorem dX9_soonest_58 : decode cX9_soonest 58 = .ok (.iload 5, 2) := by decide +kernel
theorem dX9_soonest_60 : decode cX9_soonest 60 = .ok (.goto 7, 3) := by decide +kernel
theorem dX9_soonest_63 : decode cX9_soonest 63 = .ok (.aload_n 0, 1) := by decide +kernel
theorem dX9_soonest_64 : decode cX9_soonest 64 = .ok (.getfield 231, 3) := by decide +kernel
theorem dX9_soonest_67 : decode cX9_soonest 67 = .ok (.ireturn, 1) := by decide +kernel
set_option maxRecDepth 100000 in
set_option maxHeartbeats 4000000 in
theorem e_X9_soonest_0 (x1 x2 x3 x4 : Int) {σ : Mem} {Q : Int → Mem → Prop} (h : HT GM M_X9_isBoy [mi x1] σ (fun r1 σ1 => (r1 = 0 → Q (-1) σ1) ∧ (¬ r1 = 0 → HT GM M_X9_isBoy [mi x2] σ1 (fun r8 σ8 => (r8 = 0 → Q (-1) σ8) ∧ (¬ r8 = 0 → HT GM M_X9_in [ml x3, ml 0, ml 255] σ8 (fun r20 σ20 => (r20 = 0 → Q (-1) σ20) ∧ (¬ r20 = 0 → HT GM M_X9_in [ml x4, ml 0, ml 1] σ20 (fun r31 σ31 => (¬ r31 = 0 → HT GM M_X9_findSoonest [mr 0, mi x1, mi x2, mi x3] σ31 (fun r43 σ43 => (r43 < 0 → WP GM M_X9_soonest 58 [none, none, none, none, none, some (mi r43)] [] σ43 Q) ∧ (¬ r43 < 0 → (¬ x4 = 0 → Q (σ43 0 20) σ43) ∧ (x4 = 0 → WP GM M_X9_soonest 58 [none, none, none, none, none, some (mi r43)] [] σ43 Q)))) ∧ (r31 = 0 → Q (-1) σ31))))))))) : HT GM M_X9_soonest [mr 0, mi x1, mi x2, mi x3, mi x4] σ Q := by
  refine HT.of pn_X9 (Nat.le_of_ble_eq_true rfl) ?_
  show WP GM M_X9_soonest 0 [some (mr 0), some (mi x1), some (mi x2), some (mi x3), some (mi x4), none] [] σ Q
  refine WP.iload_n dX9_soonest_0 rfl ?_
  refine WP.callS M_X9_isBoy [mi x1] cs_X9_isBoy dX9_soonest_1 lk_X9_100 ft_X9_soonest__X9_isBoy rfl (Nat.le_of_ble_eq_true rfl) (HT.mono h ?_)
  rintro r1 σ1 - - h
  refine WP.if_eq (tgt := 37) dX9_soonest_4 (by decide) (fun q => ?_) (fun q => ?_)
  · have h := h.1 q
    refine WP.iconst dX9_soonest_37 (by decide) ?_
    exact WP.iret rfl dX9_soonest_38 h
  · have h := h.2 q
    refine WP.iload_n dX9_soonest_7 rfl ?_
    refine WP.callS M_X9_isBoy [mi x2] cs_X9_isBoy dX9_soonest_8 lk_X9_100 ft_X9_soonest__X9_isBoy rfl (Nat.le_of_ble_eq_true rfl) (HT.mono h ?_)
    rintro r8 σ8 - - h
    refine WP.if_eq (tgt := 37) dX9_soonest_11 (by decide) (fun q => ?_) (fun q => ?_)
    · have h := h.1 q
      refine WP.iconst dX9_soonest_37 (by decide) ?_
      exact WP.iret rfl dX9_soonest_38 h
    · have h := h.2 q
      refine WP.iload_n dX9_soonest_14 rfl ?_
      refine WP.i2l dX9_soonest_15 ?_
      refine WP.lconst (x := 0) dX9_soonest_16 (by decide) rfl ?_
      refine WP.ldc2 (x := 255) dX9_soonest_17 ct_X9_132 (by decide) (by decide) ?_
      refine WP.callS M_X9_in [ml x3, ml 0, ml 255] cs_X9_in dX9_soonest_20 lk_X9_82 ft_X9_soonest__X9_in rfl (Nat.le_of_ble_eq_true rfl) (HT.mono h ?_)
      rintro r20 σ20 - - h
      refine WP.if_eq (tgt := 37) dX9_soonest_23 (by decide) (fun q => ?_) (fun q => ?_)
      · have h := h.1 q
        refine WP.iconst dX9_soonest_37 (by decide) ?_
        exact WP.iret rfl dX9_soonest_38 h
      · have h := h.2 q
        refine WP.iload dX9_soonest_26 rfl ?_
        refine WP.i2l dX9_soonest_28 ?_
        refine WP.lconst (x := 0) dX9_soonest_29 (by decide) rfl ?_
        refine WP.lconst (x := 1) dX9_soonest_30 (by decide) rfl ?_
        refine WP.callS M_X9_in [ml x4, ml 0, ml 1] cs_X9_in dX9_soonest_31 lk_X9_82 ft_X9_soonest__X9_in rfl (Nat.le_of_ble_eq_true rfl) (HT.mono h ?_)
        rintro r31 σ31 - - h
        refine WP.if_ne (tgt := 39) dX9_soonest_34 (by decide) (fun q => ?_) (fun q => ?_)
        · have h := h.1 q
          refine WP.aload_n dX9_soonest_39 rfl ?_
          refine WP.iload_n dX9_soonest_40 rfl ?_
          refine WP.iload_n dX9_soonest_41 rfl ?_
          refine WP.iload_n dX9_soonest_42 rfl ?_
          refine WP.callV M_X9_findSoonest [mi x1, mi x2, mi x3] cv_X9_findSoonest dX9_soonest_43 lk_X9_234 k0 rfl ft_X9_soonest__X9_findSoonest rfl (Nat.le_of_ble_eq_true rfl) (HT.mono h ?_)
          rintro r43 σ43 - - h
          refine WP.istore (L2 := [some (mr 0), some (mi x1), some (mi x2), some (mi x3), some (mi x4), some (mi r43)]) dX9_soonest_46 (by decide) rfl ?_
          refine WP.iload dX9_soonest_48 rfl ?_
          refine WP.if_lt (tgt := 58) dX9_soonest_50 (by decide) (fun q => ?_) (fun q => ?_)
          · have h := h.1 q
            refine WP.drop 0 (L2 := [none, some (mi x1), some (mi x2), some (mi x3), some (mi x4), some (mi r43)]) rfl ?_
            refine WP.drop 1 (L2 := [none, none, some (mi x2), some (mi x3), some (mi x4), some (mi r43)]) rfl ?_
            refine WP.drop 2 (L2 := [none, none, none, some (mi x3), some (mi x4), some (mi r43)]) rfl ?_
            refine WP.drop 3 (L2 := [none, none, none, none, some (mi x4), some (mi r43)]) rfl ?_
            refine WP.drop 4 (L2 := [none, none, none, none, none, some (mi r43)]) rfl ?_
            exact h
          · have h := h.2 q
            refine WP.iload dX9_soonest_53 rfl ?_
            refine WP.if_ne (tgt := 63) dX9_soonest_55 (by decide) (fun q => ?_) (fun q => ?_)
            · have h := h.1 q
              refine WP.aload_n dX9_soonest_63 rfl ?_
              refine WP.getI (v := σ43 0 20) fd_X9_231 dX9_soonest_64 k0 rfl rfl ?_
              exact WP.iret rfl dX9_soonest_67 h
            · have h := h.2 q
              refine WP.drop 0 (L2 := [none, some (mi x1), some (mi x2), some (mi x3), some (mi x4), some (mi r43)]) rfl ?_
              refine WP.drop 1 (L2 := [none, none, some (mi x2), some (mi x3), some (mi x4), some (mi r43)]) rfl ?_
              refine WP.drop 2 (L2 := [none, none, none, some (mi x3), some (mi x4), some (mi r43)]) rfl ?_
              refine WP.drop 3 (L2 := [none, none, none, none, some (mi x4), some (mi r43)]) rfl ?_
              refine WP.drop 4 (L2 := [none, none, none, none, none, some (mi r43)]) rfl ?_
              exact h
        · have h := h.2 q
          refine WP.iconst dX9_soonest_37 (by decide) ?_
          exact WP.iret rfl dX9_soonest_38 h
set_option maxRecDepth 100000 in
set_option maxHeartbeats 4000000 in
theorem b_X9_soonest_0_58 (x5 : Int) {σ : Mem} {Q : Int → Mem → Prop} (h : Q x5 σ) : WP GM M_X9_soonest 58 [none, none, none, none, none, some (mi x5)] [] σ Q := by
  refine WP.iload dX9_soonest_58 rfl ?_
  refine WP.goto (tgt := 67) dX9_soonest_60 (by decide) ?_
  exact WP.iret rfl dX9_soonest_67 h
theorem dX9_nextOrder_0 : decode cX9_nextOrder 0 = .ok (.iload_n 1, 1) := by decide +kernel
theorem dX9_nextOrder_1 : decode cX9_nextOrder 1 = .ok (.iconst 2, 1) := by decide +kernel
theorem dX9_nextOrder_2 : decode cX9_nextOrder 2 = .ok (.isub, 1) := by decide +kernel
theorem dX9_nextOrder_3 : decode cX9_nextOrder 3 = .ok (.istore_n 2, 1) := by decide +kernel
theorem dX9_nextOrder_4 : decode cX9_nextOrder 4 = .ok (.iload_n 2, 1) := by decide +kernel
theorem dX9_nextOrder_5 : decode cX9_nextOrder 5 = .ok (.ifCond .lt 26, 3) := by decide +kernel
theorem dX9_nextOrder_8 : decode cX9_nextOrder 8 = .ok (.aload_n 0, 1) := by decide +kernel
theorem dX9_nextOrder_9 : decode cX9_nextOrder 9 = .ok (.getfield 47, 3) := by decide +kernel
theorem dX9_nextOrder_12 : decode cX9_nextOrder 12 = .ok (.iload_n 2, 1) := by decide +kernel
theorem dX9_nextOrder_13 : decode cX9_nextOrder 13 = .ok (.iaload, 1) := by decide +kernel
theorem dX9_nextOrder_14 : decode cX9_nextOrder 14 = .ok (.aload_n 0, 1) := by decide +kernel
theorem dX9_nextOrder_15 : decode cX9_nextOrder 15 = .ok (.getfield 47, 3) := by decide +kernel
theorem dX9_nextOrder_18 : decode cX9_nextOrder 18 = .ok (.iload_n 2, 1) := by decide +kernel
theorem dX9_nextOrder_19 : decode cX9_nextOrder 19 = .ok (.iconst 1, 1) := by decide +kernel
theorem dX9_nextOrder_20 : decode cX9_nextOrder 20 = .ok (.iadd, 1) := by decide +kernel
theorem dX9_nextOrder_21 : decode cX9_nextOrder 21 = .ok (.iaload, 1) := by decide +kernel
theorem dX9_nextOrder_22 : decode cX9_nextOrder 22 = .ok (.if_icmp .le 9, 3) := by decide +kernel
theorem dX9_nextOrder_25 : decode cX9_nextOrder 25 = .ok (.iinc 2 (-1), 3) := by decide +kernel
theorem dX9_nextOrder_28 : decode cX9_nextOrder 28 = .ok (.goto (-24), 3) := by decide +kernel
theorem dX9_nextOrder_31 : decode cX9_nextOrder 31 = .ok (.iload_n 2, 1) := by decide +kernel
theorem dX9_nextOrder_32 : decode cX9_nextOrder 32 = .ok (.ifCond .ge 5, 3) := by decide +kernel
theorem dX9_nextOrder_35 : decode cX9_nextOrder 35 = .ok (.iconst 0, 1) := by decide +kernel
theorem dX9_nextOrder_36 : decode cX9_nextOrder 36 = .ok (.ireturn, 1) := by decide +kernel
theorem dX9_nextOrder_37 : decode cX9_nextOrder 37 = .ok (.iload_n 1, 1) := by decide +kernel
theorem dX9_nextOrder_38 : decode cX9_nextOrder 38 = .ok (.iconst 1, 1) := by decide +kernel
theorem dX9_nextOrder_39 : decode cX9_nextOrder 39 = .ok (.isub, 1) := by decide +kernel
theorem dX9_nextOrder_40 : decode cX9_nextOrder 40 = .ok (.istore_n 3, 1) := by decide +kernel
theorem dX9_nextOrder_41 : decode cX9_nextOrder 41 = .ok (.aload_n 0, 1) := by decide +kernel
theorem dX9_nextOrder_42 : decode cX9_nextOrder 42 = .ok (.getfield 47, 3) := by decide +kernel
theorem dX9_nextOrder_45 : decode cX9_nextOrder 45 = .ok (.iload_n 3, 1) := by decide +kernel
theorem dX9_nextOrder_46 : decode cX9_nextOrder 46 = .ok (.iaload, 1) := by decide +kernel
theorem dX9_nextOrder_47 : decode cX9_nextOrder 47 = .ok (.aload_n 0, 1) := by decide +kernel
theorem dX9_nextOrder_48 : decode cX9_nextOrder 48 = .ok (.getfield 47, 3) := by decide +kernel
theorem dX9_nextOrder_51 : decode cX9_nextOrder 51 = .ok (.iload_n 2, 1) := by decide +kernel
theorem dX9_nextOrder_52 : decode cX9_nextOrder 52 = .ok (.iaload, 1) := by decide +kernel
theorem dX9_nextOrder_53 : decode cX9_nextOrder 53 = .ok (.if_icmp .ge 9, 3) := by decide +kernel
theorem dX9_nextOrder_56 : decode cX9_nextOrder 56 = .ok (.iinc 3 (-1), 3) := by decide +kernel
theorem dX9_nextOrder_59 : decode cX9_nextOrder 59 = .ok (.goto (-18), 3) := by decide +kernel
theorem dX9_nextOrder_62 : decode cX9_nextOrder 62 = .ok (.aload_n 0, 1) := by decide +kernel
theorem dX9_nextOrder_63 : decode cX9_nextOrder 63 = .ok (.getfield 47, 3) := by decide +kernel
theorem dX9_nextOrder_66 : decode cX9_nextOrder 66 = .ok (.iload_n 2, 1) := by decide +kernel
theorem dX9_nextOrder_67 : decode cX9_nextOrder 67 = .ok (.iaload, 1) := by decide +kernel
theorem dX9_nextOrder_68 : decode cX9_nextOrder 68 = .ok (.istore 4, 2) := by decide +kernel
theorem dX9_nextOrder_70 : decode cX9_nextOrder 70 = .ok (.aload_n 0, 1) := by decide +kernel
theorem dX9_nextOrder_71 : decode cX9_nextOrder 71 = .ok (.getfield 47, 3) := by decide +kernel
theorem dX9_nextOrder_74 : decode cX9_nextOrder 74 = .ok (.iload_n 2, 1) := by decide +kernel
theorem dX9_nextOrder_75 : decode cX9_nextOrder 75 = .ok (.aload_n 0, 1) := by decide +kernel
theorem dX9_nextOrder_76 : decode cX9_nextOrder 76 = .ok (.getfield 47, 3) := by decide +kernel
theorem dX9_nextOrder_79 : decode cX9_nextOrder 79 = .ok (.iload_n 3, 1) := by decide +kernel
theorem dX9_nextOrder_80 : decode cX9_nextOrder 80 = .ok (.iaload, 1) := by decide +kernel
theorem dX9_nextOrder_81 : decode cX9_nextOrder 81 = .ok (.iastore, 1) := by decide +kernel
theorem dX9_nextOrder_82 : decode cX9_nextOrder 82 = .ok (.aload_n 0, 1) := by decide +kernel
theorem dX9_nextOrder_83 : decode cX9_nextOrder 83 = .ok (.getfield 47, 3) := by decide +kernel
theorem dX9_nextOrder_86 : decode cX9_nextOrder 86 = .ok (.iload_n 3, 1) := by decide +kernel
theorem dX9_nextOrder_87 : decode cX9_nextOrder 87 = .ok (.iload 4, 2) := by decide +kernel
theorem dX9_nextOrder_89 : decode cX9_nextOrder 89 = .ok (.iastore, 1) := by decide +kernel
theorem dX9_nextOrder_90 : decode cX9_nextOrder 90 = .ok (.iload_n 1, 1) := by decide +kernel
theorem dX9_nextOrder_91 : decode cX9_nextOrder 91 = .ok (.iconst 1, 1) := by decide +kernel
theorem dX9_nextOrder_92 : decode cX9_nextOrder 92 = .ok (.isub, 1) := by decide +kernel
theorem dX9_nextOrder_93 : decode cX9_nextOrder 93 = .ok (.istore 5, 2) := by decide +kernel
theorem dX9_nextOrder_95 : decode cX9_nextOrder 95 = .ok (.iload_n 2, 1) := by decide +kernel
theorem dX9_nextOrder_96 : decode cX9_nextOrder 96 = .ok (.iconst 1, 1) := by decide +kernel
theorem dX9_nextOrder_97 : decode cX9_nextOrder 97 = .ok (.iadd, 1) := by decide +kernel
theorem dX9_nextOrder_98 : decode cX9_nextOrder 98 = .ok (.istore 6, 2) := by decide +kernel
theorem dX9_nextOrder_100 : decode cX9_nextOrder 100 = .ok (.iload 6, 2) := by decide +kernel
theorem dX9_nextOrder_102 : decode cX9_nextOrder 102 = .ok (.iload 5, 2) := by decide +kernel
theorem dX9_nextOrder_104 : decode cX9_nextOrder 104 = .ok (.if_icmp .ge 44, 3) := by decide +kernel
theorem dX9_nextOrder_107 : decode cX9_nextOrder 107 = .ok (.aload_n 0, 1) := by decide +kernel
theorem dX9_nextOrder_108 : decode cX9_nextOrder 108 = .ok (.getfield 47, 3) := by decide +kernel
theorem dX9_nextOrder_111 : decode cX9_nextOrder 111 = .ok (.iload 6, 2) := by decide +kernel
theorem dX9_nextOrder_113 : decode cX9_nextOrder 113 = .ok (.iaload, 1) := by decide +kernel
theorem dX9_nextOrder_114 : decode cX9_nextOrder 114 = .ok (.istore 4, 2) := by decide +kernel
theorem dX9_nextOrder_116 : decode cX9_nextOrder 116 = .ok (.aload_n 0, 1) := by decide +kernel
theorem dX9_nextOrder_117 : decode cX9_nextOrder 117 = .ok (.getfield 47, 3) := by decide +kernel
theorem dX9_nextOrder_120 : decode cX9_nextOrder 120 = .ok (.iload 6, 2) := by decide +kernel
theorem dX9_nextOrder_122 : decode cX9_nextOrder 122 = .ok (.aload_n 0, 1) := by decide +kernel
theorem dX9_nextOrder_123 : decode cX9_nextOrder 123 = .ok (.getfield 47, 3) := by decide +kernel
theorem dX9_nextOrder_126 : decode cX9_nextOrder 126 = .ok (.iload 5, 2) := by decide +kernel
theorem dX9_nextOrder_128 : decode cX9_nextOrder 128 = .ok (.iaload, 1) := by decide +kernel
theorem dX9_nextOrder_129 : decode cX9_nextOrder 129 = .ok (.iastore, 1) := by decide +kernel
theorem dX9_nextOrder_130 : decode cX9_nextOrder 130 = .ok (.aload_n 0, 1) := by decide +kernel
theorem dX9_nextOrder_131 : decode cX9_nextOrder 131 = .ok (.getfield 47, 3) := by decide +kernel
theorem dX9_nextOrder_134 : decode cX9_nextOrder 134 = .ok (.iload 5, 2) := by decide +kernel
theorem dX9_nextOrder_136 : decode cX9_nextOrder 136 = .ok (.iload 4, 2) := by decide +kernel
theorem dX9_nextOrder_138 : decode cX9_nextOrder 138 = .ok (.iastore, 1) := by decide +kernel
theorem dX9_nextOrder_139 : decode cX9_nextOrder 139 = .ok (.iinc 5 (-1), 3) := by decide +kernel
theorem dX9_nextOrder_142 : decode cX9_nextOrder 142 = .ok (.iinc 6 1, 3) := by decide +kernel
theorem dX9_nextOrder_145 : decode cX9_nextOrder 145 = .ok (.goto (-45), 3) := by decide +kernel
theorem dX9_nextOrder_148 : decode cX9_nextOrder 148 = .ok (.iconst 1, 1) := by decide +kernel
theorem dX9_nextOrder_149 : decode cX9_nextOrder 149 = .ok (.ireturn, 1) := by decide +kernel
set_option maxRecDepth 100000 in
set_option maxHeartbeats 4000000 in
theorem e_X9_nextOrder_0 (x1 : Int) {σ : Mem} {Q : Int → Mem → Prop} (h : WP GM M_X9_nextOrder 4 [some (mr 0), some (mi x1), some (mi (jsub x1 2)), none, none, none, none] [] σ Q) : HT GM M_X9_nextOrder [mr 0, mi x1] σ Q := by
  refine HT.of pn_X9 (Nat.le_of_ble_eq_true rfl) ?_
  show WP GM M_X9_nextOrder 0 [some (mr 0), some (mi x1), none, none, none, none, none] [] σ Q
  refine WP.iload_n dX9_nextOrder_0 rfl ?_
  refine WP.iconst dX9_nextOrder_1 (by decide) ?_
  refine WP.isub dX9_nextOrder_2 ?_
  refine WP.istore_n (L2 := [some (mr 0), some (mi x1), some (mi (jsub x1 2)), none, none, none, none]) dX9_nextOrder_3 (by decide) rfl ?_
  exact h
set_option maxRecDepth 100000 in
set_option maxHeartbeats 4000000 in
theorem b_X9_nextOrder_0_4 (x1 x2 : Int) {σ : Mem} {Q : Int → Mem → Prop} (h : (x2 < 0 → WP GM M_X9_nextOrder 31 [some (mr 0), some (mi x1), some (mi x2), none, none, none, none] [] σ Q) ∧ (¬ x2 < 0 → (0 ≤ x2 ∧ x2 < 4) ∧ ((0 ≤ jadd x2 1 ∧ jadd x2 1 < 4) ∧ ((σ 12 x2 ≤ σ 12 (jadd x2 1) → WP GM M_X9_nextOrder 31 [some (mr 0), some (mi x1), some (mi x2), none, none, none, none] [] σ Q) ∧ (¬ σ 12 x2 ≤ σ 12 (jadd x2 1) → WP GM M_X9_nextOrder 4 [some (mr 0), some (mi x1), some (mi (jadd x2 (-1))), none, none, none, none] [] σ Q))))) : WP GM M_X9_nextOrder 4 [some (mr 0), some (mi x1), some (mi x2), none, none, none, none] [] σ Q := by
  refine WP.iload_n dX9_nextOrder_4 rfl ?_
  refine WP.if_lt (tgt := 31) dX9_nextOrder_5 (by decide) (fun q => ?_) (fun q => ?_)
  · have h := h.1 q
    exact h
  · have h := h.2 q
    refine WP.aload_n dX9_nextOrder_8 rfl ?_
    refine WP.getR fd_X9_47 dX9_nextOrder_9 k0 rfl ?_
    refine WP.iload_n dX9_nextOrder_12 rfl ?_
    obtain ⟨hi, h⟩ := h
    refine WP.iald dX9_nextOrder_13 k12 hi ?_
    refine WP.aload_n dX9_nextOrder_14 rfl ?_
    refine WP.getR fd_X9_47 dX9_nextOrder_15 k0 rfl ?_
    refine WP.iload_n dX9_nextOrder_18 rfl ?_
    refine WP.iconst dX9_nextOrder_19 (by decide) ?_
    refine WP.iadd dX9_nextOrder_20 ?_
    obtain ⟨hi, h⟩ := h
    refine WP.iald dX9_nextOrder_21 k12 hi ?_
    refine WP.icmp_le (tgt := 31) dX9_nextOrder_22 (by decide) (fun q => ?_) (fun q => ?_)
    · have h := h.1 q
      exact h
    · have h := h.2 q
      refine WP.iinc (L2 := [some (mr 0), some (mi x1), some (mi (jadd x2 (-1))), none, none, none, none]) dX9_nextOrder_25 (by decide) rfl (by decide) rfl ?_
      refine WP.goto (tgt := 4) dX9_nextOrder_28 (by decide) ?_
      exact h
set_option maxRecDepth 100000 in
set_option maxHeartbeats 4000000 in
theorem b_X9_nextOrder_0_31 (x1 x2 : Int) {σ : Mem} {Q : Int → Mem → Prop} (h : (0 ≤ x2 → WP GM M_X9_nextOrder 41 [some (mr 0), some (mi x1), some (mi x2), some (mi (jsub x1 1)), none, none, none] [] σ Q) ∧ (¬ 0 ≤ x2 → Q 0 σ)) : WP GM M_X9_nextOrder 31 [some (mr 0), some (mi x1), some (mi x2), none, none, none, none] [] σ Q := by
  refine WP.iload_n dX9_nextOrder_31 rfl ?_
  refine WP.if_ge (tgt := 37) dX9_nextOrder_32 (by decide) (fun q => ?_) (fun q => ?_)
  · have h := h.1 q
    refine WP.iload_n dX9_nextOrder_37 rfl ?_
    refine WP.iconst dX9_nextOrder_38 (by decide) ?_
    refine WP.isub dX9_nextOrder_39 ?_
    refine WP.istore_n (L2 := [some (mr 0), some (mi x1), some (mi x2), some (mi (jsub x1 1)), none, none, none]) dX9_nextOrder_40 (by decide) rfl ?_
    exact h
  · have h := h.2 q
    refine WP.iconst dX9_nextOrder_35 (by decide) ?_
    exact WP.zret rfl dX9_nextOrder_36 (by decide) h
set_option maxRecDepth 100000 in
set_option maxHeartbeats 4000000 in
theorem b_X9_nextOrder_0_41 (x1 x2 x3 : Int) {σ : Mem} {Q : Int → Mem → Prop} (h : (0 ≤ x3 ∧ x3 < 4) ∧ ((0 ≤ x2 ∧ x2 < 4) ∧ ((σ 12 x2 ≤ σ 12 x3 → (0 ≤ x2 ∧ x2 < 4) ∧ ((0 ≤ x3 ∧ x3 < 4) ∧ ((0 ≤ x2 ∧ x2 < 4) ∧ ((0 ≤ x3 ∧ x3 < 4) ∧ (WP GM M_X9_nextOrder 100 [some (mr 0), none, none, none, none, some (mi (jsub x1 1)), some (mi (jadd x2 1))] [] (mupd (mupd σ 12 x2 (σ 12 x3)) 12 x3 (σ 12 x2)) Q))))) ∧ (¬ σ 12 x2 ≤ σ 12 x3 → WP GM M_X9_nextOrder 41 [some (mr 0), some (mi x1), some (mi x2), some (mi (jadd x3 (-1))), none, none, none] [] σ Q)))) : WP GM M_X9_nextOrder 41 [some (mr 0), some (mi x1), some (mi x2), some (mi x3), none, none, none] [] σ Q := by
  refine WP.aload_n dX9_nextOrder_41 rfl ?_
  refine WP.getR fd_X9_47 dX9_nextOrder_42 k0 rfl ?_
  refine WP.iload_n dX9_nextOrder_45 rfl ?_
  obtain ⟨hi, h⟩ := h
  refine WP.iald dX9_nextOrder_46 k12 hi ?_
  refine WP.aload_n dX9_nextOrder_47 rfl ?_
  refine WP.getR fd_X9_47 dX9_nextOrder_48 k0 rfl ?_
  refine WP.iload_n dX9_nextOrder_51 rfl ?_
  obtain ⟨hi, h⟩ := h
  refine WP.iald dX9_nextOrder_52 k12 hi ?_
  refine WP.icmp_ge (tgt := 62) dX9_nextOrder_53 (by decide) (fun q => ?_) (fun q => ?_)
  · have h := h.1 q
    refine WP.aload_n dX9_nextOrder_62 rfl ?_
    refine WP.getR fd_X9_47 dX9_nextOrder_63 k0 rfl ?_
    refine WP.iload_n dX9_nextOrder_66 rfl ?_
    obtain ⟨hi, h⟩ := h
    refine WP.iald dX9_nextOrder_67 k12 hi ?_
    refine WP.istore (L2 := [some (mr 0), some (mi x1), some (mi x2), some (mi x3), some (mi (σ 12 x2)), none, none]) dX9_nextOrder_68 (by decide) rfl ?_
    refine WP.aload_n dX9_nextOrder_70 rfl ?_
    refine WP.getR fd_X9_47 dX9_nextOrder_71 k0 rfl ?_
    refine WP.iload_n dX9_nextOrder_74 rfl ?_
    refine WP.aload_n dX9_nextOrder_75 rfl ?_
    refine WP.getR fd_X9_47 dX9_nextOrder_76 k0 rfl ?_
    refine WP.iload_n dX9_nextOrder_79 rfl ?_
    obtain ⟨hi, h⟩ := h
    refine WP.iald dX9_nextOrder_80 k12 hi ?_
    obtain ⟨hi, h⟩ := h
    refine WP.iast dX9_nextOrder_81 k12 hi ?_
    refine WP.aload_n dX9_nextOrder_82 rfl ?_
    refine WP.getR fd_X9_47 dX9_nextOrder_83 k0 rfl ?_
    refine WP.iload_n dX9_nextOrder_86 rfl ?_
    refine WP.iload dX9_nextOrder_87 rfl ?_
    obtain ⟨hi, h⟩ := h
    refine WP.iast dX9_nextOrder_89 k12 hi ?_
    refine WP.iload_n dX9_nextOrder_90 rfl ?_
    refine WP.iconst dX9_nextOrder_91 (by decide) ?_
    refine WP.isub dX9_nextOrder_92 ?_
    refine WP.istore (L2 := [some (mr 0), some (mi x1), some (mi x2), some (mi x3), some (mi (σ 12 x2)), some (mi (jsub x1 1)), none]) dX9_nextOrder_93 (by decide) rfl ?_
    refine WP.iload_n dX9_nextOrder_95 rfl ?_
    refine WP.iconst dX9_nextOrder_96 (by decide) ?_
    refine WP.iadd dX9_nextOrder_97 ?_
    refine WP.istore (L2 := [some (mr 0), some (mi x1), some (mi x2), some (mi x3), some (mi (σ 12 x2)), some (mi (jsub x1 1)), some (mi (jadd x2 1))]) dX9_nextOrder_98 (by decide) rfl ?_
    refine WP.drop 1 (L2 := [some (mr 0), none, some (mi x2), some (mi x3), some (mi (σ 12 x2)), some (mi (jsub x1 1)), some (mi (jadd x2 1))]) rfl ?_
    refine WP.drop 2 (L2 := [some (mr 0), none, none, some (mi x3), some (mi (σ 12 x2)), some (mi (jsub x1 1)), some (mi (jadd x2 1))]) rfl ?_
    refine WP.drop 3 (L2 := [some (mr 0), none, none, none, some (mi (σ 12 x2)), some (mi (jsub x1 1)), some (mi (jadd x2 1))]) rfl ?_
    refine WP.drop 4 (L2 := [some (mr 0), none, none, none, none, some (mi (jsub x1 1)), some (mi (jadd x2 1))]) rfl ?_
    exact h
  · have h := h.2 q
    refine WP.iinc (L2 := [some (mr 0), some (mi x1), some (mi x2), some (mi (jadd x3 (-1))), none, none, none]) dX9_nextOrder_56 (by decide) rfl (by decide) rfl ?_
    refine WP.goto (tgt := 41) dX9_nextOrder_59 (by decide) ?_
    exact h
set_option maxRecDepth 100000 in
set_option maxHeartbeats 4000000 in
theorem b_X9_nextOrder_0_100 (x5 x6 : Int) {σ : Mem} {Q : Int → Mem → Prop} (h : (x5 ≤ x6 → Q 1 σ) ∧ (¬ x5 ≤ x6 → (0 ≤ x6 ∧ x6 < 4) ∧ ((0 ≤ x5 ∧ x5 < 4) ∧ ((0 ≤ x6 ∧ x6 < 4) ∧ ((0 ≤ x5 ∧ x5 < 4) ∧ (WP GM M_X9_nextOrder 100 [some (mr 0), none, none, none, none, some (mi (jadd x5 (-1))), some (mi (jadd x6 1))] [] (mupd (mupd σ 12 x6 (σ 12 x5)) 12 x5 (σ 12 x6)) Q)))))) : WP GM M_X9_nextOrder 100 [some (mr 0), none, none, none, none, some (mi x5), some (mi x6)] [] σ Q := by
  refine WP.iload dX9_nextOrder_100 rfl ?_
  refine WP.iload dX9_nextOrder_102 rfl ?_
  refine WP.icmp_ge (tgt := 148) dX9_nextOrder_104 (by decide) (fun q => ?_) (fun q => ?_)
  · have h := h.1 q
    refine WP.iconst dX9_nextOrder_148 (by decide) ?_
    exact WP.zret rfl dX9_nextOrder_149 (by decide) h
  · have h := h.2 q
    refine WP.aload_n dX9_nextOrder_107 rfl ?_
    refine WP.getR fd_X9_47 dX9_nextOrder_108 k0 rfl ?_
    refine WP.iload dX9_nextOrder_111 rfl ?_
    obtain ⟨hi, h⟩ := h
    refine WP.iald dX9_nextOrder_113 k12 hi ?_
    refine WP.istore (L2 := [some (mr 0), none, none, none, some (mi (σ 12 x6)), some (mi x5), some (mi x6)]) dX9_nextOrder_114 (by decide) rfl ?_
    refine WP.aload_n dX9_nextOrder_116 rfl ?_
    refine WP.getR fd_X9_47 dX9_nextOrder_117 k0 rfl ?_
    refine WP.iload dX9_nextOrder_120 rfl ?_
    refine WP.aload_n dX9_nextOrder_122 rfl ?_
    refine WP.getR fd_X9_47 dX9_nextOrder_123 k0 rfl ?_
    refine WP.iload dX9_nextOrder_126 rfl ?_
    obtain ⟨hi, h⟩ := h
    refine WP.iald dX9_nextOrder_128 k12 hi ?_
    obtain ⟨hi, h⟩ := h
    refine WP.iast dX9_nextOrder_129 k12 hi ?_
    refine WP.aload_n dX9_nextOrder_130 rfl ?_
    refine WP.getR fd_X9_47 dX9_nextOrder_131 k0 rfl ?_
    refine WP.iload dX9_nextOrder_134 rfl ?_
    refine WP.iload dX9_nextOrder_136 rfl ?_
    obtain ⟨hi, h⟩ := h
    refine WP.iast dX9_nextOrder_138 k12 hi ?_
    refine WP.iinc (L2 := [some (mr 0), none, none, none, some (mi (σ 12 x6)), some (mi (jadd x5 (-1))), some (mi x6)]) dX9_nextOrder_139 (by decide) rfl (by decide) rfl ?_
    refine WP.iinc (L2 := [some (mr 0), none, none, none, some (mi (σ 12 x6)), some (mi (jadd x5 (-1))), some (mi (jadd x6 1))]) dX9_nextOrder_142 (by decide) rfl (by decide) rfl ?_
    refine WP.goto (tgt := 100) dX9_nextOrder_145 (by decide) ?_
    refine WP.drop 4 (L2 := [some (mr 0), none, none, none, none, some (mi (jadd x5 (-1))), some (mi (jadd x6 1))]) rfl ?_
    exact h
theorem dX9_dealt_0 : decode cX9_dealt 0 = .ok (.aload_n 0, 1) := by decide +kernel
theorem dX9_dealt_1 : decode cX9_dealt 1 = .ok (.iload_n 1, 1) := by decide +kernel
theorem dX9_dealt_2 : decode cX9_dealt 2 = .ok (.invokevirtual 109, 3) := by decide +kernel
theorem dX9_dealt_5 : decode cX9_dealt 5 = .ok (.ifCond .eq 32, 3) := by decide +kernel
theorem dX9_dealt_8 : decode cX9_dealt 8 = .ok (.iload_n 2, 1) := by decide +kernel
theorem dX9_dealt_9 : decode cX9_dealt 9 = .ok (.invokestatic 100, 3) := by decide +kernel
theorem dX9_dealt_12 : decode cX9_dealt 12 = .ok (.ifCond .eq 25, 3) := by decide +kernel
theorem dX9_dealt_15 : decode cX9_dealt 15 = .ok (.iload_n 3, 1) := by decide +kernel
theorem dX9_dealt_16 : decode cX9_dealt 16 = .ok (.invokestatic 100, 3) := by decide +kernel
theorem dX9_dealt_19 : decode cX9_dealt 19 = .ok (.ifCond .eq 18, 3) := by decide +kernel
theorem dX9_dealt_22 : decode cX9_dealt 22 = .ok (.iload 4, 2) := by decide +kernel
theorem dX9_dealt_24 : decode cX9_dealt 24 = .ok (.i2l, 1) := by decide +kernel
theorem dX9_dealt_25 : decode cX9_dealt 25 = .ok (.ldc2_w 238, 3) := by decide +kernel
theorem dX9_dealt_28 : decode cX9_dealt 28 = .ok (.ldc2_w 94, 3) := by decide +kernel
theorem dX9_dealt_31 : decode cX9_dealt 31 = .ok (.invokestatic 82, 3) := by decide +kernel
theorem dX9_dealt_34 : decode cX9_dealt 34 = .ok (.ifCond .ne 5, 3) := by decide +kernel
theorem dX9_dealt_37 : decode cX9_dealt 37 = .ok (.iconst (-1), 1) := by decide +kernel
theorem dX9_dealt_38 : decode cX9_dealt 38 = .ok (.ireturn, 1) := by decide +kernel
theorem dX9_dealt_39 : decode cX9_dealt 39 = .ok (.aload_n 0, 1) := by decide +kernel
theorem dX9_dealt_40 : decode cX9_dealt 40 = .ok (.getfield 7, 3) := by decide +kernel
theorem dX9_dealt_43 : decode cX9_dealt 43 = .ok (.iload_n 1, 1) := by decide +kernel
theorem dX9_dealt_44 : decode cX9_dealt 44 = .ok (.iaload, 1) := by decide +kernel
theorem dX9_dealt_45 : decode cX9_dealt 45 = .ok (.istore 5, 2) := by decide +kernel
theorem dX9_dealt_47 : decode cX9_dealt 47 = .ok (.aload_n 0, 1) := by decide +kernel
theorem dX9_dealt_48 : decode cX9_dealt 48 = .ok (.getfield 13, 3) := by decide +kernel
theorem dX9_dealt_51 : decode cX9_dealt 51 = .ok (.iload_n 1, 1) := by decide +kernel
theorem dX9_dealt_52 : decode cX9_dealt 52 = .ok (.iaload, 1) := by decide +kernel
theorem dX9_dealt_53 : decode cX9_dealt 53 = .ok (.istore 6, 2) := by decide +kernel
theorem dX9_dealt_55 : decode cX9_dealt 55 = .ok (.iconst 0, 1) := by decide +kernel
theorem dX9_dealt_56 : decode cX9_dealt 56 = .ok (.istore 7, 2) := by decide +kernel
theorem dX9_dealt_58 : decode cX9_dealt 58 = .ok (.iload 7, 2) := by decide +kernel
theorem dX9_dealt_60 : decode cX9_dealt 60 = .ok (.iload 5, 2) := by decide +kernel
theorem dX9_dealt_62 : decode cX9_dealt 62 = .ok (.if_icmp .ge 91, 3) := by decide +kernel
theorem dX9_dealt_65 : decode cX9_dealt 65 = .ok (.aload_n 0, 1) := by decide +kernel
theorem dX9_dealt_66 : decode cX9_dealt 66 = .ok (.getfield 53, 3) := by decide +kernel
theorem dX9_dealt_69 : decode cX9_dealt 69 = .ok (.iload 7, 2) := by decide +kernel
theorem dX9_dealt_71 : decode cX9_dealt 71 = .ok (.aload_n 0, 1) := by decide +kernel
theorem dX9_dealt_72 : decode cX9_dealt 72 = .ok (.getfield 19, 3) := by decide +kernel
theorem dX9_dealt_75 : decode cX9_dealt 75 = .ok (.iconst 4, 1) := by decide +kernel
theorem dX9_dealt_76 : decode cX9_dealt 76 = .ok (.iload_n 1, 1) := by decide +kernel
theorem dX9_dealt_77 : decode cX9_dealt 77 = .ok (.imul, 1) := by decide +kernel
theorem dX9_dealt_78 : decode cX9_dealt 78 = .ok (.iload 7, 2) := by decide +kernel
theorem dX9_dealt_80 : decode cX9_dealt 80 = .ok (.iadd, 1) := by decide +kernel
theorem dX9_dealt_81 : decode cX9_dealt 81 = .ok (.iaload, 1) := by decide +kernel
theorem dX9_dealt_82 : decode cX9_dealt 82 = .ok (.iastore, 1) := by decide +kernel
theorem dX9_dealt_83 : decode cX9_dealt 83 = .ok (.iload 7, 2) := by decide +kernel
theorem dX9_dealt_85 : decode cX9_dealt 85 = .ok (.istore 8, 2) := by decide +kernel
theorem dX9_dealt_87 : decode cX9_dealt 87 = .ok (.iload 8, 2) := by decide +kernel
theorem dX9_dealt_89 : decode cX9_dealt 89 = .ok (.ifCond .le 44, 3) := by decide +kernel
theorem dX9_dealt_92 : decode cX9_dealt 92 = .ok (.aload_n 0, 1) := by decide +kernel
theorem dX9_dealt_93 : decode cX9_dealt 93 = .ok (.getfield 47, 3) := by decide +kernel
theorem dX9_dealt_96 : decode cX9_dealt 96 = .ok (.iload 8, 2) := by decide +kernel
theorem dX9_dealt_98 : decode cX9_dealt 98 = .ok (.iconst 1, 1) := by decide +kernel
theorem dX9_dealt_99 : decode cX9_dealt 99 = .ok (.isub, 1) := by decide +kernel
theorem dX9_dealt_100 : decode cX9_dealt 100 = .ok (.iaload, 1) := by decide +kernel
theorem dX9_dealt_101 : decode cX9_dealt 101 = .ok (.aload_n 0, 1) := by decide +kernel
theorem dX9_dealt_102 : decode cX9_dealt 102 = .ok (.getfield 53, 3) := by decide +kernel
theorem dX9_dealt_105 : decode cX9_dealt 105 = .ok (.iload 7, 2) := by decide +kernel
theorem dX9_dealt_107 : decode cX9_dealt 107 = .ok (.iaload, 1) := by decide +kernel
theorem dX9_dealt_108 : decode cX9_dealt 108 = .ok (.if_icmp .le 25, 3) := by decide +kernel
theorem dX9_dealt_111 : decode cX9_dealt 111 = .ok (.aload_n 0, 1) := by decide +kernel
theorem dX9_dealt_112 : decode cX9_dealt 112 = .ok (.getfield 47, 3) := by decide +kernel
theorem dX9_dealt_115 : decode cX9_dealt 115 = .ok (.iload 8, 2) := by decide +kernel
theorem dX9_dealt_117 : decode cX9_dealt 117 = .ok (.aload_n 0, 1) := by decide +kernel
theorem dX9_dealt_118 : decode cX9_dealt 118 = .ok (.getfield 47, 3) := by decide +kernel
theorem dX9_dealt_121 : decode cX9_dealt 121 = .ok (.iload 8, 2) := by decide +kernel
theorem dX9_dealt_123 : decode cX9_dealt 123 = .ok (.iconst 1, 1) := by decide +kernel
theorem dX9_dealt_124 : decode cX9_dealt 124 = .ok (.isub, 1) := by decide +kernel
theorem dX9_dealt_125 : decode cX9_dealt 125 = .ok (.iaload, 1) := by decide +kernel
theorem dX9_dealt_126 : decode cX9_dealt 126 = .ok (.iastore, 1) := by decide +kernel
theorem dX9_dealt_127 : decode cX9_dealt 127 = .ok (.iinc 8 (-1), 3) := by decide +kernel
theorem dX9_dealt_130 : decode cX9_dealt 130 = .ok (.goto (-43), 3) := by decide +kernel
theorem dX9_dealt_133 : decode cX9_dealt 133 = .ok (.aload_n 0, 1) := by decide +kernel
theorem dX9_dealt_134 : decode cX9_dealt 134 = .ok (.getfield 47, 3) := by decide +kernel
theorem dX9_dealt_137 : decode cX9_dealt 137 = .ok (.iload 8, 2) := by decide +kernel
theorem dX9_dealt_139 : decode cX9_dealt 139 = .ok (.aload_n 0, 1) := by decide +kernel
theorem dX9_dealt_140 : decode cX9_dealt 140 = .ok (.getfield 53, 3) := by decide +kernel
theorem dX9_dealt_143 : decode cX9_dealt 143 = .ok (.iload 7, 2) := by decide +kernel
theorem dX9_dealt_145 : decode cX9_dealt 145 = .ok (.iaload, 1) := by decide +kernel
theorem dX9_dealt_146 : decode cX9_dealt 146 = .ok (.iastore, 1) := by decide +kernel
theorem dX9_dealt_147 : decode cX9_dealt 147 = .ok (.iinc 7 1, 3) := by decide +kernel
theorem dX9_dealt_150 : decode cX9_dealt 150 = .ok (.goto (-92), 3) := by decide +kernel
theorem dX9_dealt_153 : decode cX9_dealt 153 = .ok (.aload_n 0, 1) := by decide +kernel
theorem dX9_dealt_154 : decode cX9_dealt 154 = .ok (.getfield 13, 3) := by decide +kernel
theorem dX9_dealt_157 : decode cX9_dealt 157 = .ok (.iload_n 1, 1) := by decide +kernel
theorem dX9_dealt_158 : decode cX9_dealt 158 = .ok (.iconst 0, 1) := by decide +kernel
theorem dX9_dealt_159 : decode cX9_dealt 159 = .ok (.iastore, 1) := by decide +kernel
theorem dX9_dealt_160 : decode cX9_dealt 160 = .ok (.bipush (-4), 2) := by decide +kernel
theorem dX9_dealt_162 : decode cX9_dealt 162 = .ok (.istore 7, 2) := by decide +kernel
theorem dX9_dealt_164 : decode cX9_dealt 164 = .ok (.iconst 1, 1) := by decide +kernel
theorem dX9_dealt_165 : decode cX9_dealt 165 = .ok (.istore 8, 2) := by decide +kernel
theorem dX9_dealt_167 : decode cX9_dealt 167 = .ok (.iload 8, 2) := by decide +kernel
theorem dX9_dealt_169 : decode cX9_dealt 169 = .ok (.ifCond .eq 108, 3) := by decide +kernel
theorem dX9_dealt_172 : decode cX9_dealt 172 = .ok (.iconst 0, 1) := by decide +kernel
theorem dX9_dealt_173 : decode cX9_dealt 173 = .ok (.istore 9, 2) := by decide +kernel
theorem dX9_dealt_175 : decode cX9_dealt 175 = .ok (.iload 9, 2) := by decide +kernel
theorem dX9_dealt_177 : decode cX9_dealt 177 = .ok (.iload 5, 2) := by decide +kernel
theorem dX9_dealt_179 : decode cX9_dealt 179 = .ok (.if_icmp .ge 27, 3) := by decide +kernel
theorem dX9_dealt_182 : decode cX9_dealt 182 = .ok (.aload_n 0, 1) := by decide +kernel
theorem dX9_dealt_183 : decode cX9_dealt 183 = .ok (.getfield 19, 3) := by decide +kernel
theorem dX9_dealt_186 : decode cX9_dealt 186 = .ok (.iconst 4, 1) := by decide +kernel
theorem dX9_dealt_187 : decode cX9_dealt 187 = .ok (.iload_n 1, 1) := by decide +kernel
theorem dX9_dealt_188 : decode cX9_dealt 188 = .ok (.imul, 1) := by decide +kernel
theorem dX9_dealt_189 : decode cX9_dealt 189 = .ok (.iload 9, 2) := by decide +kernel
theorem dX9_dealt_191 : decode cX9_dealt 191 = .ok (.iadd, 1) := by decide +kernel
theorem dX9_dealt_192 : decode cX9_dealt 192 = .ok (.aload_n 0, 1) := by decide +kernel
theorem dX9_dealt_193 : decode cX9_dealt 193 = .ok (.getfield 47, 3) := by decide +kernel
theorem dX9_dealt_196 : decode cX9_dealt 196 = .ok (.iload 9, 2) := by decide +kernel
theorem dX9_dealt_198 : decode cX9_dealt 198 = .ok (.iaload, 1) := by decide +kernel
theorem dX9_dealt_199 : decode cX9_dealt 199 = .ok (.iastore, 1) := by decide +kernel
theorem dX9_dealt_200 : decode cX9_dealt 200 = .ok (.iinc 9 1, 3) := by decide +kernel
theorem dX9_dealt_203 : decode cX9_dealt 203 = .ok (.goto (-28), 3) := by decide +kernel
theorem dX9_dealt_206 : decode cX9_dealt 206 = .ok (.aload_n 0, 1) := by decide +kernel
theorem dX9_dealt_207 : decode cX9_dealt 207 = .ok (.iload_n 2, 1) := by decide +kernel
theorem dX9_dealt_208 : decode cX9_dealt 208 = .ok (.iload_n 3, 1) := by decide +kernel
theorem dX9_dealt_209 : decode cX9_dealt 209 = .ok (.iconst 0, 1) := by decide +kernel
theorem dX9_dealt_210 : decode cX9_dealt 210 = .ok (.invokevirtual 234, 3) := by decide +kernel
theorem dX9_dealt_213 : decode cX9_dealt 213 = .ok (.istore 9, 2) := by decide +kernel
theorem dX9_dealt_215 : decode cX9_dealt 215 = .ok (.iload 9, 2) := by decide +kernel
theorem dX9_dealt_217 : decode cX9_dealt 217 = .ok (.ifCond .lt 49, 3) := by decide +kernel
theorem dX9_dealt_220 : decode cX9_dealt 220 = .ok (.iload 7, 2) := by decide +kernel
theorem dX9_dealt_222 : decode cX9_dealt 222 = .ok (.ifCond .lt 10, 3) := by decide +kernel
theorem dX9_dealt_225 : decode cX9_dealt 225 = .ok (.iload 9, 2) := by decide +kernel
theorem dX9_dealt_227 : decode cX9_dealt 227 = .ok (.iload 7, 2) := by decide +kernel
theorem dX9_dealt_229 : decode cX9_dealt 229 = .ok (.if_icmp .ge 37, 3) := by decide +kernel
theorem dX9_dealt_232 : decode cX9_dealt 232 = .ok (.iload 9, 2) := by decide +kernel
theorem dX9_dealt_234 : decode cX9_dealt 234 = .ok (.istore 7, 2) := by decide +kernel
theorem dX9_dealt_236 : decode cX9_dealt 236 = .ok (.iconst 0, 1) := by decide +kernel
theorem dX9_dealt_237 : decode cX9_dealt 237 = .ok (.istore 10, 2) := by decide +kernel
theorem dX9_dealt_239 : decode cX9_dealt 239 = .ok (.iload 10, 2) := by decide +kernel
theorem dX9_dealt_241 : decode cX9_dealt 241 = .ok (.iload 5, 2) := by decide +kernel
theorem dX9_dealt_243 : decode cX9_dealt 243 = .ok (.if_icmp .ge 23, 3) := by decide +kernel
theorem dX9_dealt_246 : decode cX9_dealt 246 = .ok (.aload_n 0, 1) := by decide +kernel
theorem dX9_dealt_247 : decode cX9_dealt 247 = .ok (.getfield 50, 3) := by decide +kernel
theorem dX9_dealt_250 : decode cX9_dealt 250 = .ok (.iload 10, 2) := by decide +kernel
theorem dX9_dealt_252 : decode cX9_dealt 252 = .ok (.aload_n 0, 1) := by decide +kernel
theorem dX9_dealt_253 : decode cX9_dealt 253 = .ok (.getfield 47, 3) := by decide +kernel
theorem dX9_dealt_256 : decode cX9_dealt 256 = .ok (.iload 10, 2) := by decide +kernel
theorem dX9_dealt_258 : decode cX9_dealt 258 = .ok (.iaload, 1) := by decide +kernel
theorem dX9_dealt_259 : decode cX9_dealt 259 = .ok (.iastore, 1) := by decide +kernel
theorem dX9_dealt_260 : decode cX9_dealt 260 = .ok (.iinc 10 1, 3) := by decide +kernel
theorem dX9_dealt_263 : decode cX9_dealt 263 = .ok (.goto (-24), 3) := by decide +kernel
theorem dX9_dealt_266 : decode cX9_dealt 266 = .ok (.aload_n 0, 1) := by decide +kernel
theorem dX9_dealt_267 : decode cX9_dealt 267 = .ok (.iload 5, 2) := by decide +kernel
theorem dX9_dealt_269 : decode cX9_dealt 269 = .ok (.invokevirtual 240, 3) := by decide +kernel
theorem dX9_dealt_272 : decode cX9_dealt 272 = .ok (.istore 8, 2) := by decide +kernel
theorem dX9_dealt_274 : decode cX9_dealt 274 = .ok (.goto (-107), 3) := by decide +kernel
theorem dX9_dealt_277 : decode cX9_dealt 277 = .ok (.aload_n 0, 1) := by decide +kernel
theorem dX9_dealt_278 : decode cX9_dealt 278 = .ok (.getfield 13, 3) := by decide +kernel
theorem dX9_dealt_281 : decode cX9_dealt 281 = .ok (.iload_n 1, 1) := by decide +kernel
theorem dX9_dealt_282 : decode cX9_dealt 282 = .ok (.iload 6, 2) := by decide +kernel
theorem dX9_dealt_284 : decode cX9_dealt 284 = .ok (.iastore, 1) := by decide +kernel
theorem dX9_dealt_285 : decode cX9_dealt 285 = .ok (.iconst 0, 1) := by decide +kernel
theorem dX9_dealt_286 : decode cX9_dealt 286 = .ok (.istore 9, 2) := by decide +kernel
theorem dX9_dealt_288 : decode cX9_dealt 288 = .ok (.iload 9, 2) := by decide +kernel
theorem dX9_dealt_290 : decode cX9_dealt 290 = .ok (.iload 5, 2) := by decide +kernel
theorem dX9_dealt_292 : decode cX9_dealt 292 = .ok (.if_icmp .ge 27, 3) := by decide +kernel
theorem dX9_dealt_295 : decode cX9_dealt 295 = .ok (.aload_n 0, 1) := by decide +kernel
theorem dX9_dealt_296 : decode cX9_dealt 296 = .ok (.getfield 19, 3) := by decide +kernel
theorem dX9_dealt_299 : decode cX9_dealt 299 = .ok (.iconst 4, 1) := by decide +kernel
theorem dX9_dealt_300 : decode cX9_dealt 300 = .ok (.iload_n 1, 1) := by decide +kernel
theorem dX9_dealt_301 : decode cX9_dealt 301 = .ok (.imul, 1) := by decide +kernel
theorem dX9_dealt_302 : decode cX9_dealt 302 = .ok (.iload 9, 2) := by decide +kernel
theorem dX9_dealt_304 : decode cX9_dealt 304 = .ok (.iadd, 1) := by decide +kernel
theorem dX9_dealt_305 : decode cX9_dealt 305 = .ok (.aload_n 0, 1) := by decide +kernel
theorem dX9_dealt_306 : decode cX9_dealt 306 = .ok (.getfield 53, 3) := by decide +kernel
theorem dX9_dealt_309 : decode cX9_dealt 309 = .ok (.iload 9, 2) := by decide +kernel
theorem dX9_dealt_311 : decode cX9_dealt 311 = .ok (.iaload, 1) := by decide +kernel
theorem dX9_dealt_312 : decode cX9_dealt 312 = .ok (.iastore, 1) := by decide +kernel
theorem dX9_dealt_313 : decode cX9_dealt 313 = .ok (.iinc 9 1, 3) := by decide +kernel
theorem dX9_dealt_316 : decode cX9_dealt 316 = .ok (.goto (-28), 3) := by decide +kernel
theorem dX9_dealt_319 : decode cX9_dealt 319 = .ok (.iload 7, 2) := by decide +kernel
theorem dX9_dealt_321 : decode cX9_dealt 321 = .ok (.ifCond .ge 8, 3) := by decide +kernel
theorem dX9_dealt_324 : decode cX9_dealt 324 = .ok (.bipush (-4), 2) := by decide +kernel
theorem dX9_dealt_326 : decode cX9_dealt 326 = .ok (.goto 32, 3) := by decide +kernel
theorem dX9_dealt_329 : decode cX9_dealt 329 = .ok (.iload 4, 2) := by decide +kernel
theorem dX9_dealt_331 : decode cX9_dealt 331 = .ok (.ifCond .ge 8, 3) := by decide +kernel
theorem dX9_dealt_334 : decode cX9_dealt 334 = .ok (.iload 7, 2) := by decide +kernel
theorem dX9_dealt_336 : decode cX9_dealt 336 = .ok (.goto 22, 3) := by decide +kernel
theorem dX9_dealt_339 : decode cX9_dealt 339 = .ok (.iload 4, 2) := by decide +kernel
theorem dX9_dealt_341 : decode cX9_dealt 341 = .ok (.iload 5, 2) := by decide +kernel
theorem dX9_dealt_343 : decode cX9_dealt 343 = .ok (.if_icmp .ge 13, 3) := by decide +kernel
theorem dX9_dealt_346 : decode cX9_dealt 346 = .ok (.aload_n 0, 1) := by decide +kernel
theorem dX9_dealt_347 : decode cX9_dealt 347 = .ok (.getfield 50, 3) := by decide +kernel
theorem dX9_dealt_350 : decode cX9_dealt 350 = .ok (.iload 4, 2) := by decide +kernel
theorem dX9_dealt_352 : decode cX9_dealt 352 = .ok (.iaload, 1) := by decide +kernel
theorem dX9_dealt_353 : decode cX9_dealt 353 = .ok (.goto 5, 3) := by decide +kernel
theorem dX9_dealt_356 : decode cX9_dealt 356 = .ok (.bipush (-4), 2) := by decide +kernel
theorem dX9_dealt_358 : decode cX9_dealt 358 = .ok (.ireturn, 1) := by decide +kernel
set_option maxRecDepth 100000 in
set_option maxHeartbeats 4000000 in
theorem e_X9_dealt_0 (x1 x2 x3 x4 : Int) {σ : Mem} {Q : Int → Mem → Prop} (h : HT GM M_X9_isCoat [mr 0, mi x1] σ (fun r2 σ2 => (r2 = 0 → Q (-1) σ2) ∧ (¬ r2 = 0 → HT GM M_X9_isBoy [mi x2] σ2 (fun r9 σ9 => (r9 = 0 → Q (-1) σ9) ∧ (¬ r9 = 0 → HT GM M_X9_isBoy [mi x3] σ9 (fun r16 σ16 => (r16 = 0 → Q (-1) σ16) ∧ (¬ r16 = 0 → HT GM M_X9_in [ml x4, ml (-1), ml 3] σ16 (fun r31 σ31 => (¬ r31 = 0 → (0 ≤ x1 ∧ x1 < 4) ∧ ((0 ≤ x1 ∧ x1 < 4) ∧ (WP GM M_X9_dealt 58 [some (mr 0), some (mi x1), some (mi x2), some (mi x3), some (mi x4), some (mi (σ31 1 x1)), some (mi (σ31 2 x1)), some (mi 0), none, none, none] [] σ31 Q))) ∧ (r31 = 0 → Q (-1) σ31))))))))) : HT GM M_X9_dealt [mr 0, mi x1, mi x2, mi x3, mi x4] σ Q := by
  refine HT.of pn_X9 (Nat.le_of_ble_eq_true rfl) ?_
  show WP GM M_X9_dealt 0 [some (mr 0), some (mi x1), some (mi x2), some (mi x3), some (mi x4), none, none, none, none, none, none] [] σ Q
  refine WP.aload_n dX9_dealt_0 rfl ?_
  refine WP.iload_n dX9_dealt_1 rfl ?_
  refine WP.callV M_X9_isCoat [mi x1] cv_X9_isCoat dX9_dealt_2 lk_X9_109 k0 rfl ft_X9_dealt__X9_isCoat rfl (Nat.le_of_ble_eq_true rfl) (HT.mono h ?_)
  rintro r2 σ2 - - h
  refine WP.if_eq (tgt := 37) dX9_dealt_5 (by decide) (fun q => ?_) (fun q => ?_)
  · have h := h.1 q
    refine WP.iconst dX9_dealt_37 (by decide) ?_
    exact WP.iret rfl dX9_dealt_38 h
  · have h := h.2 q
    refine WP.iload_n dX9_dealt_8 rfl ?_
    refine WP.callS M_X9_isBoy [mi x2] cs_X9_isBoy dX9_dealt_9 lk_X9_100 ft_X9_dealt__X9_isBoy rfl (Nat.le_of_ble_eq_true rfl) (HT.mono h ?_)
    rintro r9 σ9 - - h
    refine WP.if_eq (tgt := 37) dX9_dealt_12 (by decide) (fun q => ?_) (fun q => ?_)
    · have h := h.1 q
      refine WP.iconst dX9_dealt_37 (by decide) ?_
      exact WP.iret rfl dX9_dealt_38 h
    · have h := h.2 q
      refine WP.iload_n dX9_dealt_15 rfl ?_
      refine WP.callS M_X9_isBoy [mi x3] cs_X9_isBoy dX9_dealt_16 lk_X9_100 ft_X9_dealt__X9_isBoy rfl (Nat.le_of_ble_eq_true rfl) (HT.mono h ?_)
      rintro r16 σ16 - - h
      refine WP.if_eq (tgt := 37) dX9_dealt_19 (by decide) (fun q => ?_) (fun q => ?_)
      · have h := h.1 q
        refine WP.iconst dX9_dealt_37 (by decide) ?_
        exact WP.iret rfl dX9_dealt_38 h
      · have h := h.2 q
        refine WP.iload dX9_dealt_22 rfl ?_
        refine WP.i2l dX9_dealt_24 ?_
        refine WP.ldc2 (x := (-1)) dX9_dealt_25 ct_X9_238 (by decide) (by decide) ?_
        refine WP.ldc2 (x := 3) dX9_dealt_28 ct_X9_94 (by decide) (by decide) ?_
        refine WP.callS M_X9_in [ml x4, ml (-1), ml 3] cs_X9_in dX9_dealt_31 lk_X9_82 ft_X9_dealt__X9_in rfl (Nat.le_of_ble_eq_true rfl) (HT.mono h ?_)
        rintro r31 σ31 - - h
        refine WP.if_ne (tgt := 39) dX9_dealt_34 (by decide) (fun q => ?_) (fun q => ?_)
        · have h := h.1 q
          refine WP.aload_n dX9_dealt_39 rfl ?_
          refine WP.getR fd_X9_7 dX9_dealt_40 k0 rfl ?_
          refine WP.iload_n dX9_dealt_43 rfl ?_
          obtain ⟨hi, h⟩ := h
          refine WP.iald dX9_dealt_44 k1 hi ?_
          refine WP.istore (L2 := [some (mr 0), some (mi x1), some (mi x2), some (mi x3), some (mi x4), some (mi (σ31 1 x1)), none, none, none, none, none]) dX9_dealt_45 (by decide) rfl ?_
          refine WP.aload_n dX9_dealt_47 rfl ?_
          refine WP.getR fd_X9_13 dX9_dealt_48 k0 rfl ?_
          refine WP.iload_n dX9_dealt_51 rfl ?_
          obtain ⟨hi, h⟩ := h
          refine WP.iald dX9_dealt_52 k2 hi ?_
          refine WP.istore (L2 := [some (mr 0), some (mi x1), some (mi x2), some (mi x3), some (mi x4), some (mi (σ31 1 x1)), some (mi (σ31 2 x1)), none, none, none, none]) dX9_dealt_53 (by decide) rfl ?_
          refine WP.iconst dX9_dealt_55 (by decide) ?_
          refine WP.istore (L2 := [some (mr 0), some (mi x1), some (mi x2), some (mi x3), some (mi x4), some (mi (σ31 1 x1)), some (mi (σ31 2 x1)), some (mi 0), none, none, none]) dX9_dealt_56 (by decide) rfl ?_
          exact h
        · have h := h.2 q
          refine WP.iconst dX9_dealt_37 (by decide) ?_
          exact WP.iret rfl dX9_dealt_38 h
set_option maxRecDepth 100000 in
set_option maxHeartbeats 4000000 in
theorem b_X9_dealt_0_58 (x1 x2 x3 x4 x5 x6 x7 : Int) {σ : Mem} {Q : Int → Mem → Prop} (h : (x5 ≤ x7 → (0 ≤ x1 ∧ x1 < 4) ∧ (WP GM M_X9_dealt 167 [some (mr 0), some (mi x1), some (mi x2), some (mi x3), some (mi x4), some (mi x5), some (mi x6), some (mi (-4)), some (mi 1), none, none] [] (mupd σ 2 x1 0) Q)) ∧ (¬ x5 ≤ x7 → (0 ≤ jadd (jmul 4 x1) x7 ∧ jadd (jmul 4 x1) x7 < 16) ∧ ((0 ≤ x7 ∧ x7 < 4) ∧ (WP GM M_X9_dealt 87 [some (mr 0), some (mi x1), some (mi x2), some (mi x3), some (mi x4), some (mi x5), some (mi x6), some (mi x7), some (mi x7), none, none] [] (mupd σ 14 x7 (σ 4 (jadd (jmul 4 x1) x7))) Q)))) : WP GM M_X9_dealt 58 [some (mr 0), some (mi x1), some (mi x2), some (mi x3), some (mi x4), some (mi x5), some (mi x6), some (mi x7), none, none, none] [] σ Q := by
  refine WP.iload dX9_dealt_58 rfl ?_
  refine WP.iload dX9_dealt_60 rfl ?_
  refine WP.icmp_ge (tgt := 153) dX9_dealt_62 (by decide) (fun q => ?_) (fun q => ?_)
  · have h := h.1 q
    refine WP.aload_n dX9_dealt_153 rfl ?_
    refine WP.getR fd_X9_13 dX9_dealt_154 k0 rfl ?_
    refine WP.iload_n dX9_dealt_157 rfl ?_
    refine WP.iconst dX9_dealt_158 (by decide) ?_
    obtain ⟨hi, h⟩ := h
    refine WP.iast dX9_dealt_159 k2 hi ?_
    refine WP.bipush dX9_dealt_160 (by decide) bp_m4 ?_
    refine WP.istore (L2 := [some (mr 0), some (mi x1), some (mi x2), some (mi x3), some (mi x4), some (mi x5), some (mi x6), some (mi (-4)), none, none, none]) dX9_dealt_162 (by decide) rfl ?_
    refine WP.iconst dX9_dealt_164 (by decide) ?_
    refine WP.istore (L2 := [some (mr 0), some (mi x1), some (mi x2), some (mi x3), some (mi x4), some (mi x5), some (mi x6), some (mi (-4)), some (mi 1), none, none]) dX9_dealt_165 (by decide) rfl ?_
    exact h
  · have h := h.2 q
    refine WP.aload_n dX9_dealt_65 rfl ?_
    refine WP.getR fd_X9_53 dX9_dealt_66 k0 rfl ?_
    refine WP.iload dX9_dealt_69 rfl ?_
    refine WP.aload_n dX9_dealt_71 rfl ?_
    refine WP.getR fd_X9_19 dX9_dealt_72 k0 rfl ?_
    refine WP.iconst dX9_dealt_75 (by decide) ?_
    refine WP.iload_n dX9_dealt_76 rfl ?_
    refine WP.imul dX9_dealt_77 ?_
    refine WP.iload dX9_dealt_78 rfl ?_
    refine WP.iadd dX9_dealt_80 ?_
    obtain ⟨hi, h⟩ := h
    refine WP.iald dX9_dealt_81 k4 hi ?_
    obtain ⟨hi, h⟩ := h
    refine WP.iast dX9_dealt_82 k14 hi ?_
    refine WP.iload dX9_dealt_83 rfl ?_
    refine WP.istore (L2 := [some (mr 0), some (mi x1), some (mi x2), some (mi x3), some (mi x4), some (mi x5), some (mi x6), some (mi x7), some (mi x7), none, none]) dX9_dealt_85 (by decide) rfl ?_
    exact h
set_option maxRecDepth 100000 in
set_option maxHeartbeats 4000000 in
theorem b_X9_dealt_0_87 (x1 x2 x3 x4 x5 x6 x7 x8 : Int) {σ : Mem} {Q : Int → Mem → Prop} (h : (x8 ≤ 0 → WP GM M_X9_dealt 133 [some (mr 0), some (mi x1), some (mi x2), some (mi x3), some (mi x4), some (mi x5), some (mi x6), some (mi x7), some (mi x8), none, none] [] σ Q) ∧ (¬ x8 ≤ 0 → (0 ≤ jsub x8 1 ∧ jsub x8 1 < 4) ∧ ((0 ≤ x7 ∧ x7 < 4) ∧ ((σ 12 (jsub x8 1) ≤ σ 14 x7 → WP GM M_X9_dealt 133 [some (mr 0), some (mi x1), some (mi x2), some (mi x3), some (mi x4), some (mi x5), some (mi x6), some (mi x7), some (mi x8), none, none] [] σ Q) ∧ (¬ σ 12 (jsub x8 1) ≤ σ 14 x7 → (0 ≤ jsub x8 1 ∧ jsub x8 1 < 4) ∧ ((0 ≤ x8 ∧ x8 < 4) ∧ (WP GM M_X9_dealt 87 [some (mr 0), some (mi x1), some (mi x2), some (mi x3), some (mi x4), some (mi x5), some (mi x6), some (mi x7), some (mi (jadd x8 (-1))), none, none] [] (mupd σ 12 x8 (σ 12 (jsub x8 1))) Q))))))) : WP GM M_X9_dealt 87 [some (mr 0), some (mi x1), some (mi x2), some (mi x3), some (mi x4), some (mi x5), some (mi x6), some (mi x7), some (mi x8), none, none] [] σ Q := by
  refine WP.iload dX9_dealt_87 rfl ?_
  refine WP.if_le (tgt := 133) dX9_dealt_89 (by decide) (fun q => ?_) (fun q => ?_)
  · have h := h.1 q
    exact h
  · have h := h.2 q
    refine WP.aload_n dX9_dealt_92 rfl ?_
    refine WP.getR fd_X9_47 dX9_dealt_93 k0 rfl ?_
    refine WP.iload dX9_dealt_96 rfl ?_
    refine WP.iconst dX9_dealt_98 (by decide) ?_
    refine WP.isub dX9_dealt_99 ?_
    obtain ⟨hi, h⟩ := h
    refine WP.iald dX9_dealt_100 k12 hi ?_
    refine WP.aload_n dX9_dealt_101 rfl ?_
    refine WP.getR fd_X9_53 dX9_dealt_102 k0 rfl ?_
    refine WP.iload dX9_dealt_105 rfl ?_
    obtain ⟨hi, h⟩ := h
    refine WP.iald dX9_dealt_107 k14 hi ?_
    refine WP.icmp_le (tgt := 133) dX9_dealt_108 (by decide) (fun q => ?_) (fun q => ?_)
    · have h := h.1 q
      exact h
    · have h := h.2 q
      refine WP.aload_n dX9_dealt_111 rfl ?_
      refine WP.getR fd_X9_47 dX9_dealt_112 k0 rfl ?_
      refine WP.iload dX9_dealt_115 rfl ?_
      refine WP.aload_n dX9_dealt_117 rfl ?_
      refine WP.getR fd_X9_47 dX9_dealt_118 k0 rfl ?_
      refine WP.iload dX9_dealt_121 rfl ?_
      refine WP.iconst dX9_dealt_123 (by decide) ?_
      refine WP.isub dX9_dealt_124 ?_
      obtain ⟨hi, h⟩ := h
      refine WP.iald dX9_dealt_125 k12 hi ?_
      obtain ⟨hi, h⟩ := h
      refine WP.iast dX9_dealt_126 k12 hi ?_
      refine WP.iinc (L2 := [some (mr 0), some (mi x1), some (mi x2), some (mi x3), some (mi x4), some (mi x5), some (mi x6), some (mi x7), some (mi (jadd x8 (-1))), none, none]) dX9_dealt_127 (by decide) rfl (by decide) rfl ?_
      refine WP.goto (tgt := 87) dX9_dealt_130 (by decide) ?_
      exact h
set_option maxRecDepth 100000 in
set_option maxHeartbeats 4000000 in
theorem b_X9_dealt_0_133 (x1 x2 x3 x4 x5 x6 x7 x8 : Int) {σ : Mem} {Q : Int → Mem → Prop} (h : (0 ≤ x7 ∧ x7 < 4) ∧ ((0 ≤ x8 ∧ x8 < 4) ∧ (WP GM M_X9_dealt 58 [some (mr 0), some (mi x1), some (mi x2), some (mi x3), some (mi x4), some (mi x5), some (mi x6), some (mi (jadd x7 1)), none, none, none] [] (mupd σ 12 x8 (σ 14 x7)) Q))) : WP GM M_X9_dealt 133 [some (mr 0), some (mi x1), some (mi x2), some (mi x3), some (mi x4), some (mi x5), some (mi x6), some (mi x7), some (mi x8), none, none] [] σ Q := by
  refine WP.aload_n dX9_dealt_133 rfl ?_
  refine WP.getR fd_X9_47 dX9_dealt_134 k0 rfl ?_
  refine WP.iload dX9_dealt_137 rfl ?_
  refine WP.aload_n dX9_dealt_139 rfl ?_
  refine WP.getR fd_X9_53 dX9_dealt_140 k0 rfl ?_
  refine WP.iload dX9_dealt_143 rfl ?_
  obtain ⟨hi, h⟩ := h
  refine WP.iald dX9_dealt_145 k14 hi ?_
  obtain ⟨hi, h⟩ := h
  refine WP.iast dX9_dealt_146 k12 hi ?_
  refine WP.iinc (L2 := [some (mr 0), some (mi x1), some (mi x2), some (mi x3), some (mi x4), some (mi x5), some (mi x6), some (mi (jadd x7 1)), some (mi x8), none, none]) dX9_dealt_147 (by decide) rfl (by decide) rfl ?_
  refine WP.goto (tgt := 58) dX9_dealt_150 (by decide) ?_
  refine WP.drop 8 (L2 := [some (mr 0), some (mi x1), some (mi x2), some (mi x3), some (mi x4), some (mi x5), some (mi x6), some (mi (jadd x7 1)), none, none, none]) rfl ?_
  exact h
set_option maxRecDepth 100000 in
set_option maxHeartbeats 4000000 in
theorem b_X9_dealt_0_167 (x1 x2 x3 x4 x5 x6 x7 x8 : Int) {σ : Mem} {Q : Int → Mem → Prop} (h : (x8 = 0 → (0 ≤ x1 ∧ x1 < 4) ∧ (WP GM M_X9_dealt 288 [some (mr 0), some (mi x1), none, none, some (mi x4), some (mi x5), none, some (mi x7), none, some (mi 0), none] [] (mupd σ 2 x1 x6) Q)) ∧ (¬ x8 = 0 → WP GM M_X9_dealt 175 [some (mr 0), some (mi x1), some (mi x2), some (mi x3), some (mi x4), some (mi x5), some (mi x6), some (mi x7), none, some (mi 0), none] [] σ Q)) : WP GM M_X9_dealt 167 [some (mr 0), some (mi x1), some (mi x2), some (mi x3), some (mi x4), some (mi x5), some (mi x6), some (mi x7), some (mi x8), none, none] [] σ Q := by
  refine WP.iload dX9_dealt_167 rfl ?_
  refine WP.if_eq (tgt := 277) dX9_dealt_169 (by decide) (fun q => ?_) (fun q => ?_)
  · have h := h.1 q
    refine WP.aload_n dX9_dealt_277 rfl ?_
    refine WP.getR fd_X9_13 dX9_dealt_278 k0 rfl ?_
    refine WP.iload_n dX9_dealt_281 rfl ?_
    refine WP.iload dX9_dealt_282 rfl ?_
    obtain ⟨hi, h⟩ := h
    refine WP.iast dX9_dealt_284 k2 hi ?_
    refine WP.iconst dX9_dealt_285 (by decide) ?_
    refine WP.istore (L2 := [some (mr 0), some (mi x1), some (mi x2), some (mi x3), some (mi x4), some (mi x5), some (mi x6), some (mi x7), some (mi x8), some (mi 0), none]) dX9_dealt_286 (by decide) rfl ?_
    refine WP.drop 2 (L2 := [some (mr 0), some (mi x1), none, some (mi x3), some (mi x4), some (mi x5), some (mi x6), some (mi x7), some (mi x8), some (mi 0), none]) rfl ?_
    refine WP.drop 3 (L2 := [some (mr 0), some (mi x1), none, none, some (mi x4), some (mi x5), some (mi x6), some (mi x7), some (mi x8), some (mi 0), none]) rfl ?_
    refine WP.drop 6 (L2 := [some (mr 0), some (mi x1), none, none, some (mi x4), some (mi x5), none, some (mi x7), some (mi x8), some (mi 0), none]) rfl ?_
    refine WP.drop 8 (L2 := [some (mr 0), some (mi x1), none, none, some (mi x4), some (mi x5), none, some (mi x7), none, some (mi 0), none]) rfl ?_
    exact h
  · have h := h.2 q
    refine WP.iconst dX9_dealt_172 (by decide) ?_
    refine WP.istore (L2 := [some (mr 0), some (mi x1), some (mi x2), some (mi x3), some (mi x4), some (mi x5), some (mi x6), some (mi x7), some (mi x8), some (mi 0), none]) dX9_dealt_173 (by decide) rfl ?_
    refine WP.drop 8 (L2 := [some (mr 0), some (mi x1), some (mi x2), some (mi x3), some (mi x4), some (mi x5), some (mi x6), some (mi x7), none, some (mi 0), none]) rfl ?_
    exact h
set_option maxRecDepth 100000 in
set_option maxHeartbeats 4000000 in
theorem b_X9_dealt_0_175 (x1 x2 x3 x4 x5 x6 x7 x9 : Int) {σ : Mem} {Q : Int → Mem → Prop} (h : (x5 ≤ x9 → HT GM M_X9_findSoonest [mr 0, mi x2, mi x3, mi 0] σ (fun r210 σ210 => (r210 < 0 → WP GM M_X9_dealt 266 [some (mr 0), some (mi x1), some (mi x2), some (mi x3), some (mi x4), some (mi x5), some (mi x6), some (mi x7), none, none, none] [] σ210 Q) ∧ (¬ r210 < 0 → (x7 < 0 → WP GM M_X9_dealt 232 [some (mr 0), some (mi x1), some (mi x2), some (mi x3), some (mi x4), some (mi x5), some (mi x6), none, none, some (mi r210), none] [] σ210 Q) ∧ (¬ x7 < 0 → (x7 ≤ r210 → WP GM M_X9_dealt 266 [some (mr 0), some (mi x1), some (mi x2), some (mi x3), some (mi x4), some (mi x5), some (mi x6), some (mi x7), none, none, none] [] σ210 Q) ∧ (¬ x7 ≤ r210 → WP GM M_X9_dealt 232 [some (mr 0), some (mi x1), some (mi x2), some (mi x3), some (mi x4), some (mi x5), some (mi x6), none, none, some (mi r210), none] [] σ210 Q))))) ∧ (¬ x5 ≤ x9 → (0 ≤ x9 ∧ x9 < 4) ∧ ((0 ≤ jadd (jmul 4 x1) x9 ∧ jadd (jmul 4 x1) x9 < 16) ∧ (WP GM M_X9_dealt 175 [some (mr 0), some (mi x1), some (mi x2), some (mi x3), some (mi x4), some (mi x5), some (mi x6), some (mi x7), none, some (mi (jadd x9 1)), none] [] (mupd σ 4 (jadd (jmul 4 x1) x9) (σ 12 x9)) Q)))) : WP GM M_X9_dealt 175 [some (mr 0), some (mi x1), some (mi x2), some (mi x3), some (mi x4), some (mi x5), some (mi x6), some (mi x7), none, some (mi x9), none] [] σ Q := by
  refine WP.iload dX9_dealt_175 rfl ?_
  refine WP.iload dX9_dealt_177 rfl ?_
  refine WP.icmp_ge (tgt := 206) dX9_dealt_179 (by decide) (fun q => ?_) (fun q => ?_)
  · have h := h.1 q
    refine WP.aload_n dX9_dealt_206 rfl ?_
    refine WP.iload_n dX9_dealt_207 rfl ?_
    refine WP.iload_n dX9_dealt_208 rfl ?_
    refine WP.iconst dX9_dealt_209 (by decide) ?_
    refine WP.callV M_X9_findSoonest [mi x2, mi x3, mi 0] cv_X9_findSoonest dX9_dealt_210 lk_X9_234 k0 rfl ft_X9_dealt__X9_findSoonest rfl (Nat.le_of_ble_eq_true rfl) (HT.mono h ?_)
    rintro r210 σ210 - - h
    refine WP.istore (L2 := [some (mr 0), some (mi x1), some (mi x2), some (mi x3), some (mi x4), some (mi x5), some (mi x6), some (mi x7), none, some (mi r210), none]) dX9_dealt_213 (by decide) rfl ?_
    refine WP.iload dX9_dealt_215 rfl ?_
    refine WP.if_lt (tgt := 266) dX9_dealt_217 (by decide) (fun q => ?_) (fun q => ?_)
    · have h := h.1 q
      refine WP.drop 9 (L2 := [some (mr 0), some (mi x1), some (mi x2), some (mi x3), some (mi x4), some (mi x5), some (mi x6), some (mi x7), none, none, none]) rfl ?_
      exact h
    · have h := h.2 q
      refine WP.iload dX9_dealt_220 rfl ?_
      refine WP.if_lt (tgt := 232) dX9_dealt_222 (by decide) (fun q => ?_) (fun q => ?_)
      · have h := h.1 q
        refine WP.drop 7 (L2 := [some (mr 0), some (mi x1), some (mi x2), some (mi x3), some (mi x4), some (mi x5), some (mi x6), none, none, some (mi r210), none]) rfl ?_
        exact h
      · have h := h.2 q
        refine WP.iload dX9_dealt_225 rfl ?_
        refine WP.iload dX9_dealt_227 rfl ?_
        refine WP.icmp_ge (tgt := 266) dX9_dealt_229 (by decide) (fun q => ?_) (fun q => ?_)
        · have h := h.1 q
          refine WP.drop 9 (L2 := [some (mr 0), some (mi x1), some (mi x2), some (mi x3), some (mi x4), some (mi x5), some (mi x6), some (mi x7), none, none, none]) rfl ?_
          exact h
        · have h := h.2 q
          refine WP.drop 7 (L2 := [some (mr 0), some (mi x1), some (mi x2), some (mi x3), some (mi x4), some (mi x5), some (mi x6), none, none, some (mi r210), none]) rfl ?_
          exact h
  · have h := h.2 q
    refine WP.aload_n dX9_dealt_182 rfl ?_
    refine WP.getR fd_X9_19 dX9_dealt_183 k0 rfl ?_
    refine WP.iconst dX9_dealt_186 (by decide) ?_
    refine WP.iload_n dX9_dealt_187 rfl ?_
    refine WP.imul dX9_dealt_188 ?_
    refine WP.iload dX9_dealt_189 rfl ?_
    refine WP.iadd dX9_dealt_191 ?_
    refine WP.aload_n dX9_dealt_192 rfl ?_
    refine WP.getR fd_X9_47 dX9_dealt_193 k0 rfl ?_
    refine WP.iload dX9_dealt_196 rfl ?_
    obtain ⟨hi, h⟩ := h
    refine WP.iald dX9_dealt_198 k12 hi ?_
    obtain ⟨hi, h⟩ := h
    refine WP.iast dX9_dealt_199 k4 hi ?_
    refine WP.iinc (L2 := [some (mr 0), some (mi x1), some (mi x2), some (mi x3), some (mi x4), some (mi x5), some (mi x6), some (mi x7), none, some (mi (jadd x9 1)), none]) dX9_dealt_200 (by decide) rfl (by decide) rfl ?_
    refine WP.goto (tgt := 175) dX9_dealt_203 (by decide) ?_
    exact h
set_option maxRecDepth 100000 in
set_option maxHeartbeats 4000000 in
theorem b_X9_dealt_0_232 (x1 x2 x3 x4 x5 x6 x9 : Int) {σ : Mem} {Q : Int → Mem → Prop} (h : WP GM M_X9_dealt 239 [some (mr 0), some (mi x1), some (mi x2), some (mi x3), some (mi x4), some (mi x5), some (mi x6), some (mi x9), none, none, some (mi 0)] [] σ Q) : WP GM M_X9_dealt 232 [some (mr 0), some (mi x1), some (mi x2), some (mi x3), some (mi x4), some (mi x5), some (mi x6), none, none, some (mi x9), none] [] σ Q := by
  refine WP.iload dX9_dealt_232 rfl ?_
  refine WP.istore (L2 := [some (mr 0), some (mi x1), some (mi x2), some (mi x3), some (mi x4), some (mi x5), some (mi x6), some (mi x9), none, some (mi x9), none]) dX9_dealt_234 (by decide) rfl ?_
  refine WP.iconst dX9_dealt_236 (by decide) ?_
  refine WP.istore (L2 := [some (mr 0), some (mi x1), some (mi x2), some (mi x3), some (mi x4), some (mi x5), some (mi x6), some (mi x9), none, some (mi x9), some (mi 0)]) dX9_dealt_237 (by decide) rfl ?_
  refine WP.drop 9 (L2 := [some (mr 0), some (mi x1), some (mi x2), some (mi x3), some (mi x4), some (mi x5), some (mi x6), some (mi x9), none, none, some (mi 0)]) rfl ?_
  exact h
set_option maxRecDepth 100000 in
set_option maxHeartbeats 4000000 in
theorem b_X9_dealt_0_239 (x1 x2 x3 x4 x5 x6 x7 x10 : Int) {σ : Mem} {Q : Int → Mem → Prop} (h : (x5 ≤ x10 → WP GM M_X9_dealt 266 [some (mr 0), some (mi x1), some (mi x2), some (mi x3), some (mi x4), some (mi x5), some (mi x6), some (mi x7), none, none, none] [] σ Q) ∧ (¬ x5 ≤ x10 → (0 ≤ x10 ∧ x10 < 4) ∧ ((0 ≤ x10 ∧ x10 < 4) ∧ (WP GM M_X9_dealt 239 [some (mr 0), some (mi x1), some (mi x2), some (mi x3), some (mi x4), some (mi x5), some (mi x6), some (mi x7), none, none, some (mi (jadd x10 1))] [] (mupd σ 13 x10 (σ 12 x10)) Q)))) : WP GM M_X9_dealt 239 [some (mr 0), some (mi x1), some (mi x2), some (mi x3), some (mi x4), some (mi x5), some (mi x6), some (mi x7), none, none, some (mi x10)] [] σ Q := by
  refine WP.iload dX9_dealt_239 rfl ?_
  refine WP.iload dX9_dealt_241 rfl ?_
  refine WP.icmp_ge (tgt := 266) dX9_dealt_243 (by decide) (fun q => ?_) (fun q => ?_)
  · have h := h.1 q
    refine WP.drop 10 (L2 := [some (mr 0), some (mi x1), some (mi x2), some (mi x3), some (mi x4), some (mi x5), some (mi x6), some (mi x7), none, none, none]) rfl ?_
    exact h
  · have h := h.2 q
    refine WP.aload_n dX9_dealt_246 rfl ?_
    refine WP.getR fd_X9_50 dX9_dealt_247 k0 rfl ?_
    refine WP.iload dX9_dealt_250 rfl ?_
    refine WP.aload_n dX9_dealt_252 rfl ?_
    refine WP.getR fd_X9_47 dX9_dealt_253 k0 rfl ?_
    refine WP.iload dX9_dealt_256 rfl ?_
    obtain ⟨hi, h⟩ := h
    refine WP.iald dX9_dealt_258 k12 hi ?_
    obtain ⟨hi, h⟩ := h
    refine WP.iast dX9_dealt_259 k13 hi ?_
    refine WP.iinc (L2 := [some (mr 0), some (mi x1), some (mi x2), some (mi x3), some (mi x4), some (mi x5), some (mi x6), some (mi x7), none, none, some (mi (jadd x10 1))]) dX9_dealt_260 (by decide) rfl (by decide) rfl ?_
    refine WP.goto (tgt := 239) dX9_dealt_263 (by decide) ?_
    exact h
set_option maxRecDepth 100000 in
set_option maxHeartbeats 4000000 in
theorem b_X9_dealt_0_266 (x1 x2 x3 x4 x5 x6 x7 : Int) {σ : Mem} {Q : Int → Mem → Prop} (h : HT GM M_X9_nextOrder [mr 0, mi x5] σ (fun r269 σ269 => WP GM M_X9_dealt 167 [some (mr 0), some (mi x1), some (mi x2), some (mi x3), some (mi x4), some (mi x5), some (mi x6), some (mi x7), some (mi r269), none, none] [] σ269 Q)) : WP GM M_X9_dealt 266 [some (mr 0), some (mi x1), some (mi x2), some (mi x3), some (mi x4), some (mi x5), some (mi x6), some (mi x7), none, none, none] [] σ Q := by
  refine WP.aload_n dX9_dealt_266 rfl ?_
  refine WP.iload dX9_dealt_267 rfl ?_
  refine WP.callV M_X9_nextOrder [mi x5] cv_X9_nextOrder dX9_dealt_269 lk_X9_240 k0 rfl ft_X9_dealt__X9_nextOrder rfl (Nat.le_of_ble_eq_true rfl) (HT.mono h ?_)
  rintro r269 σ269 - - h
  refine WP.istore (L2 := [some (mr 0), some (mi x1), some (mi x2), some (mi x3), some (mi x4), some (mi x5), some (mi x6), some (mi x7), some (mi r269), none, none]) dX9_dealt_272 (by decide) rfl ?_
  refine WP.goto (tgt := 167) dX9_dealt_274 (by decide) ?_
  exact h
set_option maxRecDepth 100000 in
set_option maxHeartbeats 4000000 in
theorem b_X9_dealt_0_288 (x1 x4 x5 x7 x9 : Int) {σ : Mem} {Q : Int → Mem → Prop} (h : (x5 ≤ x9 → (0 ≤ x7 → (0 ≤ x4 → (x5 ≤ x4 → Q (-4) σ) ∧ (¬ x5 ≤ x4 → (0 ≤ x4 ∧ x4 < 4) ∧ (Q (σ 13 x4) σ))) ∧ (¬ 0 ≤ x4 → Q x7 σ)) ∧ (¬ 0 ≤ x7 → Q (-4) σ)) ∧ (¬ x5 ≤ x9 → (0 ≤ x9 ∧ x9 < 4) ∧ ((0 ≤ jadd (jmul 4 x1) x9 ∧ jadd (jmul 4 x1) x9 < 16) ∧ (WP GM M_X9_dealt 288 [some (mr 0), some (mi x1), none, none, some (mi x4), some (mi x5), none, some (mi x7), none, some (mi (jadd x9 1)), none] [] (mupd σ 4 (jadd (jmul 4 x1) x9) (σ 14 x9)) Q)))) : WP GM M_X9_dealt 288 [some (mr 0), some (mi x1), none, none, some (mi x4), some (mi x5), none, some (mi x7), none, some (mi x9), none] [] σ Q := by
  refine WP.iload dX9_dealt_288 rfl ?_
  refine WP.iload dX9_dealt_290 rfl ?_
  refine WP.icmp_ge (tgt := 319) dX9_dealt_292 (by decide) (fun q => ?_) (fun q => ?_)
  · have h := h.1 q
    refine WP.iload dX9_dealt_319 rfl ?_
    refine WP.if_ge (tgt := 329) dX9_dealt_321 (by decide) (fun q => ?_) (fun q => ?_)
    · have h := h.1 q
      refine WP.iload dX9_dealt_329 rfl ?_
      refine WP.if_ge (tgt := 339) dX9_dealt_331 (by decide) (fun q => ?_) (fun q => ?_)
      · have h := h.1 q
        refine WP.iload dX9_dealt_339 rfl ?_
        refine WP.iload dX9_dealt_341 rfl ?_
        refine WP.icmp_ge (tgt := 356) dX9_dealt_343 (by decide) (fun q => ?_) (fun q => ?_)
        · have h := h.1 q
          refine WP.bipush dX9_dealt_356 (by decide) bp_m4 ?_
          exact WP.iret rfl dX9_dealt_358 h
        · have h := h.2 q
          refine WP.aload_n dX9_dealt_346 rfl ?_
          refine WP.getR fd_X9_50 dX9_dealt_347 k0 rfl ?_
          refine WP.iload dX9_dealt_350 rfl ?_
          obtain ⟨hi, h⟩ := h
          refine WP.iald dX9_dealt_352 k13 hi ?_
          refine WP.goto (tgt := 358) dX9_dealt_353 (by decide) ?_
          exact WP.iret rfl dX9_dealt_358 h
      · have h := h.2 q
        refine WP.iload dX9_dealt_334 rfl ?_
        refine WP.goto (tgt := 358) dX9_dealt_336 (by decide) ?_
        exact WP.iret rfl dX9_dealt_358 h
    · have h := h.2 q
      refine WP.bipush dX9_dealt_324 (by decide) bp_m4 ?_
      refine WP.goto (tgt := 358) dX9_dealt_326 (by decide) ?_
      exact WP.iret rfl dX9_dealt_358 h
  · have h := h.2 q
    refine WP.aload_n dX9_dealt_295 rfl ?_
    refine WP.getR fd_X9_19 dX9_dealt_296 k0 rfl ?_
    refine WP.iconst dX9_dealt_299 (by decide) ?_
    refine WP.iload_n dX9_dealt_300 rfl ?_
    refine WP.imul dX9_dealt_301 ?_
    refine WP.iload dX9_dealt_302 rfl ?_
    refine WP.iadd dX9_dealt_304 ?_
    refine WP.aload_n dX9_dealt_305 rfl ?_
    refine WP.getR fd_X9_53 dX9_dealt_306 k0 rfl ?_
    refine WP.iload dX9_dealt_309 rfl ?_
    obtain ⟨hi, h⟩ := h
    refine WP.iald dX9_dealt_311 k14 hi ?_
    obtain ⟨hi, h⟩ := h
    refine WP.iast dX9_dealt_312 k4 hi ?_
    refine WP.iinc (L2 := [some (mr 0), some (mi x1), none, none, some (mi x4), some (mi x5), none, some (mi x7), none, some (mi (jadd x9 1)), none]) dX9_dealt_313 (by decide) rfl (by decide) rfl ?_
    refine WP.goto (tgt := 288) dX9_dealt_316 (by decide) ?_
    exact h
theorem dX9_wore_0 : decode cX9_wore 0 = .ok (.aload_n 0, 1) := by decide +kernel
theorem dX9_wore_1 : decode cX9_wore 1 = .ok (.iload_n 1, 1) := by decide +kernel
theorem dX9_wore_2 : decode cX9_wore 2 = .ok (.invokevirtual 109, 3) := by decide +kernel
theorem dX9_wore_5 : decode cX9_wore 5 = .ok (.ifCond .eq 15, 3) := by decide +kernel
theorem dX9_wore_8 : decode cX9_wore 8 = .ok (.iload_n 2, 1) := by decide +kernel
theorem dX9_wore_9 : decode cX9_wore 9 = .ok (.i2l, 1) := by decide +kernel
theorem dX9_wore_10 : decode cX9_wore 10 = .ok (.lconst 0, 1) := by decide +kernel
theorem dX9_wore_11 : decode cX9_wore 11 = .ok (.ldc2_w 219, 3) := by decide +kernel
theorem dX9_wore_14 : decode cX9_wore 14 = .ok (.invokestatic 82, 3) := by decide +kernel
theorem dX9_wore_17 : decode cX9_wore 17 = .ok (.ifCond .ne 5, 3) := by decide +kernel
theorem dX9_wore_20 : decode cX9_wore 20 = .ok (.iconst (-1), 1) := by decide +kernel
theorem dX9_wore_21 : decode cX9_wore 21 = .ok (.ireturn, 1) := by decide +kernel
theorem dX9_wore_22 : decode cX9_wore 22 = .ok (.iconst 0, 1) := by decide +kernel
theorem dX9_wore_23 : decode cX9_wore 23 = .ok (.istore_n 3, 1) := by decide +kernel
theorem dX9_wore_24 : decode cX9_wore 24 = .ok (.iconst 0, 1) := by decide +kernel
theorem dX9_wore_25 : decode cX9_wore 25 = .ok (.istore 4, 2) := by decide +kernel
theorem dX9_wore_27 : decode cX9_wore 27 = .ok (.iload 4, 2) := by decide +kernel
theorem dX9_wore_29 : decode cX9_wore 29 = .ok (.iload_n 2, 1) := by decide +kernel
theorem dX9_wore_30 : decode cX9_wore 30 = .ok (.if_icmp .gt 31, 3) := by decide +kernel
theorem dX9_wore_33 : decode cX9_wore 33 = .ok (.iload_n 3, 1) := by decide +kernel
theorem dX9_wore_34 : decode cX9_wore 34 = .ok (.iconst 1, 1) := by decide +kernel
theorem dX9_wore_35 : decode cX9_wore 35 = .ok (.aload_n 0, 1) := by decide +kernel
theorem dX9_wore_36 : decode cX9_wore 36 = .ok (.iload_n 1, 1) := by decide +kernel
theorem dX9_wore_37 : decode cX9_wore 37 = .ok (.bipush 24, 2) := by decide +kernel
theorem dX9_wore_39 : decode cX9_wore 39 = .ok (.aload_n 0, 1) := by decide +kernel
theorem dX9_wore_40 : decode cX9_wore 40 = .ok (.getfield 7, 3) := by decide +kernel
theorem dX9_wore_43 : decode cX9_wore 43 = .ok (.iload_n 1, 1) := by decide +kernel
theorem dX9_wore_44 : decode cX9_wore 44 = .ok (.iaload, 1) := by decide +kernel
theorem dX9_wore_45 : decode cX9_wore 45 = .ok (.imul, 1) := by decide +kernel
theorem dX9_wore_46 : decode cX9_wore 46 = .ok (.iload 4, 2) := by decide +kernel
theorem dX9_wore_48 : decode cX9_wore 48 = .ok (.isub, 1) := by decide +kernel
theorem dX9_wore_49 : decode cX9_wore 49 = .ok (.invokevirtual 114, 3) := by decide +kernel
theorem dX9_wore_52 : decode cX9_wore 52 = .ok (.ishl, 1) := by decide +kernel
theorem dX9_wore_53 : decode cX9_wore 53 = .ok (.ior, 1) := by decide +kernel
theorem dX9_wore_54 : decode cX9_wore 54 = .ok (.istore_n 3, 1) := by decide +kernel
theorem dX9_wore_55 : decode cX9_wore 55 = .ok (.iinc 4 1, 3) := by decide +kernel
theorem dX9_wore_58 : decode cX9_wore 58 = .ok (.goto (-31), 3) := by decide +kernel
theorem dX9_wore_61 : decode cX9_wore 61 = .ok (.iload_n 3, 1) := by decide +kernel
theorem dX9_wore_62 : decode cX9_wore 62 = .ok (.ireturn, 1) := by decide +kernel
set_option maxRecDepth 100000 in
set_option maxHeartbeats 4000000 in
theorem e_X9_wore_0 (x1 x2 : Int) {σ : Mem} {Q : Int → Mem → Prop} (h : HT GM M_X9_isCoat [mr 0, mi x1] σ (fun r2 σ2 => (r2 = 0 → Q (-1) σ2) ∧ (¬ r2 = 0 → HT GM M_X9_in [ml x2, ml 0, ml 24] σ2 (fun r14 σ14 => (¬ r14 = 0 → WP GM M_X9_wore 27 [some (mr 0), some (mi x1), some (mi x2), some (mi 0), some (mi 0)] [] σ14 Q) ∧ (r14 = 0 → Q (-1) σ14))))) : HT GM M_X9_wore [mr 0, mi x1, mi x2] σ Q := by
  refine HT.of pn_X9 (Nat.le_of_ble_eq_true rfl) ?_
  show WP GM M_X9_wore 0 [some (mr 0), some (mi x1), some (mi x2), none, none] [] σ Q
  refine WP.aload_n dX9_wore_0 rfl ?_
  refine WP.iload_n dX9_wore_1 rfl ?_
  refine WP.callV M_X9_isCoat [mi x1] cv_X9_isCoat dX9_wore_2 lk_X9_109 k0 rfl ft_X9_wore__X9_isCoat rfl (Nat.le_of_ble_eq_true rfl) (HT.mono h ?_)
  rintro r2 σ2 - - h
  refine WP.if_eq (tgt := 20) dX9_wore_5 (by decide) (fun q => ?_) (fun q => ?_)
  · have h := h.1 q
    refine WP.iconst dX9_wore_20 (by decide) ?_
    exact WP.iret rfl dX9_wore_21 h
  · have h := h.2 q
    refine WP.iload_n dX9_wore_8 rfl ?_
    refine WP.i2l dX9_wore_9 ?_
    refine WP.lconst (x := 0) dX9_wore_10 (by decide) rfl ?_
    refine WP.ldc2 (x := 24) dX9_wore_11 ct_X9_219 (by decide) (by decide) ?_
    refine WP.callS M_X9_in [ml x2, ml 0, ml 24] cs_X9_in dX9_wore_14 lk_X9_82 ft_X9_wore__X9_in rfl (Nat.le_of_ble_eq_true rfl) (HT.mono h ?_)
    rintro r14 σ14 - - h
    refine WP.if_ne (tgt := 22) dX9_wore_17 (by decide) (fun q => ?_) (fun q => ?_)
    · have h := h.1 q
      refine WP.iconst dX9_wore_22 (by decide) ?_
      refine WP.istore_n (L2 := [some (mr 0), some (mi x1), some (mi x2), some (mi 0), none]) dX9_wore_23 (by decide) rfl ?_
      refine WP.iconst dX9_wore_24 (by decide) ?_
      refine WP.istore (L2 := [some (mr 0), some (mi x1), some (mi x2), some (mi 0), some (mi 0)]) dX9_wore_25 (by decide) rfl ?_
      exact h
    · have h := h.2 q
      refine WP.iconst dX9_wore_20 (by decide) ?_
      exact WP.iret rfl dX9_wore_21 h
set_option maxRecDepth 100000 in
set_option maxHeartbeats 4000000 in
theorem b_X9_wore_0_27 (x1 x2 x3 x4 : Int) {σ : Mem} {Q : Int → Mem → Prop} (h : (x2 < x4 → Q x3 σ) ∧ (¬ x2 < x4 → (0 ≤ x1 ∧ x1 < 4) ∧ (HT GM M_X9_wearer [mr 0, mi x1, mi (jsub (jmul 24 (σ 1 x1)) x4)] σ (fun r49 σ49 => WP GM M_X9_wore 27 [some (mr 0), some (mi x1), some (mi x2), some (mi (jor x3 (jshl 1 r49))), some (mi (jadd x4 1))] [] σ49 Q)))) : WP GM M_X9_wore 27 [some (mr 0), some (mi x1), some (mi x2), some (mi x3), some (mi x4)] [] σ Q := by
  refine WP.iload dX9_wore_27 rfl ?_
  refine WP.iload_n dX9_wore_29 rfl ?_
  refine WP.icmp_gt (tgt := 61) dX9_wore_30 (by decide) (fun q => ?_) (fun q => ?_)
  · have h := h.1 q
    refine WP.iload_n dX9_wore_61 rfl ?_
    exact WP.iret rfl dX9_wore_62 h
  · have h := h.2 q
    refine WP.iload_n dX9_wore_33 rfl ?_
    refine WP.iconst dX9_wore_34 (by decide) ?_
    refine WP.aload_n dX9_wore_35 rfl ?_
    refine WP.iload_n dX9_wore_36 rfl ?_
    refine WP.bipush dX9_wore_37 (by decide) bp_24 ?_
    refine WP.aload_n dX9_wore_39 rfl ?_
    refine WP.getR fd_X9_7 dX9_wore_40 k0 rfl ?_
    refine WP.iload_n dX9_wore_43 rfl ?_
    obtain ⟨hi, h⟩ := h
    refine WP.iald dX9_wore_44 k1 hi ?_
    refine WP.imul dX9_wore_45 ?_
    refine WP.iload dX9_wore_46 rfl ?_
    refine WP.isub dX9_wore_48 ?_
    refine WP.callV M_X9_wearer [mi x1, mi (jsub (jmul 24 (σ 1 x1)) x4)] cv_X9_wearer dX9_wore_49 lk_X9_114 k0 rfl ft_X9_wore__X9_wearer rfl (Nat.le_of_ble_eq_true rfl) (HT.mono h ?_)
    rintro r49 σ49 - - h
    refine WP.ishl dX9_wore_52 ?_
    refine WP.ior dX9_wore_53 ?_
    refine WP.istore_n (L2 := [some (mr 0), some (mi x1), some (mi x2), some (mi (jor x3 (jshl 1 r49))), some (mi x4)]) dX9_wore_54 (by decide) rfl ?_
    refine WP.iinc (L2 := [some (mr 0), some (mi x1), some (mi x2), some (mi (jor x3 (jshl 1 r49))), some (mi (jadd x4 1))]) dX9_wore_55 (by decide) rfl (by decide) rfl ?_
    refine WP.goto (tgt := 27) dX9_wore_58 (by decide) ?_
    exact h
theorem dX9_areTwo_0 : decode cX9_areTwo 0 = .ok (.iload_n 0, 1) := by decide +kernel
theorem dX9_areTwo_1 : decode cX9_areTwo 1 = .ok (.invokestatic 100, 3) := by decide +kernel
theorem dX9_areTwo_4 : decode cX9_areTwo 4 = .ok (.ifCond .eq 19, 3) := by decide +kernel
theorem dX9_areTwo_7 : decode cX9_areTwo 7 = .ok (.iload_n 1, 1) := by decide +kernel
theorem dX9_areTwo_8 : decode cX9_areTwo 8 = .ok (.invokestatic 100, 3) := by decide +kernel
theorem dX9_areTwo_11 : decode cX9_areTwo 11 = .ok (.ifCond .eq 12, 3) := by decide +kernel
theorem dX9_areTwo_14 : decode cX9_areTwo 14 = .ok (.iload_n 0, 1) := by decide +kernel
theorem dX9_areTwo_15 : decode cX9_areTwo 15 = .ok (.iload_n 1, 1) := by decide +kernel
theorem dX9_areTwo_16 : decode cX9_areTwo 16 = .ok (.if_icmp .eq 7, 3) := by decide +kernel
theorem dX9_areTwo_19 : decode cX9_areTwo 19 = .ok (.iconst 1, 1) := by decide +kernel
theorem dX9_areTwo_20 : decode cX9_areTwo 20 = .ok (.goto 4, 3) := by decide +kernel
theorem dX9_areTwo_23 : decode cX9_areTwo 23 = .ok (.iconst 0, 1) := by decide +kernel
theorem dX9_areTwo_24 : decode cX9_areTwo 24 = .ok (.ireturn, 1) := by decide +kernel
set_option maxRecDepth 100000 in
set_option maxHeartbeats 4000000 in
theorem e_X9_areTwo (x0 x1 : Int) {σ : Mem} {Q : Int → Mem → Prop} (h : HT GM M_X9_isBoy [mi x0] σ (fun r1 σ1 => (r1 = 0 → Q 0 σ1) ∧ (¬ r1 = 0 → HT GM M_X9_isBoy [mi x1] σ1 (fun r8 σ8 => (r8 = 0 → Q 0 σ8) ∧ (¬ r8 = 0 → (x0 = x1 → Q 0 σ8) ∧ (¬ x0 = x1 → Q 1 σ8)))))) : HT GM M_X9_areTwo [mi x0, mi x1] σ Q := by
  refine HT.of pn_X9 (Nat.le_of_ble_eq_true rfl) ?_
  show WP GM M_X9_areTwo 0 [some (mi x0), some (mi x1)] [] σ Q
  refine WP.iload_n dX9_areTwo_0 rfl ?_
  refine WP.callS M_X9_isBoy [mi x0] cs_X9_isBoy dX9_areTwo_1 lk_X9_100 ft_X9_areTwo__X9_isBoy rfl (Nat.le_of_ble_eq_true rfl) (HT.mono h ?_)
  rintro r1 σ1 - - h
  refine WP.if_eq (tgt := 23) dX9_areTwo_4 (by decide) (fun q => ?_) (fun q => ?_)
  · have h := h.1 q
    refine WP.iconst dX9_areTwo_23 (by decide) ?_
    exact WP.zret rfl dX9_areTwo_24 (by decide) h
  · have h := h.2 q
    refine WP.iload_n dX9_areTwo_7 rfl ?_
    refine WP.callS M_X9_isBoy [mi x1] cs_X9_isBoy dX9_areTwo_8 lk_X9_100 ft_X9_areTwo__X9_isBoy rfl (Nat.le_of_ble_eq_true rfl) (HT.mono h ?_)
    rintro r8 σ8 - - h
    refine WP.if_eq (tgt := 23) dX9_areTwo_11 (by decide) (fun q => ?_) (fun q => ?_)
    · have h := h.1 q
      refine WP.iconst dX9_areTwo_23 (by decide) ?_
      exact WP.zret rfl dX9_areTwo_24 (by decide) h
    · have h := h.2 q
      refine WP.iload_n dX9_areTwo_14 rfl ?_
      refine WP.iload_n dX9_areTwo_15 rfl ?_
      refine WP.icmp_eq (tgt := 23) dX9_areTwo_16 (by decide) (fun q => ?_) (fun q => ?_)
      · have h := h.1 q
        refine WP.iconst dX9_areTwo_23 (by decide) ?_
        exact WP.zret rfl dX9_areTwo_24 (by decide) h
      · have h := h.2 q
        refine WP.iconst dX9_areTwo_19 (by decide) ?_
        refine WP.goto (tgt := 24) dX9_areTwo_20 (by decide) ?_
        exact WP.zret rfl dX9_areTwo_24 (by decide) h
theorem dX9_owe_0 : decode cX9_owe 0 = .ok (.iload_n 1, 1) := by decide +kernel
theorem dX9_owe_1 : decode cX9_owe 1 = .ok (.iload_n 2, 1) := by decide +kernel
theorem dX9_owe_2 : decode cX9_owe 2 = .ok (.invokestatic 243, 3) := by decide +kernel
theorem dX9_owe_5 : decode cX9_owe 5 = .ok (.ifCond .eq 15, 3) := by decide +kernel
theorem dX9_owe_8 : decode cX9_owe 8 = .ok (.iload_n 3, 1) := by decide +kernel
theorem dX9_owe_9 : decode cX9_owe 9 = .ok (.i2l, 1) := by decide +kernel
theorem dX9_owe_10 : decode cX9_owe 10 = .ok (.lconst 0, 1) := by decide +kernel
theorem dX9_owe_11 : decode cX9_owe 11 = .ok (.ldc2_w 246, 3) := by decide +kernel
theorem dX9_owe_14 : decode cX9_owe 14 = .ok (.invokestatic 82, 3) := by decide +kernel
theorem dX9_owe_17 : decode cX9_owe 17 = .ok (.ifCond .ne 5, 3) := by decide +kernel
theorem dX9_owe_20 : decode cX9_owe 20 = .ok (.iconst (-1), 1) := by decide +kernel
theorem dX9_owe_21 : decode cX9_owe 21 = .ok (.ireturn, 1) := by decide +kernel
theorem dX9_owe_22 : decode cX9_owe 22 = .ok (.aload_n 0, 1) := by decide +kernel
theorem dX9_owe_23 : decode cX9_owe 23 = .ok (.getfield 34, 3) := by decide +kernel
theorem dX9_owe_26 : decode cX9_owe 26 = .ok (.bipush 8, 2) := by decide +kernel
theorem dX9_owe_28 : decode cX9_owe 28 = .ok (.iload_n 1, 1) := by decide +kernel
theorem dX9_owe_29 : decode cX9_owe 29 = .ok (.imul, 1) := by decide +kernel
theorem dX9_owe_30 : decode cX9_owe 30 = .ok (.iload_n 2, 1) := by decide +kernel
theorem dX9_owe_31 : decode cX9_owe 31 = .ok (.iadd, 1) := by decide +kernel
theorem dX9_owe_32 : decode cX9_owe 32 = .ok (.iaload, 1) := by decide +kernel
theorem dX9_owe_33 : decode cX9_owe 33 = .ok (.istore 4, 2) := by decide +kernel
theorem dX9_owe_35 : decode cX9_owe 35 = .ok (.aload_n 0, 1) := by decide +kernel
theorem dX9_owe_36 : decode cX9_owe 36 = .ok (.getfield 34, 3) := by decide +kernel
theorem dX9_owe_39 : decode cX9_owe 39 = .ok (.bipush 8, 2) := by decide +kernel
theorem dX9_owe_41 : decode cX9_owe 41 = .ok (.iload_n 1, 1) := by decide +kernel
theorem dX9_owe_42 : decode cX9_owe 42 = .ok (.imul, 1) := by decide +kernel
theorem dX9_owe_43 : decode cX9_owe 43 = .ok (.iload_n 2, 1) := by decide +kernel
theorem dX9_owe_44 : decode cX9_owe 44 = .ok (.iadd, 1) := by decide +kernel
theorem dX9_owe_45 : decode cX9_owe 45 = .ok (.iload_n 3, 1) := by decide +kernel
theorem dX9_owe_46 : decode cX9_owe 46 = .ok (.iastore, 1) := by decide +kernel
theorem dX9_owe_47 : decode cX9_owe 47 = .ok (.iload 4, 2) := by decide +kernel
theorem dX9_owe_49 : decode cX9_owe 49 = .ok (.ireturn, 1) := by decide +kernel
set_option maxRecDepth 100000 in
set_option maxHeartbeats 4000000 in
theorem e_X9_owe_0 (x1 x2 x3 : Int) {σ : Mem} {Q : Int → Mem → Prop} (h : HT GM M_X9_areTwo [mi x1, mi x2] σ (fun r2 σ2 => (r2 = 0 → Q (-1) σ2) ∧ (¬ r2 = 0 → HT GM M_X9_in [ml x3, ml 0, ml 999] σ2 (fun r14 σ14 => (¬ r14 = 0 → (0 ≤ jadd (jmul 8 x1) x2 ∧ jadd (jmul 8 x1) x2 < 64) ∧ ((0 ≤ jadd (jmul 8 x1) x2 ∧ jadd (jmul 8 x1) x2 < 64) ∧ (Q (σ14 9 (jadd (jmul 8 x1) x2)) (mupd σ14 9 (jadd (jmul 8 x1) x2) x3)))) ∧ (r14 = 0 → Q (-1) σ14))))) : HT GM M_X9_owe [mr 0, mi x1, mi x2, mi x3] σ Q := by
  refine HT.of pn_X9 (Nat.le_of_ble_eq_true rfl) ?_
  show WP GM M_X9_owe 0 [some (mr 0), some (mi x1), some (mi x2), some (mi x3), none] [] σ Q
  refine WP.iload_n dX9_owe_0 rfl ?_
  refine WP.iload_n dX9_owe_1 rfl ?_
  refine WP.callS M_X9_areTwo [mi x1, mi x2] cs_X9_areTwo dX9_owe_2 lk_X9_243 ft_X9_owe__X9_areTwo rfl (Nat.le_of_ble_eq_true rfl) (HT.mono h ?_)
  rintro r2 σ2 - - h
  refine WP.if_eq (tgt := 20) dX9_owe_5 (by decide) (fun q => ?_) (fun q => ?_)
  · have h := h.1 q
    refine WP.iconst dX9_owe_20 (by decide) ?_
    exact WP.iret rfl dX9_owe_21 h
  · have h := h.2 q
    refine WP.iload_n dX9_owe_8 rfl ?_
    refine WP.i2l dX9_owe_9 ?_
    refine WP.lconst (x := 0) dX9_owe_10 (by decide) rfl ?_
    refine WP.ldc2 (x := 999) dX9_owe_11 ct_X9_246 (by decide) (by decide) ?_
    refine WP.callS M_X9_in [ml x3, ml 0, ml 999] cs_X9_in dX9_owe_14 lk_X9_82 ft_X9_owe__X9_in rfl (Nat.le_of_ble_eq_true rfl) (HT.mono h ?_)
    rintro r14 σ14 - - h
    refine WP.if_ne (tgt := 22) dX9_owe_17 (by decide) (fun q => ?_) (fun q => ?_)
    · have h := h.1 q
      refine WP.aload_n dX9_owe_22 rfl ?_
      refine WP.getR fd_X9_34 dX9_owe_23 k0 rfl ?_
      refine WP.bipush dX9_owe_26 (by decide) bp_8 ?_
      refine WP.iload_n dX9_owe_28 rfl ?_
      refine WP.imul dX9_owe_29 ?_
      refine WP.iload_n dX9_owe_30 rfl ?_
      refine WP.iadd dX9_owe_31 ?_
      obtain ⟨hi, h⟩ := h
      refine WP.iald dX9_owe_32 k9 hi ?_
      refine WP.istore (L2 := [some (mr 0), some (mi x1), some (mi x2), some (mi x3), some (mi (σ14 9 (jadd (jmul 8 x1) x2)))]) dX9_owe_33 (by decide) rfl ?_
      refine WP.aload_n dX9_owe_35 rfl ?_
      refine WP.getR fd_X9_34 dX9_owe_36 k0 rfl ?_
      refine WP.bipush dX9_owe_39 (by decide) bp_8 ?_
      refine WP.iload_n dX9_owe_41 rfl ?_
      refine WP.imul dX9_owe_42 ?_
      refine WP.iload_n dX9_owe_43 rfl ?_
      refine WP.iadd dX9_owe_44 ?_
      refine WP.iload_n dX9_owe_45 rfl ?_
      obtain ⟨hi, h⟩ := h
      refine WP.iast dX9_owe_46 k9 hi ?_
      refine WP.iload dX9_owe_47 rfl ?_
      exact WP.iret rfl dX9_owe_49 h
    · have h := h.2 q
      refine WP.iconst dX9_owe_20 (by decide) ?_
      exact WP.iret rfl dX9_owe_21 h
theorem dX9_balanceOf_0 : decode cX9_balanceOf 0 = .ok (.iconst 0, 1) := by decide +kernel
theorem dX9_balanceOf_1 : decode cX9_balanceOf 1 = .ok (.istore_n 2, 1) := by decide +kernel
theorem dX9_balanceOf_2 : decode cX9_balanceOf 2 = .ok (.iconst 0, 1) := by decide +kernel
theorem dX9_balanceOf_3 : decode cX9_balanceOf 3 = .ok (.istore_n 3, 1) := by decide +kernel
theorem dX9_balanceOf_4 : decode cX9_balanceOf 4 = .ok (.iload_n 3, 1) := by decide +kernel
theorem dX9_balanceOf_5 : decode cX9_balanceOf 5 = .ok (.bipush 8, 2) := by decide +kernel
theorem dX9_balanceOf_7 : decode cX9_balanceOf 7 = .ok (.if_icmp .ge 35, 3) := by decide +kernel
theorem dX9_balanceOf_10 : decode cX9_balanceOf 10 = .ok (.iload_n 2, 1) := by decide +kernel
theorem dX9_balanceOf_11 : decode cX9_balanceOf 11 = .ok (.aload_n 0, 1) := by decide +kernel
theorem dX9_balanceOf_12 : decode cX9_balanceOf 12 = .ok (.getfield 34, 3) := by decide +kernel
theorem dX9_balanceOf_15 : decode cX9_balanceOf 15 = .ok (.bipush 8, 2) := by decide +kernel
theorem dX9_balanceOf_17 : decode cX9_balanceOf 17 = .ok (.iload_n 3, 1) := by decide +kernel
theorem dX9_balanceOf_18 : decode cX9_balanceOf 18 = .ok (.imul, 1) := by decide +kernel
theorem dX9_balanceOf_19 : decode cX9_balanceOf 19 = .ok (.iload_n 1, 1) := by decide +kernel
theorem dX9_balanceOf_20 : decode cX9_balanceOf 20 = .ok (.iadd, 1) := by decide +kernel
theorem dX9_balanceOf_21 : decode cX9_balanceOf 21 = .ok (.iaload, 1) := by decide +kernel
theorem dX9_balanceOf_22 : decode cX9_balanceOf 22 = .ok (.aload_n 0, 1) := by decide +kernel
theorem dX9_balanceOf_23 : decode cX9_balanceOf 23 = .ok (.getfield 34, 3) := by decide +kernel
theorem dX9_balanceOf_26 : decode cX9_balanceOf 26 = .ok (.bipush 8, 2) := by decide +kernel
theorem dX9_balanceOf_28 : decode cX9_balanceOf 28 = .ok (.iload_n 1, 1) := by decide +kernel
theorem dX9_balanceOf_29 : decode cX9_balanceOf 29 = .ok (.imul, 1) := by decide +kernel
theorem dX9_balanceOf_30 : decode cX9_balanceOf 30 = .ok (.iload_n 3, 1) := by decide +kernel
theorem dX9_balanceOf_31 : decode cX9_balanceOf 31 = .ok (.iadd, 1) := by decide +kernel
theorem dX9_balanceOf_32 : decode cX9_balanceOf 32 = .ok (.iaload, 1) := by decide +kernel
theorem dX9_balanceOf_33 : decode cX9_balanceOf 33 = .ok (.isub, 1) := by decide +kernel
theorem dX9_balanceOf_34 : decode cX9_balanceOf 34 = .ok (.iadd, 1) := by decide +kernel
theorem dX9_balanceOf_35 : decode cX9_balanceOf 35 = .ok (.istore_n 2, 1) := by decide +kernel
theorem dX9_balanceOf_36 : decode cX9_balanceOf 36 = .ok (.iinc 3 1, 3) := by decide +kernel
theorem dX9_balanceOf_39 : decode cX9_balanceOf 39 = .ok (.goto (-35), 3) := by decide +kernel
theorem dX9_balanceOf_42 : decode cX9_balanceOf 42 = .ok (.iload_n 2, 1) := by decide +kernel
theorem dX9_balanceOf_43 : decode cX9_balanceOf 43 = .ok (.ireturn, 1) := by decide +kernel
set_option maxRecDepth 100000 in
set_option maxHeartbeats 4000000 in
theorem e_X9_balanceOf_0 (x1 : Int) {σ : Mem} {Q : Int → Mem → Prop} (h : WP GM M_X9_balanceOf 4 [some (mr 0), some (mi x1), some (mi 0), some (mi 0)] [] σ Q) : HT GM M_X9_balanceOf [mr 0, mi x1] σ Q := by
  refine HT.of pn_X9 (Nat.le_of_ble_eq_true rfl) ?_
  show WP GM M_X9_balanceOf 0 [some (mr 0), some (mi x1), none, none] [] σ Q
  refine WP.iconst dX9_balanceOf_0 (by decide) ?_
  refine WP.istore_n (L2 := [some (mr 0), some (mi x1), some (mi 0), none]) dX9_balanceOf_1 (by decide) rfl ?_
  refine WP.iconst dX9_balanceOf_2 (by decide) ?_
  refine WP.istore_n (L2 := [some (mr 0), some (mi x1), some (mi 0), some (mi 0)]) dX9_balanceOf_3 (by decide) rfl ?_
  exact h
set_option maxRecDepth 100000 in
set_option maxHeartbeats 4000000 in
theorem b_X9_balanceOf_0_4 (x1 x2 x3 : Int) {σ : Mem} {Q : Int → Mem → Prop} (h : (8 ≤ x3 → Q x2 σ) ∧ (¬ 8 ≤ x3 → (0 ≤ jadd (jmul 8 x3) x1 ∧ jadd (jmul 8 x3) x1 < 64) ∧ ((0 ≤ jadd (jmul 8 x1) x3 ∧ jadd (jmul 8 x1) x3 < 64) ∧ (WP GM M_X9_balanceOf 4 [some (mr 0), some (mi x1), some (mi (jadd x2 (jsub (σ 9 (jadd (jmul 8 x3) x1)) (σ 9 (jadd (jmul 8 x1) x3))))), some (mi (jadd x3 1))] [] σ Q)))) : WP GM M_X9_balanceOf 4 [some (mr 0), some (mi x1), some (mi x2), some (mi x3)] [] σ Q := by
  refine WP.iload_n dX9_balanceOf_4 rfl ?_
  refine WP.bipush dX9_balanceOf_5 (by decide) bp_8 ?_
  refine WP.icmp_ge (tgt := 42) dX9_balanceOf_7 (by decide) (fun q => ?_) (fun q => ?_)
  · have h := h.1 q
    refine WP.iload_n dX9_balanceOf_42 rfl ?_
    exact WP.iret rfl dX9_balanceOf_43 h
  · have h := h.2 q
    refine WP.iload_n dX9_balanceOf_10 rfl ?_
    refine WP.aload_n dX9_balanceOf_11 rfl ?_
    refine WP.getR fd_X9_34 dX9_balanceOf_12 k0 rfl ?_
    refine WP.bipush dX9_balanceOf_15 (by decide) bp_8 ?_
    refine WP.iload_n dX9_balanceOf_17 rfl ?_
    refine WP.imul dX9_balanceOf_18 ?_
    refine WP.iload_n dX9_balanceOf_19 rfl ?_
    refine WP.iadd dX9_balanceOf_20 ?_
    obtain ⟨hi, h⟩ := h
    refine WP.iald dX9_balanceOf_21 k9 hi ?_
    refine WP.aload_n dX9_balanceOf_22 rfl ?_
    refine WP.getR fd_X9_34 dX9_balanceOf_23 k0 rfl ?_
    refine WP.bipush dX9_balanceOf_26 (by decide) bp_8 ?_
    refine WP.iload_n dX9_balanceOf_28 rfl ?_
    refine WP.imul dX9_balanceOf_29 ?_
    refine WP.iload_n dX9_balanceOf_30 rfl ?_
    refine WP.iadd dX9_balanceOf_31 ?_
    obtain ⟨hi, h⟩ := h
    refine WP.iald dX9_balanceOf_32 k9 hi ?_
    refine WP.isub dX9_balanceOf_33 ?_
    refine WP.iadd dX9_balanceOf_34 ?_
    refine WP.istore_n (L2 := [some (mr 0), some (mi x1), some (mi (jadd x2 (jsub (σ 9 (jadd (jmul 8 x3) x1)) (σ 9 (jadd (jmul 8 x1) x3))))), some (mi x3)]) dX9_balanceOf_35 (by decide) rfl ?_
    refine WP.iinc (L2 := [some (mr 0), some (mi x1), some (mi (jadd x2 (jsub (σ 9 (jadd (jmul 8 x3) x1)) (σ 9 (jadd (jmul 8 x1) x3))))), some (mi (jadd x3 1))]) dX9_balanceOf_36 (by decide) rfl (by decide) rfl ?_
    refine WP.goto (tgt := 4) dX9_balanceOf_39 (by decide) ?_
    exact h
theorem dX9_balance_0 : decode cX9_balance 0 = .ok (.iload_n 1, 1) := by decide +kernel
theorem dX9_balance_1 : decode cX9_balance 1 = .ok (.invokestatic 100, 3) := by decide +kernel
theorem dX9_balance_4 : decode cX9_balance 4 = .ok (.ifCond .eq 11, 3) := by decide +kernel
theorem dX9_balance_7 : decode cX9_balance 7 = .ok (.aload_n 0, 1) := by decide +kernel
theorem dX9_balance_8 : decode cX9_balance 8 = .ok (.iload_n 1, 1) := by decide +kernel
theorem dX9_balance_9 : decode cX9_balance 9 = .ok (.invokevirtual 248, 3) := by decide +kernel
theorem dX9_balance_12 : decode cX9_balance 12 = .ok (.goto 5, 3) := by decide +kernel
theorem dX9_balance_15 : decode cX9_balance 15 = .ok (.ldc 251, 2) := by decide +kernel
theorem dX9_balance_17 : decode cX9_balance 17 = .ok (.ireturn, 1) := by decide +kernel
set_option maxRecDepth 100000 in
set_option maxHeartbeats 4000000 in
theorem e_X9_balance_0 (x1 : Int) {σ : Mem} {Q : Int → Mem → Prop} (h : HT GM M_X9_isBoy [mi x1] σ (fun r1 σ1 => (r1 = 0 → Q (-100001) σ1) ∧ (¬ r1 = 0 → HT GM M_X9_balanceOf [mr 0, mi x1] σ1 (fun r9 σ9 => Q r9 σ9)))) : HT GM M_X9_balance [mr 0, mi x1] σ Q := by
  refine HT.of pn_X9 (Nat.le_of_ble_eq_true rfl) ?_
  show WP GM M_X9_balance 0 [some (mr 0), some (mi x1)] [] σ Q
  refine WP.iload_n dX9_balance_0 rfl ?_
  refine WP.callS M_X9_isBoy [mi x1] cs_X9_isBoy dX9_balance_1 lk_X9_100 ft_X9_balance__X9_isBoy rfl (Nat.le_of_ble_eq_true rfl) (HT.mono h ?_)
  rintro r1 σ1 - - h
  refine WP.if_eq (tgt := 15) dX9_balance_4 (by decide) (fun q => ?_) (fun q => ?_)
  · have h := h.1 q
    refine WP.ldc (x := (-100001)) dX9_balance_15 ct_X9_251 (by decide) (by decide) ?_
    exact WP.iret rfl dX9_balance_17 h
  · have h := h.2 q
    refine WP.aload_n dX9_balance_7 rfl ?_
    refine WP.iload_n dX9_balance_8 rfl ?_
    refine WP.callV M_X9_balanceOf [mi x1] cv_X9_balanceOf dX9_balance_9 lk_X9_248 k0 rfl ft_X9_balance__X9_balanceOf rfl (Nat.le_of_ble_eq_true rfl) (HT.mono h ?_)
    rintro r9 σ9 - - h
    refine WP.goto (tgt := 17) dX9_balance_12 (by decide) ?_
    exact WP.iret rfl dX9_balance_17 h
theorem dX9_payments_0 : decode cX9_payments 0 = .ok (.iconst 0, 1) := by decide +kernel
theorem dX9_payments_1 : decode cX9_payments 1 = .ok (.istore_n 1, 1) := by decide +kernel
theorem dX9_payments_2 : decode cX9_payments 2 = .ok (.iconst 0, 1) := by decide +kernel
theorem dX9_payments_3 : decode cX9_payments 3 = .ok (.istore_n 2, 1) := by decide +kernel
theorem dX9_payments_4 : decode cX9_payments 4 = .ok (.iload_n 2, 1) := by decide +kernel
theorem dX9_payments_5 : decode cX9_payments 5 = .ok (.bipush 8, 2) := by decide +kernel
theorem dX9_payments_7 : decode cX9_payments 7 = .ok (.if_icmp .ge 27, 3) := by decide +kernel
theorem dX9_payments_10 : decode cX9_payments 10 = .ok (.iload_n 1, 1) := by decide +kernel
theorem dX9_payments_11 : decode cX9_payments 11 = .ok (.aload_n 0, 1) := by decide +kernel
theorem dX9_payments_12 : decode cX9_payments 12 = .ok (.iload_n 2, 1) := by decide +kernel
theorem dX9_payments_13 : decode cX9_payments 13 = .ok (.invokevirtual 248, 3) := by decide +kernel
theorem dX9_payments_16 : decode cX9_payments 16 = .ok (.ifCond .eq 9, 3) := by decide +kernel
theorem dX9_payments_19 : decode cX9_payments 19 = .ok (.iconst 1, 1) := by decide +kernel
theorem dX9_payments_20 : decode cX9_payments 20 = .ok (.iload_n 2, 1) := by decide +kernel
theorem dX9_payments_21 : decode cX9_payments 21 = .ok (.ishl, 1) := by decide +kernel
theorem dX9_payments_22 : decode cX9_payments 22 = .ok (.goto 4, 3) := by decide +kernel
theorem dX9_payments_25 : decode cX9_payments 25 = .ok (.iconst 0, 1) := by decide +kernel
theorem dX9_payments_26 : decode cX9_payments 26 = .ok (.ior, 1) := by decide +kernel
theorem dX9_payments_27 : decode cX9_payments 27 = .ok (.istore_n 1, 1) := by decide +kernel
theorem dX9_payments_28 : decode cX9_payments 28 = .ok (.iinc 2 1, 3) := by decide +kernel
theorem dX9_payments_31 : decode cX9_payments 31 = .ok (.goto (-27), 3) := by decide +kernel
theorem dX9_payments_34 : decode cX9_payments 34 = .ok (.iconst 0, 1) := by decide +kernel
theorem dX9_payments_35 : decode cX9_payments 35 = .ok (.istore_n 2, 1) := by decide +kernel
theorem dX9_payments_36 : decode cX9_payments 36 = .ok (.iload_n 2, 1) := by decide +kernel
theorem dX9_payments_37 : decode cX9_payments 37 = .ok (.sipush 256, 3) := by decide +kernel
theorem dX9_payments_40 : decode cX9_payments 40 = .ok (.if_icmp .ge 128, 3) := by decide +kernel
theorem dX9_payments_43 : decode cX9_payments 43 = .ok (.aload_n 0, 1) := by decide +kernel
theorem dX9_payments_44 : decode cX9_payments 44 = .ok (.getfield 56, 3) := by decide +kernel
theorem dX9_payments_47 : decode cX9_payments 47 = .ok (.iload_n 2, 1) := by decide +kernel
theorem dX9_payments_48 : decode cX9_payments 48 = .ok (.iconst 0, 1) := by decide +kernel
theorem dX9_payments_49 : decode cX9_payments 49 = .ok (.iastore, 1) := by decide +kernel
theorem dX9_payments_50 : decode cX9_payments 50 = .ok (.aload_n 0, 1) := by decide +kernel
theorem dX9_payments_51 : decode cX9_payments 51 = .ok (.getfield 59, 3) := by decide +kernel
theorem dX9_payments_54 : decode cX9_payments 54 = .ok (.iload_n 2, 1) := by decide +kernel
theorem dX9_payments_55 : decode cX9_payments 55 = .ok (.iconst 0, 1) := by decide +kernel
theorem dX9_payments_56 : decode cX9_payments 56 = .ok (.iastore, 1) := by decide +kernel
theorem dX9_payments_57 : decode cX9_payments 57 = .ok (.iconst 0, 1) := by decide +kernel
theorem dX9_payments_58 : decode cX9_payments 58 = .ok (.istore_n 3, 1) := by decide +kernel
theorem dX9_payments_59 : decode cX9_payments 59 = .ok (.iload_n 3, 1) := by decide +kernel
theorem dX9_payments_60 : decode cX9_payments 60 = .ok (.bipush 8, 2) := by decide +kernel
theorem dX9_payments_62 : decode cX9_payments 62 = .ok (.if_icmp .ge 73, 3) := by decide +kernel
theorem dX9_payments_65 : decode cX9_payments 65 = .ok (.iload_n 2, 1) := by decide +kernel
theorem dX9_payments_66 : decode cX9_payments 66 = .ok (.iload_n 3, 1) := by decide +kernel
theorem dX9_payments_67 : decode cX9_payments 67 = .ok (.invokestatic 152, 3) := by decide +kernel
theorem dX9_payments_70 : decode cX9_payments 70 = .ok (.ifCond .eq 59, 3) := by decide +kernel
theorem dX9_payments_73 : decode cX9_payments 73 = .ok (.aload_n 0, 1) := by decide +kernel
theorem dX9_payments_74 : decode cX9_payments 74 = .ok (.getfield 56, 3) := by decide +kernel
theorem dX9_payments_77 : decode cX9_payments 77 = .ok (.iload_n 2, 1) := by decide +kernel
theorem dX9_payments_78 : decode cX9_payments 78 = .ok (.dup2, 1) := by decide +kernel
theorem dX9_payments_79 : decode cX9_payments 79 = .ok (.iaload, 1) := by decide +kernel
theorem dX9_payments_80 : decode cX9_payments 80 = .ok (.aload_n 0, 1) := by decide +kernel
theorem dX9_payments_81 : decode cX9_payments 81 = .ok (.iload_n 3, 1) := by decide +kernel
theorem dX9_payments_82 : decode cX9_payments 82 = .ok (.invokevirtual 248, 3) := by decide +kernel
theorem dX9_payments_85 : decode cX9_payments 85 = .ok (.iadd, 1) := by decide +kernel
theorem dX9_payments_86 : decode cX9_payments 86 = .ok (.iastore, 1) := by decide +kernel
theorem dX9_payments_87 : decode cX9_payments 87 = .ok (.aload_n 0, 1) := by decide +kernel
theorem dX9_payments_88 : decode cX9_payments 88 = .ok (.getfield 59, 3) := by decide +kernel
theorem dX9_payments_91 : decode cX9_payments 91 = .ok (.iload_n 2, 1) := by decide +kernel
theorem dX9_payments_92 : decode cX9_payments 92 = .ok (.iconst 1, 1) := by decide +kernel
theorem dX9_payments_93 : decode cX9_payments 93 = .ok (.iload_n 3, 1) := by decide +kernel
theorem dX9_payments_94 : decode cX9_payments 94 = .ok (.ishl, 1) := by decide +kernel
theorem dX9_payments_95 : decode cX9_payments 95 = .ok (.iconst (-1), 1) := by decide +kernel
theorem dX9_payments_96 : decode cX9_payments 96 = .ok (.ixor, 1) := by decide +kernel
theorem dX9_payments_97 : decode cX9_payments 97 = .ok (.iand, 1) := by decide +kernel
theorem dX9_payments_98 : decode cX9_payments 98 = .ok (.iaload, 1) := by decide +kernel
theorem dX9_payments_99 : decode cX9_payments 99 = .ok (.istore 4, 2) := by decide +kernel
theorem dX9_payments_101 : decode cX9_payments 101 = .ok (.aload_n 0, 1) := by decide +kernel
theorem dX9_payments_102 : decode cX9_payments 102 = .ok (.getfield 59, 3) := by decide +kernel
theorem dX9_payments_105 : decode cX9_payments 105 = .ok (.iload_n 2, 1) := by decide +kernel
theorem dX9_payments_106 : decode cX9_payments 106 = .ok (.iload 4, 2) := by decide +kernel
theorem dX9_payments_108 : decode cX9_payments 108 = .ok (.aload_n 0, 1) := by decide +kernel
theorem dX9_payments_109 : decode cX9_payments 109 = .ok (.getfield 59, 3) := by decide +kernel
theorem dX9_payments_112 : decode cX9_payments 112 = .ok (.iload_n 2, 1) := by decide +kernel
theorem dX9_payments_113 : decode cX9_payments 113 = .ok (.iaload, 1) := by decide +kernel
theorem dX9_payments_114 : decode cX9_payments 114 = .ok (.if_icmp .le 8, 3) := by decide +kernel
theorem dX9_payments_117 : decode cX9_payments 117 = .ok (.iload 4, 2) := by decide +kernel
theorem dX9_payments_119 : decode cX9_payments 119 = .ok (.goto 9, 3) := by decide +kernel
theorem dX9_payments_122 : decode cX9_payments 122 = .ok (.aload_n 0, 1) := by decide +kernel
theorem dX9_payments_123 : decode cX9_payments 123 = .ok (.getfield 59, 3) := by decide +kernel
theorem dX9_payments_126 : decode cX9_payments 126 = .ok (.iload_n 2, 1) := by decide +kernel
theorem dX9_payments_127 : decode cX9_payments 127 = .ok (.iaload, 1) := by decide +kernel
theorem dX9_payments_128 : decode cX9_payments 128 = .ok (.iastore, 1) := by decide +kernel
theorem dX9_payments_129 : decode cX9_payments 129 = .ok (.iinc 3 1, 3) := by decide +kernel
theorem dX9_payments_132 : decode cX9_payments 132 = .ok (.goto (-73), 3) := by decide +kernel
theorem dX9_payments_135 : decode cX9_payments 135 = .ok (.aload_n 0, 1) := by decide +kernel
theorem dX9_payments_136 : decode cX9_payments 136 = .ok (.getfield 59, 3) := by decide +kernel
theorem dX9_payments_139 : decode cX9_payments 139 = .ok (.iload_n 2, 1) := by decide +kernel
theorem dX9_payments_140 : decode cX9_payments 140 = .ok (.dup2, 1) := by decide +kernel
theorem dX9_payments_141 : decode cX9_payments 141 = .ok (.iaload, 1) := by decide +kernel
theorem dX9_payments_142 : decode cX9_payments 142 = .ok (.iload_n 2, 1) := by decide +kernel
theorem dX9_payments_143 : decode cX9_payments 143 = .ok (.ifCond .eq 16, 3) := by decide +kernel
theorem dX9_payments_146 : decode cX9_payments 146 = .ok (.aload_n 0, 1) := by decide +kernel
theorem dX9_payments_147 : decode cX9_payments 147 = .ok (.getfield 56, 3) := by decide +kernel
theorem dX9_payments_150 : decode cX9_payments 150 = .ok (.iload_n 2, 1) := by decide +kernel
theorem dX9_payments_151 : decode cX9_payments 151 = .ok (.iaload, 1) := by decide +kernel
theorem dX9_payments_152 : decode cX9_payments 152 = .ok (.ifCond .ne 7, 3) := by decide +kernel
theorem dX9_payments_155 : decode cX9_payments 155 = .ok (.iconst 1, 1) := by decide +kernel
theorem dX9_payments_156 : decode cX9_payments 156 = .ok (.goto 4, 3) := by decide +kernel
theorem dX9_payments_159 : decode cX9_payments 159 = .ok (.iconst 0, 1) := by decide +kernel
theorem dX9_payments_160 : decode cX9_payments 160 = .ok (.iadd, 1) := by decide +kernel
theorem dX9_payments_161 : decode cX9_payments 161 = .ok (.iastore, 1) := by decide +kernel
theorem dX9_payments_162 : decode cX9_payments 162 = .ok (.iinc 2 1, 3) := by decide +kernel
theorem dX9_payments_165 : decode cX9_payments 165 = .ok (.goto (-129), 3) := by decide +kernel
theorem dX9_payments_168 : decode cX9_payments 168 = .ok (.iload_n 1, 1) := by decide +kernel
theorem dX9_payments_169 : decode cX9_payments 169 = .ok (.ifCond .ne 7, 3) := by decide +kernel
theorem dX9_payments_172 : decode cX9_payments 172 = .ok (.iconst 0, 1) := by decide +kernel
theorem dX9_payments_173 : decode cX9_payments 173 = .ok (.goto 14, 3) := by decide +kernel
theorem dX9_payments_176 : decode cX9_payments 176 = .ok (.iload_n 1, 1) := by decide +kernel
theorem dX9_payments_177 : decode cX9_payments 177 = .ok (.invokestatic 96, 3) := by decide +kernel
theorem dX9_payments_180 : decode cX9_payments 180 = .ok (.aload_n 0, 1) := by decide +kernel
theorem dX9_payments_181 : decode cX9_payments 181 = .ok (.getfield 59, 3) := by decide +kernel
theorem dX9_payments_184 : decode cX9_payments 184 = .ok (.iload_n 1, 1) := by decide +kernel
theorem dX9_payments_185 : decode cX9_payments 185 = .ok (.iaload, 1) := by decide +kernel
theorem dX9_payments_186 : decode cX9_payments 186 = .ok (.isub, 1) := by decide +kernel
theorem dX9_payments_187 : decode cX9_payments 187 = .ok (.ireturn, 1) := by decide +kernel
set_option maxRecDepth 100000 in
set_option maxHeartbeats 4000000 in
theorem e_X9_payments_0 {σ : Mem} {Q : Int → Mem → Prop} (h : WP GM M_X9_payments 4 [some (mr 0), some (mi 0), some (mi 0), none, none] [] σ Q) : HT GM M_X9_payments [mr 0] σ Q := by
  refine HT.of pn_X9 (Nat.le_of_ble_eq_true rfl) ?_
  show WP GM M_X9_payments 0 [some (mr 0), none, none, none, none] [] σ Q
  refine WP.iconst dX9_payments_0 (by decide) ?_
  refine WP.istore_n (L2 := [some (mr 0), some (mi 0), none, none, none]) dX9_payments_1 (by decide) rfl ?_
  refine WP.iconst dX9_payments_2 (by decide) ?_
  refine WP.istore_n (L2 := [some (mr 0), some (mi 0), some (mi 0), none, none]) dX9_payments_3 (by decide) rfl ?_
  exact h
set_option maxRecDepth 100000 in
set_option maxHeartbeats 4000000 in
theorem b_X9_payments_0_4 (x1 x2 : Int) {σ : Mem} {Q : Int → Mem → Prop} (h : (8 ≤ x2 → WP GM M_X9_payments 36 [some (mr 0), some (mi x1), some (mi 0), none, none] [] σ Q) ∧ (¬ 8 ≤ x2 → HT GM M_X9_balanceOf [mr 0, mi x2] σ (fun r13 σ13 => (r13 = 0 → WP GM M_X9_payments 26 [some (mr 0), none, some (mi x2), none, none] [mi 0, mi x1] σ13 Q) ∧ (¬ r13 = 0 → WP GM M_X9_payments 26 [some (mr 0), none, some (mi x2), none, none] [mi (jshl 1 x2), mi x1] σ13 Q)))) : WP GM M_X9_payments 4 [some (mr 0), some (mi x1), some (mi x2), none, none] [] σ Q := by
  refine WP.iload_n dX9_payments_4 rfl ?_
  refine WP.bipush dX9_payments_5 (by decide) bp_8 ?_
  refine WP.icmp_ge (tgt := 34) dX9_payments_7 (by decide) (fun q => ?_) (fun q => ?_)
  · have h := h.1 q
    refine WP.iconst dX9_payments_34 (by decide) ?_
    refine WP.istore_n (L2 := [some (mr 0), some (mi x1), some (mi 0), none, none]) dX9_payments_35 (by decide) rfl ?_
    exact h
  · have h := h.2 q
    refine WP.iload_n dX9_payments_10 rfl ?_
    refine WP.aload_n dX9_payments_11 rfl ?_
    refine WP.iload_n dX9_payments_12 rfl ?_
    refine WP.callV M_X9_balanceOf [mi x2] cv_X9_balanceOf dX9_payments_13 lk_X9_248 k0 rfl ft_X9_payments__X9_balanceOf rfl (Nat.le_of_ble_eq_true rfl) (HT.mono h ?_)
    rintro r13 σ13 - - h
    refine WP.if_eq (tgt := 25) dX9_payments_16 (by decide) (fun q => ?_) (fun q => ?_)
    · have h := h.1 q
      refine WP.iconst dX9_payments_25 (by decide) ?_
      refine WP.drop 1 (L2 := [some (mr 0), none, some (mi x2), none, none]) rfl ?_
      exact h
    · have h := h.2 q
      refine WP.iconst dX9_payments_19 (by decide) ?_
      refine WP.iload_n dX9_payments_20 rfl ?_
      refine WP.ishl dX9_payments_21 ?_
      refine WP.goto (tgt := 26) dX9_payments_22 (by decide) ?_
      refine WP.drop 1 (L2 := [some (mr 0), none, some (mi x2), none, none]) rfl ?_
      exact h
set_option maxRecDepth 100000 in
set_option maxHeartbeats 4000000 in
theorem b_X9_payments_0_26 (x2 s0 s1 : Int) {σ : Mem} {Q : Int → Mem → Prop} (h : WP GM M_X9_payments 4 [some (mr 0), some (mi (jor s1 s0)), some (mi (jadd x2 1)), none, none] [] σ Q) : WP GM M_X9_payments 26 [some (mr 0), none, some (mi x2), none, none] [mi s0, mi s1] σ Q := by
  refine WP.ior dX9_payments_26 ?_
  refine WP.istore_n (L2 := [some (mr 0), some (mi (jor s1 s0)), some (mi x2), none, none]) dX9_payments_27 (by decide) rfl ?_
  refine WP.iinc (L2 := [some (mr 0), some (mi (jor s1 s0)), some (mi (jadd x2 1)), none, none]) dX9_payments_28 (by decide) rfl (by decide) rfl ?_
  refine WP.goto (tgt := 4) dX9_payments_31 (by decide) ?_
  exact h
set_option maxRecDepth 100000 in
set_option maxHeartbeats 4000000 in
theorem b_X9_payments_0_36 (x1 x2 : Int) {σ : Mem} {Q : Int → Mem → Prop} (h : (256 ≤ x2 → (¬ x1 = 0 → HT GM M_X9_ones [mi x1] σ (fun r177 σ177 => (0 ≤ x1 ∧ x1 < 256) ∧ (Q (jsub r177 (σ177 16 x1)) σ177))) ∧ (x1 = 0 → Q 0 σ)) ∧ (¬ 256 ≤ x2 → (0 ≤ x2 ∧ x2 < 256) ∧ ((0 ≤ x2 ∧ x2 < 256) ∧ (WP GM M_X9_payments 59 [some (mr 0), some (mi x1), some (mi x2), some (mi 0), none] [] (mupd (mupd σ 15 x2 0) 16 x2 0) Q)))) : WP GM M_X9_payments 36 [some (mr 0), some (mi x1), some (mi x2), none, none] [] σ Q := by
  refine WP.iload_n dX9_payments_36 rfl ?_
  refine WP.sipush dX9_payments_37 (by decide) sp_256 ?_
  refine WP.icmp_ge (tgt := 168) dX9_payments_40 (by decide) (fun q => ?_) (fun q => ?_)
  · have h := h.1 q
    refine WP.iload_n dX9_payments_168 rfl ?_
    refine WP.if_ne (tgt := 176) dX9_payments_169 (by decide) (fun q => ?_) (fun q => ?_)
    · have h := h.1 q
      refine WP.iload_n dX9_payments_176 rfl ?_
      refine WP.callS M_X9_ones [mi x1] cs_X9_ones dX9_payments_177 lk_X9_96 ft_X9_payments__X9_ones rfl (Nat.le_of_ble_eq_true rfl) (HT.mono h ?_)
      rintro r177 σ177 - - h
      refine WP.aload_n dX9_payments_180 rfl ?_
      refine WP.getR fd_X9_59 dX9_payments_181 k0 rfl ?_
      refine WP.iload_n dX9_payments_184 rfl ?_
      obtain ⟨hi, h⟩ := h
      refine WP.iald dX9_payments_185 k16 hi ?_
      refine WP.isub dX9_payments_186 ?_
      exact WP.iret rfl dX9_payments_187 h
    · have h := h.2 q
      refine WP.iconst dX9_payments_172 (by decide) ?_
      refine WP.goto (tgt := 187) dX9_payments_173 (by decide) ?_
      exact WP.iret rfl dX9_payments_187 h
  · have h := h.2 q
    refine WP.aload_n dX9_payments_43 rfl ?_
    refine WP.getR fd_X9_56 dX9_payments_44 k0 rfl ?_
    refine WP.iload_n dX9_payments_47 rfl ?_
    refine WP.iconst dX9_payments_48 (by decide) ?_
    obtain ⟨hi, h⟩ := h
    refine WP.iast dX9_payments_49 k15 hi ?_
    refine WP.aload_n dX9_payments_50 rfl ?_
    refine WP.getR fd_X9_59 dX9_payments_51 k0 rfl ?_
    refine WP.iload_n dX9_payments_54 rfl ?_
    refine WP.iconst dX9_payments_55 (by decide) ?_
    obtain ⟨hi, h⟩ := h
    refine WP.iast dX9_payments_56 k16 hi ?_
    refine WP.iconst dX9_payments_57 (by decide) ?_
    refine WP.istore_n (L2 := [some (mr 0), some (mi x1), some (mi x2), some (mi 0), none]) dX9_payments_58 (by decide) rfl ?_
    exact h
set_option maxRecDepth 100000 in
set_option maxHeartbeats 4000000 in
theorem b_X9_payments_0_59 (x1 x2 x3 : Int) {σ : Mem} {Q : Int → Mem → Prop} (h : (8 ≤ x3 → (0 ≤ x2 ∧ x2 < 256) ∧ ((x2 = 0 → WP GM M_X9_payments 159 [some (mr 0), some (mi x1), some (mi x2), none, none] [mi (σ 16 x2), mi x2, mr 16] σ Q) ∧ (¬ x2 = 0 → (0 ≤ x2 ∧ x2 < 256) ∧ ((¬ σ 15 x2 = 0 → WP GM M_X9_payments 159 [some (mr 0), some (mi x1), some (mi x2), none, none] [mi (σ 16 x2), mi x2, mr 16] σ Q) ∧ (σ 15 x2 = 0 → WP GM M_X9_payments 160 [some (mr 0), some (mi x1), some (mi x2), none, none] [mi 1, mi (σ 16 x2), mi x2, mr 16] σ Q))))) ∧ (¬ 8 ≤ x3 → HT GM M_X9_has [mi x2, mi x3] σ (fun r67 σ67 => (r67 = 0 → WP GM M_X9_payments 129 [some (mr 0), some (mi x1), some (mi x2), some (mi x3), none] [] σ67 Q) ∧ (¬ r67 = 0 → (0 ≤ x2 ∧ x2 < 256) ∧ (HT GM M_X9_balanceOf [mr 0, mi x3] σ67 (fun r82 σ82 => (0 ≤ x2 ∧ x2 < 256) ∧ ((0 ≤ jand x2 (jxor (jshl 1 x3) (-1)) ∧ jand x2 (jxor (jshl 1 x3) (-1)) < 256) ∧ ((0 ≤ x2 ∧ x2 < 256) ∧ ((σ82 16 (jand x2 (jxor (jshl 1 x3) (-1))) ≤ σ82 16 x2 → (0 ≤ x2 ∧ x2 < 256) ∧ (WP GM M_X9_payments 128 [some (mr 0), some (mi x1), some (mi x2), some (mi x3), none] [mi (σ82 16 x2), mi x2, mr 16] (mupd σ82 15 x2 (jadd (σ67 15 x2) r82)) Q)) ∧ (¬ σ82 16 (jand x2 (jxor (jshl 1 x3) (-1))) ≤ σ82 16 x2 → WP GM M_X9_payments 128 [some (mr 0), some (mi x1), some (mi x2), some (mi x3), none] [mi (σ82 16 (jand x2 (jxor (jshl 1 x3) (-1)))), mi x2, mr 16] (mupd σ82 15 x2 (jadd (σ67 15 x2) r82)) Q)))))))))) : WP GM M_X9_payments 59 [some (mr 0), some (mi x1), some (mi x2), some (mi x3), none] [] σ Q := by
  refine WP.iload_n dX9_payments_59 rfl ?_
  refine WP.bipush dX9_payments_60 (by decide) bp_8 ?_
  refine WP.icmp_ge (tgt := 135) dX9_payments_62 (by decide) (fun q => ?_) (fun q => ?_)
  · have h := h.1 q
    refine WP.aload_n dX9_payments_135 rfl ?_
    refine WP.getR fd_X9_59 dX9_payments_136 k0 rfl ?_
    refine WP.iload_n dX9_payments_139 rfl ?_
    refine WP.dup2 dX9_payments_140 rfl rfl ?_
    obtain ⟨hi, h⟩ := h
    refine WP.iald dX9_payments_141 k16 hi ?_
    refine WP.iload_n dX9_payments_142 rfl ?_
    refine WP.if_eq (tgt := 159) dX9_payments_143 (by decide) (fun q => ?_) (fun q => ?_)
    · have h := h.1 q
      refine WP.drop 3 (L2 := [some (mr 0), some (mi x1), some (mi x2), none, none]) rfl ?_
      exact h
    · have h := h.2 q
      refine WP.aload_n dX9_payments_146 rfl ?_
      refine WP.getR fd_X9_56 dX9_payments_147 k0 rfl ?_
      refine WP.iload_n dX9_payments_150 rfl ?_
      obtain ⟨hi, h⟩ := h
      refine WP.iald dX9_payments_151 k15 hi ?_
      refine WP.if_ne (tgt := 159) dX9_payments_152 (by decide) (fun q => ?_) (fun q => ?_)
      · have h := h.1 q
        refine WP.drop 3 (L2 := [some (mr 0), some (mi x1), some (mi x2), none, none]) rfl ?_
        exact h
      · have h := h.2 q
        refine WP.iconst dX9_payments_155 (by decide) ?_
        refine WP.goto (tgt := 160) dX9_payments_156 (by decide) ?_
        refine WP.drop 3 (L2 := [some (mr 0), some (mi x1), some (mi x2), none, none]) rfl ?_
        exact h
  · have h := h.2 q
    refine WP.iload_n dX9_payments_65 rfl ?_
    refine WP.iload_n dX9_payments_66 rfl ?_
    refine WP.callS M_X9_has [mi x2, mi x3] cs_X9_has dX9_payments_67 lk_X9_152 ft_X9_payments__X9_has rfl (Nat.le_of_ble_eq_true rfl) (HT.mono h ?_)
    rintro r67 σ67 - - h
    refine WP.if_eq (tgt := 129) dX9_payments_70 (by decide) (fun q => ?_) (fun q => ?_)
    · have h := h.1 q
      exact h
    · have h := h.2 q
      refine WP.aload_n dX9_payments_73 rfl ?_
      refine WP.getR fd_X9_56 dX9_payments_74 k0 rfl ?_
      refine WP.iload_n dX9_payments_77 rfl ?_
      refine WP.dup2 dX9_payments_78 rfl rfl ?_
      obtain ⟨hi, h⟩ := h
      refine WP.iald dX9_payments_79 k15 hi ?_
      refine WP.aload_n dX9_payments_80 rfl ?_
      refine WP.iload_n dX9_payments_81 rfl ?_
      refine WP.callV M_X9_balanceOf [mi x3] cv_X9_balanceOf dX9_payments_82 lk_X9_248 k0 rfl ft_X9_payments__X9_balanceOf rfl (Nat.le_of_ble_eq_true rfl) (HT.mono h ?_)
      rintro r82 σ82 - - h
      refine WP.iadd dX9_payments_85 ?_
      obtain ⟨hi, h⟩ := h
      refine WP.iast dX9_payments_86 k15 hi ?_
      refine WP.aload_n dX9_payments_87 rfl ?_
      refine WP.getR fd_X9_59 dX9_payments_88 k0 rfl ?_
      refine WP.iload_n dX9_payments_91 rfl ?_
      refine WP.iconst dX9_payments_92 (by decide) ?_
      refine WP.iload_n dX9_payments_93 rfl ?_
      refine WP.ishl dX9_payments_94 ?_
      refine WP.iconst dX9_payments_95 (by decide) ?_
      refine WP.ixor dX9_payments_96 ?_
      refine WP.iand dX9_payments_97 ?_
      obtain ⟨hi, h⟩ := h
      refine WP.iald dX9_payments_98 k16 hi ?_
      refine WP.topI (y := σ82 16 (jand x2 (jxor (jshl 1 x3) (-1)))) (mupd_rp (by decide)) ?_
      refine WP.istore (L2 := [some (mr 0), some (mi x1), some (mi x2), some (mi x3), some (mi (σ82 16 (jand x2 (jxor (jshl 1 x3) (-1)))))]) dX9_payments_99 (by decide) rfl ?_
      refine WP.aload_n dX9_payments_101 rfl ?_
      refine WP.getR fd_X9_59 dX9_payments_102 k0 rfl ?_
      refine WP.iload_n dX9_payments_105 rfl ?_
      refine WP.iload dX9_payments_106 rfl ?_
      refine WP.aload_n dX9_payments_108 rfl ?_
      refine WP.getR fd_X9_59 dX9_payments_109 k0 rfl ?_
      refine WP.iload_n dX9_payments_112 rfl ?_
      obtain ⟨hi, h⟩ := h
      refine WP.iald dX9_payments_113 k16 hi ?_
      refine WP.topI (y := σ82 16 x2) (mupd_rp (by decide)) ?_
      refine WP.icmp_le (tgt := 122) dX9_payments_114 (by decide) (fun q => ?_) (fun q => ?_)
      · have h := h.1 q
        refine WP.aload_n dX9_payments_122 rfl ?_
        refine WP.getR fd_X9_59 dX9_payments_123 k0 rfl ?_
        refine WP.iload_n dX9_payments_126 rfl ?_
        obtain ⟨hi, h⟩ := h
        refine WP.iald dX9_payments_127 k16 hi ?_
        refine WP.topI (y := σ82 16 x2) (mupd_rp (by decide)) ?_
        refine WP.drop 4 (L2 := [some (mr 0), some (mi x1), some (mi x2), some (mi x3), none]) rfl ?_
        exact h
      · have h := h.2 q
        refine WP.iload dX9_payments_117 rfl ?_
        refine WP.goto (tgt := 128) dX9_payments_119 (by decide) ?_
        refine WP.drop 4 (L2 := [some (mr 0), some (mi x1), some (mi x2), some (mi x3), none]) rfl ?_
        exact h
set_option maxRecDepth 100000 in
set_option maxHeartbeats 4000000 in
theorem b_X9_payments_0_128 (x1 x2 x3 s0 s1 : Int) {σ : Mem} {Q : Int → Mem → Prop} (h : (0 ≤ s1 ∧ s1 < 256) ∧ (WP GM M_X9_payments 129 [some (mr 0), some (mi x1), some (mi x2), some (mi x3), none] [] (mupd σ 16 s1 s0) Q)) : WP GM M_X9_payments 128 [some (mr 0), some (mi x1), some (mi x2), some (mi x3), none] [mi s0, mi s1, mr 16] σ Q := by
  obtain ⟨hi, h⟩ := h
  refine WP.iast dX9_payments_128 k16 hi ?_
  exact h
set_option maxRecDepth 100000 in
set_option maxHeartbeats 4000000 in
theorem b_X9_payments_0_129 (x1 x2 x3 : Int) {σ : Mem} {Q : Int → Mem → Prop} (h : WP GM M_X9_payments 59 [some (mr 0), some (mi x1), some (mi x2), some (mi (jadd x3 1)), none] [] σ Q) : WP GM M_X9_payments 129 [some (mr 0), some (mi x1), some (mi x2), some (mi x3), none] [] σ Q := by
  refine WP.iinc (L2 := [some (mr 0), some (mi x1), some (mi x2), some (mi (jadd x3 1)), none]) dX9_payments_129 (by decide) rfl (by decide) rfl ?_
  refine WP.goto (tgt := 59) dX9_payments_132 (by decide) ?_
  exact h
set_option maxRecDepth 100000 in
set_option maxHeartbeats 4000000 in
theorem b_X9_payments_0_159 (x1 x2 s0 s1 : Int) {σ : Mem} {Q : Int → Mem → Prop} (h : WP GM M_X9_payments 160 [some (mr 0), some (mi x1), some (mi x2), none, none] [mi 0, mi s0, mi s1, mr 16] σ Q) : WP GM M_X9_payments 159 [some (mr 0), some (mi x1), some (mi x2), none, none] [mi s0, mi s1, mr 16] σ Q := by
  refine WP.iconst dX9_payments_159 (by decide) ?_
  exact h
set_option maxRecDepth 100000 in
set_option maxHeartbeats 4000000 in
theorem b_X9_payments_0_160 (x1 x2 s0 s1 s2 : Int) {σ : Mem} {Q : Int → Mem → Prop} (h : (0 ≤ s2 ∧ s2 < 256) ∧ (WP GM M_X9_payments 36 [some (mr 0), some (mi x1), some (mi (jadd x2 1)), none, none] [] (mupd σ 16 s2 (jadd s1 s0)) Q)) : WP GM M_X9_payments 160 [some (mr 0), some (mi x1), some (mi x2), none, none] [mi s0, mi s1, mi s2, mr 16] σ Q := by
  refine WP.iadd dX9_payments_160 ?_
  obtain ⟨hi, h⟩ := h
  refine WP.iast dX9_payments_161 k16 hi ?_
  refine WP.iinc (L2 := [some (mr 0), some (mi x1), some (mi (jadd x2 1)), none, none]) dX9_payments_162 (by decide) rfl (by decide) rfl ?_
  refine WP.goto (tgt := 36) dX9_payments_165 (by decide) ?_
  exact h
theorem dX9_seed_0 : decode cX9_seed 0 = .ok (.iload_n 1, 1) := by decide +kernel
theorem dX9_seed_1 : decode cX9_seed 1 = .ok (.ifCond .ge 5, 3) := by decide +kernel
theorem dX9_seed_4 : decode cX9_seed 4 = .ok (.iconst (-1), 1) := by decide +kernel
theorem dX9_seed_5 : decode cX9_seed 5 = .ok (.ireturn, 1) := by decide +kernel
theorem dX9_seed_6 : decode cX9_seed 6 = .ok (.aload_n 0, 1) := by decide +kernel
theorem dX9_seed_7 : decode cX9_seed 7 = .ok (.getfield 37, 3) := by decide +kernel
theorem dX9_seed_10 : decode cX9_seed 10 = .ok (.istore_n 2, 1) := by decide +kernel
theorem dX9_seed_11 : decode cX9_seed 11 = .ok (.aload_n 0, 1) := by decide +kernel
theorem dX9_seed_12 : decode cX9_seed 12 = .ok (.iload_n 1, 1) := by decide +kernel
theorem dX9_seed_13 : decode cX9_seed 13 = .ok (.putfield 37, 3) := by decide +kernel
theorem dX9_seed_16 : decode cX9_seed 16 = .ok (.iload_n 2, 1) := by decide +kernel
theorem dX9_seed_17 : decode cX9_seed 17 = .ok (.ireturn, 1) := by decide +kernel
set_option maxRecDepth 100000 in
set_option maxHeartbeats 4000000 in
theorem e_X9_seed_0 (x1 : Int) {σ : Mem} {Q : Int → Mem → Prop} (h : (0 ≤ x1 → Q (σ 0 12) (mupd σ 0 12 x1)) ∧ (¬ 0 ≤ x1 → Q (-1) σ)) : HT GM M_X9_seed [mr 0, mi x1] σ Q := by
  refine HT.of pn_X9 (Nat.le_of_ble_eq_true rfl) ?_
  show WP GM M_X9_seed 0 [some (mr 0), some (mi x1), none] [] σ Q
  refine WP.iload_n dX9_seed_0 rfl ?_
  refine WP.if_ge (tgt := 6) dX9_seed_1 (by decide) (fun q => ?_) (fun q => ?_)
  · have h := h.1 q
    refine WP.aload_n dX9_seed_6 rfl ?_
    refine WP.getI (v := σ 0 12) fd_X9_37 dX9_seed_7 k0 rfl rfl ?_
    refine WP.istore_n (L2 := [some (mr 0), some (mi x1), some (mi (σ 0 12))]) dX9_seed_10 (by decide) rfl ?_
    refine WP.aload_n dX9_seed_11 rfl ?_
    refine WP.iload_n dX9_seed_12 rfl ?_
    refine WP.put fp_X9_37 dX9_seed_13 k0 rfl rfl rfl ?_
    refine WP.iload_n dX9_seed_16 rfl ?_
    exact WP.iret rfl dX9_seed_17 h
  · have h := h.2 q
    refine WP.iconst dX9_seed_4 (by decide) ?_
    exact WP.iret rfl dX9_seed_5 h
theorem dX9_carried_0 : decode cX9_carried 0 = .ok (.iload_n 1, 1) := by decide +kernel
theorem dX9_carried_1 : decode cX9_carried 1 = .ok (.bipush 12, 2) := by decide +kernel
theorem dX9_carried_3 : decode cX9_carried 3 = .ok (.if_icmp .ge 135, 3) := by decide +kernel
theorem dX9_carried_6 : decode cX9_carried 6 = .ok (.iload_n 1, 1) := by decide +kernel
theorem dX9_carried_7 : decode cX9_carried 7 = .ok (.iconst 4, 1) := by decide +kernel
theorem dX9_carried_8 : decode cX9_carried 8 = .ok (.irem, 1) := by decide +kernel
theorem dX9_carried_9 : decode cX9_carried 9 = .ok (.istore 4, 2) := by decide +kernel
theorem dX9_carried_11 : decode cX9_carried 11 = .ok (.iload_n 1, 1) := by decide +kernel
theorem dX9_carried_12 : decode cX9_carried 12 = .ok (.iconst 4, 1) := by decide +kernel
theorem dX9_carried_13 : decode cX9_carried 13 = .ok (.idiv, 1) := by decide +kernel
theorem dX9_carried_14 : decode cX9_carried 14 = .ok (.istore 5, 2) := by decide +kernel
theorem dX9_carried_16 : decode cX9_carried 16 = .ok (.aload_n 0, 1) := by decide +kernel
theorem dX9_carried_17 : decode cX9_carried 17 = .ok (.getfield 7, 3) := by decide +kernel
theorem dX9_carried_20 : decode cX9_carried 20 = .ok (.iload 4, 2) := by decide +kernel
theorem dX9_carried_22 : decode cX9_carried 22 = .ok (.iload_n 3, 1) := by decide +kernel
theorem dX9_carried_23 : decode cX9_carried 23 = .ok (.ifCond .eq 12, 3) := by decide +kernel
theorem dX9_carried_26 : decode cX9_carried 26 = .ok (.iload 5, 2) := by decide +kernel
theorem dX9_carried_28 : decode cX9_carried 28 = .ok (.ifCond .ne 7, 3) := by decide +kernel
theorem dX9_carried_31 : decode cX9_carried 31 = .ok (.iload_n 2, 1) := by decide +kernel
theorem dX9_carried_32 : decode cX9_carried 32 = .ok (.goto 10, 3) := by decide +kernel
theorem dX9_carried_35 : decode cX9_carried 35 = .ok (.aload_n 0, 1) := by decide +kernel
theorem dX9_carried_36 : decode cX9_carried 36 = .ok (.getfield 7, 3) := by decide +kernel
theorem dX9_carried_39 : decode cX9_carried 39 = .ok (.iload 4, 2) := by decide +kernel
theorem dX9_carried_41 : decode cX9_carried 41 = .ok (.iaload, 1) := by decide +kernel
theorem dX9_carried_42 : decode cX9_carried 42 = .ok (.iastore, 1) := by decide +kernel
theorem dX9_carried_43 : decode cX9_carried 43 = .ok (.aload_n 0, 1) := by decide +kernel
theorem dX9_carried_44 : decode cX9_carried 44 = .ok (.getfield 13, 3) := by decide +kernel
theorem dX9_carried_47 : decode cX9_carried 47 = .ok (.iload 4, 2) := by decide +kernel
theorem dX9_carried_49 : decode cX9_carried 49 = .ok (.iload_n 3, 1) := by decide +kernel
theorem dX9_carried_50 : decode cX9_carried 50 = .ok (.ifCond .eq 13, 3) := by decide +kernel
theorem dX9_carried_53 : decode cX9_carried 53 = .ok (.iload 5, 2) := by decide +kernel
theorem dX9_carried_55 : decode cX9_carried 55 = .ok (.iconst 1, 1) := by decide +kernel
theorem dX9_carried_56 : decode cX9_carried 56 = .ok (.if_icmp .ne 7, 3) := by decide +kernel
theorem dX9_carried_59 : decode cX9_carried 59 = .ok (.iload_n 2, 1) := by decide +kernel
theorem dX9_carried_60 : decode cX9_carried 60 = .ok (.goto 10, 3) := by decide +kernel
theorem dX9_carried_63 : decode cX9_carried 63 = .ok (.aload_n 0, 1) := by decide +kernel
theorem dX9_carried_64 : decode cX9_carried 64 = .ok (.getfield 13, 3) := by decide +kernel
theorem dX9_carried_67 : decode cX9_carried 67 = .ok (.iload 4, 2) := by decide +kernel
theorem dX9_carried_69 : decode cX9_carried 69 = .ok (.iaload, 1) := by decide +kernel
theorem dX9_carried_70 : decode cX9_carried 70 = .ok (.iastore, 1) := by decide +kernel
theorem dX9_carried_71 : decode cX9_carried 71 = .ok (.aload_n 0, 1) := by decide +kernel
theorem dX9_carried_72 : decode cX9_carried 72 = .ok (.getfield 16, 3) := by decide +kernel
theorem dX9_carried_75 : decode cX9_carried 75 = .ok (.iload 4, 2) := by decide +kernel
theorem dX9_carried_77 : decode cX9_carried 77 = .ok (.iload_n 3, 1) := by decide +kernel
theorem dX9_carried_78 : decode cX9_carried 78 = .ok (.ifCond .eq 13, 3) := by decide +kernel
theorem dX9_carried_81 : decode cX9_carried 81 = .ok (.iload 5, 2) := by decide +kernel
theorem dX9_carried_83 : decode cX9_carried 83 = .ok (.iconst 2, 1) := by decide +kernel
theorem dX9_carried_84 : decode cX9_carried 84 = .ok (.if_icmp .ne 7, 3) := by decide +kernel
theorem dX9_carried_87 : decode cX9_carried 87 = .ok (.iload_n 2, 1) := by decide +kernel
theorem dX9_carried_88 : decode cX9_carried 88 = .ok (.goto 10, 3) := by decide +kernel
theorem dX9_carried_91 : decode cX9_carried 91 = .ok (.aload_n 0, 1) := by decide +kernel
theorem dX9_carried_92 : decode cX9_carried 92 = .ok (.getfield 16, 3) := by decide +kernel
theorem dX9_carried_95 : decode cX9_carried 95 = .ok (.iload 4, 2) := by decide +kernel
theorem dX9_carried_97 : decode cX9_carried 97 = .ok (.iaload, 1) := by decide +kernel
theorem dX9_carried_98 : decode cX9_carried 98 = .ok (.iastore, 1) := by decide +kernel
theorem dX9_carried_99 : decode cX9_carried 99 = .ok (.iload 5, 2) := by decide +kernel
theorem dX9_carried_101 : decode cX9_carried 101 = .ok (.ifCond .ne 13, 3) := by decide +kernel
theorem dX9_carried_104 : decode cX9_carried 104 = .ok (.aload_n 0, 1) := by decide +kernel
theorem dX9_carried_105 : decode cX9_carried 105 = .ok (.getfield 7, 3) := by decide +kernel
theorem dX9_carried_108 : decode cX9_carried 108 = .ok (.iload 4, 2) := by decide +kernel
theorem dX9_carried_110 : decode cX9_carried 110 = .ok (.iaload, 1) := by decide +kernel
theorem dX9_carried_111 : decode cX9_carried 111 = .ok (.goto 26, 3) := by decide +kernel
theorem dX9_carried_114 : decode cX9_carried 114 = .ok (.iload 5, 2) := by decide +kernel
theorem dX9_carried_116 : decode cX9_carried 116 = .ok (.iconst 1, 1) := by decide +kernel
theorem dX9_carried_117 : decode cX9_carried 117 = .ok (.if_icmp .ne 13, 3) := by decide +kernel
theorem dX9_carried_120 : decode cX9_carried 120 = .ok (.aload_n 0, 1) := by decide +kernel
theorem dX9_carried_121 : decode cX9_carried 121 = .ok (.getfield 13, 3) := by decide +kernel
theorem dX9_carried_124 : decode cX9_carried 124 = .ok (.iload 4, 2) := by decide +kernel
theorem dX9_carried_126 : decode cX9_carried 126 = .ok (.iaload, 1) := by decide +kernel
theorem dX9_carried_127 : decode cX9_carried 127 = .ok (.goto 10, 3) := by decide +kernel
theorem dX9_carried_130 : decode cX9_carried 130 = .ok (.aload_n 0, 1) := by decide +kernel
theorem dX9_carried_131 : decode cX9_carried 131 = .ok (.getfield 16, 3) := by decide +kernel
theorem dX9_carried_134 : decode cX9_carried 134 = .ok (.iload 4, 2) := by decide +kernel
theorem dX9_carried_136 : decode cX9_carried 136 = .ok (.iaload, 1) := by decide +kernel
theorem dX9_carried_137 : decode cX9_carried 137 = .ok (.ireturn, 1) := by decide +kernel
theorem dX9_carried_138 : decode cX9_carried 138 = .ok (.iload_n 1, 1) := by decide +kernel
theorem dX9_carried_139 : decode cX9_carried 139 = .ok (.bipush 28, 2) := by decide +kernel
theorem dX9_carried_141 : decode cX9_carried 141 = .ok (.if_icmp .ge 39, 3) := by decide +kernel
theorem dX9_carried_144 : decode cX9_carried 144 = .ok (.aload_n 0, 1) := by decide +kernel
theorem dX9_carried_145 : decode cX9_carried 145 = .ok (.getfield 19, 3) := by decide +kernel
theorem dX9_carried_148 : decode cX9_carried 148 = .ok (.iload_n 1, 1) := by decide +kernel
theorem dX9_carried_149 : decode cX9_carried 149 = .ok (.bipush 12, 2) := by decide +kernel
theorem dX9_carried_151 : decode cX9_carried 151 = .ok (.isub, 1) := by decide +kernel
theorem dX9_carried_152 : decode cX9_carried 152 = .ok (.iload_n 3, 1) := by decide +kernel
theorem dX9_carried_153 : decode cX9_carried 153 = .ok (.ifCond .eq 7, 3) := by decide +kernel
theorem dX9_carried_156 : decode cX9_carried 156 = .ok (.iload_n 2, 1) := by decide +kernel
theorem dX9_carried_157 : decode cX9_carried 157 = .ok (.goto 12, 3) := by decide +kernel
theorem dX9_carried_160 : decode cX9_carried 160 = .ok (.aload_n 0, 1) := by decide +kernel
theorem dX9_carried_161 : decode cX9_carried 161 = .ok (.getfield 19, 3) := by decide +kernel
theorem dX9_carried_164 : decode cX9_carried 164 = .ok (.iload_n 1, 1) := by decide +kernel
theorem dX9_carried_165 : decode cX9_carried 165 = .ok (.bipush 12, 2) := by decide +kernel
theorem dX9_carried_167 : decode cX9_carried 167 = .ok (.isub, 1) := by decide +kernel
theorem dX9_carried_168 : decode cX9_carried 168 = .ok (.iaload, 1) := by decide +kernel
theorem dX9_carried_169 : decode cX9_carried 169 = .ok (.iastore, 1) := by decide +kernel
theorem dX9_carried_170 : decode cX9_carried 170 = .ok (.aload_n 0, 1) := by decide +kernel
theorem dX9_carried_171 : decode cX9_carried 171 = .ok (.getfield 19, 3) := by decide +kernel
theorem dX9_carried_174 : decode cX9_carried 174 = .ok (.iload_n 1, 1) := by decide +kernel
theorem dX9_carried_175 : decode cX9_carried 175 = .ok (.bipush 12, 2) := by decide +kernel
theorem dX9_carried_177 : decode cX9_carried 177 = .ok (.isub, 1) := by decide +kernel
theorem dX9_carried_178 : decode cX9_carried 178 = .ok (.iaload, 1) := by decide +kernel
theorem dX9_carried_179 : decode cX9_carried 179 = .ok (.ireturn, 1) := by decide +kernel
theorem dX9_carried_180 : decode cX9_carried 180 = .ok (.iload_n 1, 1) := by decide +kernel
theorem dX9_carried_181 : decode cX9_carried 181 = .ok (.bipush 60, 2) := by decide +kernel
theorem dX9_carried_183 : decode cX9_carried 183 = .ok (.if_icmp .ge 187, 3) := by decide +kernel
theorem dX9_carried_186 : decode cX9_carried 186 = .ok (.iload_n 1, 1) := by decide +kernel
theorem dX9_carried_187 : decode cX9_carried 187 = .ok (.bipush 28, 2) := by decide +kernel
theorem dX9_carried_189 : decode cX9_carried 189 = .ok (.isub, 1) := by decide +kernel
theorem dX9_carried_190 : decode cX9_carried 190 = .ok (.bipush 8, 2) := by decide +kernel
theorem dX9_carried_192 : decode cX9_carried 192 = .ok (.irem, 1) := by decide +kernel
theorem dX9_carried_193 : decode cX9_carried 193 = .ok (.istore 4, 2) := by decide +kernel
theorem dX9_carried_195 : decode cX9_carried 195 = .ok (.iload_n 1, 1) := by decide +kernel
theorem dX9_carried_196 : decode cX9_carried 196 = .ok (.bipush 28, 2) := by decide +kernel
theorem dX9_carried_198 : decode cX9_carried 198 = .ok (.isub, 1) := by decide +kernel
theorem dX9_carried_199 : decode cX9_carried 199 = .ok (.bipush 8, 2) := by decide +kernel
theorem dX9_carried_201 : decode cX9_carried 201 = .ok (.idiv, 1) := by decide +kernel
theorem dX9_carried_202 : decode cX9_carried 202 = .ok (.istore 5, 2) := by decide +kernel
theorem dX9_carried_204 : decode cX9_carried 204 = .ok (.aload_n 0, 1) := by decide +kernel
theorem dX9_carried_205 : decode cX9_carried 205 = .ok (.getfield 22, 3) := by decide +kernel
theorem dX9_carried_208 : decode cX9_carried 208 = .ok (.iload 4, 2) := by decide +kernel
theorem dX9_carried_210 : decode cX9_carried 210 = .ok (.iload_n 3, 1) := by decide +kernel
theorem dX9_carried_211 : decode cX9_carried 211 = .ok (.ifCond .eq 12, 3) := by decide +kernel
theorem dX9_carried_214 : decode cX9_carried 214 = .ok (.iload 5, 2) := by decide +kernel
theorem dX9_carried_216 : decode cX9_carried 216 = .ok (.ifCond .ne 7, 3) := by decide +kernel
theorem dX9_carried_219 : decode cX9_carried 219 = .ok (.iload_n 2, 1) := by decide +kernel
theorem dX9_carried_220 : decode cX9_carried 220 = .ok (.goto 10, 3) := by decide +kernel
theorem dX9_carried_223 : decode cX9_carried 223 = .ok (.aload_n 0, 1) := by decide +kernel
theorem dX9_carried_224 : decode cX9_carried 224 = .ok (.getfield 22, 3) := by decide +kernel
theorem dX9_carried_227 : decode cX9_carried 227 = .ok (.iload 4, 2) := by decide +kernel
theorem dX9_carried_229 : decode cX9_carried 229 = .ok (.iaload, 1) := by decide +kernel
theorem dX9_carried_230 : decode cX9_carried 230 = .ok (.iastore, 1) := by decide +kernel
theorem dX9_carried_231 : decode cX9_carried 231 = .ok (.aload_n 0, 1) := by decide +kernel
theorem dX9_carried_232 : decode cX9_carried 232 = .ok (.getfield 25, 3) := by decide +kernel
theorem dX9_carried_235 : decode cX9_carried 235 = .ok (.iload 4, 2) := by decide +kernel
theorem dX9_carried_237 : decode cX9_carried 237 = .ok (.iload_n 3, 1) := by decide +kernel
theorem dX9_carried_238 : decode cX9_carried 238 = .ok (.ifCond .eq 13, 3) := by decide +kernel
theorem dX9_carried_241 : decode cX9_carried 241 = .ok (.iload 5, 2) := by decide +kernel
theorem dX9_carried_243 : decode cX9_carried 243 = .ok (.iconst 1, 1) := by decide +kernel
theorem dX9_carried_244 : decode cX9_carried 244 = .ok (.if_icmp .ne 7, 3) := by decide +kernel
theorem dX9_carried_247 : decode cX9_carried 247 = .ok (.iload_n 2, 1) := by decide +kernel
theorem dX9_carried_248 : decode cX9_carried 248 = .ok (.goto 10, 3) := by decide +kernel
theorem dX9_carried_251 : decode cX9_carried 251 = .ok (.aload_n 0, 1) := by decide +kernel
theorem dX9_carried_252 : decode cX9_carried 252 = .ok (.getfield 25, 3) := by decide +kernel
theorem dX9_carried_255 : decode cX9_carried 255 = .ok (.iload 4, 2) := by decide +kernel
theorem dX9_carried_257 : decode cX9_carried 257 = .ok (.iaload, 1) := by decide +kernel
theorem dX9_carried_258 : decode cX9_carried 258 = .ok (.iastore, 1) := by decide +kernel
theorem dX9_carried_259 : decode cX9_carried 259 = .ok (.aload_n 0, 1) := by decide +kernel
theorem dX9_carried_260 : decode cX9_carried 260 = .ok (.getfield 28, 3) := by decide +kernel
theorem dX9_carried_263 : decode cX9_carried 263 = .ok (.iload 4, 2) := by decide +kernel
theorem dX9_carried_265 : decode cX9_carried 265 = .ok (.iload_n 3, 1) := by decide +kernel
theorem dX9_carried_266 : decode cX9_carried 266 = .ok (.ifCond .eq 13, 3) := by decide +kernel
theorem dX9_carried_269 : decode cX9_carried 269 = .ok (.iload 5, 2) := by decide +kernel
theorem dX9_carried_271 : decode cX9_carried 271 = .ok (.iconst 2, 1) := by decide +kernel
theorem dX9_carried_272 : decode cX9_carried 272 = .ok (.if_icmp .ne 7, 3) := by decide +kernel
theorem dX9_carried_275 : decode cX9_carried 275 = .ok (.iload_n 2, 1) := by decide +kernel
theorem dX9_carried_276 : decode cX9_carried 276 = .ok (.goto 10, 3) := by decide +kernel
theorem dX9_carried_279 : decode cX9_carried 279 = .ok (.aload_n 0, 1) := by decide +kernel
theorem dX9_carried_280 : decode cX9_carried 280 = .ok (.getfield 28, 3) := by decide +kernel
theorem dX9_carried_283 : decode cX9_carried 283 = .ok (.iload 4, 2) := by decide +kernel
theorem dX9_carried_285 : decode cX9_carried 285 = .ok (.iaload, 1) := by decide +kernel
theorem dX9_carried_286 : decode cX9_carried 286 = .ok (.iastore, 1) := by decide +kernel
theorem dX9_carried_287 : decode cX9_carried 287 = .ok (.aload_n 0, 1) := by decide +kernel
theorem dX9_carried_288 : decode cX9_carried 288 = .ok (.getfield 31, 3) := by decide +kernel
theorem dX9_carried_291 : decode cX9_carried 291 = .ok (.iload 4, 2) := by decide +kernel
theorem dX9_carried_293 : decode cX9_carried 293 = .ok (.iload_n 3, 1) := by decide +kernel
theorem dX9_carried_294 : decode cX9_carried 294 = .ok (.ifCond .eq 13, 3) := by decide +kernel
theorem dX9_carried_297 : decode cX9_carried 297 = .ok (.iload 5, 2) := by decide +kernel
theorem dX9_carried_299 : decode cX9_carried 299 = .ok (.iconst 3, 1) := by decide +kernel
theorem dX9_carried_300 : decode cX9_carried 300 = .ok (.if_icmp .ne 7, 3) := by decide +kernel
theorem dX9_carried_303 : decode cX9_carried 303 = .ok (.iload_n 2, 1) := by decide +kernel
theorem dX9_carried_304 : decode cX9_carried 304 = .ok (.goto 10, 3) := by decide +kernel
theorem dX9_carried_307 : decode cX9_carried 307 = .ok (.aload_n 0, 1) := by decide +kernel
theorem dX9_carried_308 : decode cX9_carried 308 = .ok (.getfield 31, 3) := by decide +kernel
theorem dX9_carried_311 : decode cX9_carried 311 = .ok (.iload 4, 2) := by decide +kernel
theorem dX9_carried_313 : decode cX9_carried 313 = .ok (.iaload, 1) := by decide +kernel
theorem dX9_carried_314 : decode cX9_carried 314 = .ok (.iastore, 1) := by decide +kernel
theorem dX9_carried_315 : decode cX9_carried 315 = .ok (.iload 5, 2) := by decide +kernel
theorem dX9_carried_317 : decode cX9_carried 317 = .ok (.ifCond .ne 13, 3) := by decide +kernel
theorem dX9_carried_320 : decode cX9_carried 320 = .ok (.aload_n 0, 1) := by decide +kernel
theorem dX9_carried_321 : decode cX9_carried 321 = .ok (.getfield 22, 3) := by decide +kernel
theorem dX9_carried_324 : decode cX9_carried 324 = .ok (.iload 4, 2) := by decide +kernel
theorem dX9_carried_326 : decode cX9_carried 326 = .ok (.iaload, 1) := by decide +kernel
theorem dX9_carried_327 : decode cX9_carried 327 = .ok (.goto 42, 3) := by decide +kernel
theorem dX9_carried_330 : decode cX9_carried 330 = .ok (.iload 5, 2) := by decide +kernel
theorem dX9_carried_332 : decode cX9_carried 332 = .ok (.iconst 1, 1) := by decide +kernel
theorem dX9_carried_333 : decode cX9_carried 333 = .ok (.if_icmp .ne 13, 3) := by decide +kernel
theorem dX9_carried_336 : decode cX9_carried 336 = .ok (.aload_n 0, 1) := by decide +kernel
theorem dX9_carried_337 : decode cX9_carried 337 = .ok (.getfield 25, 3) := by decide +kernel
theorem dX9_carried_340 : decode cX9_carried 340 = .ok (.iload 4, 2) := by decide +kernel
theorem dX9_carried_342 : decode cX9_carried 342 = .ok (.iaload, 1) := by decide +kernel
theorem dX9_carried_343 : decode cX9_carried 343 = .ok (.goto 26, 3) := by decide +kernel
theorem dX9_carried_346 : decode cX9_carried 346 = .ok (.iload 5, 2) := by decide +kernel
theorem dX9_carried_348 : decode cX9_carried 348 = .ok (.iconst 2, 1) := by decide +kernel
theorem dX9_carried_349 : decode cX9_carried 349 = .ok (.if_icmp .ne 13, 3) := by decide +kernel
theorem dX9_carried_352 : decode cX9_carried 352 = .ok (.aload_n 0, 1) := by decide +kernel
theorem dX9_carried_353 : decode cX9_carried 353 = .ok (.getfield 28, 3) := by decide +kernel
theorem dX9_carried_356 : decode cX9_carried 356 = .ok (.iload 4, 2) := by decide +kernel
theorem dX9_carried_358 : decode cX9_carried 358 = .ok (.iaload, 1) := by decide +kernel
theorem dX9_carried_359 : decode cX9_carried 359 = .ok (.goto 10, 3) := by decide +kernel
theorem dX9_carried_362 : decode cX9_carried 362 = .ok (.aload_n 0, 1) := by decide +kernel
theorem dX9_carried_363 : decode cX9_carried 363 = .ok (.getfield 31, 3) := by decide +kernel
theorem dX9_carried_366 : decode cX9_carried 366 = .ok (.iload 4, 2) := by decide +kernel
theorem dX9_carried_368 : decode cX9_carried 368 = .ok (.iaload, 1) := by decide +kernel
theorem dX9_carried_369 : decode cX9_carried 369 = .ok (.ireturn, 1) := by decide +kernel
theorem dX9_carried_370 : decode cX9_carried 370 = .ok (.iload_n 1, 1) := by decide +kernel
theorem dX9_carried_371 : decode cX9_carried 371 = .ok (.bipush 124, 2) := by decide +kernel
theorem dX9_carried_373 : decode cX9_carried 373 = .ok (.if_icmp .ge 39, 3) := by decide +kernel
theorem dX9_carried_376 : decode cX9_carried 376 = .ok (.aload_n 0, 1) := by decide +kernel
theorem dX9_carried_377 : decode cX9_carried 377 = .ok (.getfield 34, 3) := by decide +kernel
theorem dX9_carried_380 : decode cX9_carried 380 = .ok (.iload_n 1, 1) := by decide +kernel
theorem dX9_carried_381 : decode cX9_carried 381 = .ok (.bipush 60, 2) := by decide +kernel
theorem dX9_carried_383 : decode cX9_carried 383 = .ok (.isub, 1) := by decide +kernel
theorem dX9_carried_384 : decode cX9_carried 384 = .ok (.iload_n 3, 1) := by decide +kernel
theorem dX9_carried_385 : decode cX9_carried 385 = .ok (.ifCond .eq 7, 3) := by decide +kernel
theorem dX9_carried_388 : decode cX9_carried 388 = .ok (.iload_n 2, 1) := by decide +kernel
theorem dX9_carried_389 : decode cX9_carried 389 = .ok (.goto 12, 3) := by decide +kernel
theorem dX9_carried_392 : decode cX9_carried 392 = .ok (.aload_n 0, 1) := by decide +kernel
theorem dX9_carried_393 : decode cX9_carried 393 = .ok (.getfield 34, 3) := by decide +kernel
theorem dX9_carried_396 : decode cX9_carried 396 = .ok (.iload_n 1, 1) := by decide +kernel
theorem dX9_carried_397 : decode cX9_carried 397 = .ok (.bipush 60, 2) := by decide +kernel
theorem dX9_carried_399 : decode cX9_carried 399 = .ok (.isub, 1) := by decide +kernel
theorem dX9_carried_400 : decode cX9_carried 400 = .ok (.iaload, 1) := by decide +kernel
theorem dX9_carried_401 : decode cX9_carried 401 = .ok (.iastore, 1) := by decide +kernel
theorem dX9_carried_402 : decode cX9_carried 402 = .ok (.aload_n 0, 1) := by decide +kernel
theorem dX9_carried_403 : decode cX9_carried 403 = .ok (.getfield 34, 3) := by decide +kernel
theorem dX9_carried_406 : decode cX9_carried 406 = .ok (.iload_n 1, 1) := by decide +kernel
theorem dX9_carried_407 : decode cX9_carried 407 = .ok (.bipush 60, 2) := by decide +kernel
theorem dX9_carried_409 : decode cX9_carried 409 = .ok (.isub, 1) := by decide +kernel
theorem dX9_carried_410 : decode cX9_carried 410 = .ok (.iaload, 1) := by decide +kernel
theorem dX9_carried_411 : decode cX9_carried 411 = .ok (.ireturn, 1) := by decide +kernel
theorem dX9_carried_412 : decode cX9_carried 412 = .ok (.aload_n 0, 1) := by decide +kernel
theorem dX9_carried_413 : decode cX9_carried 413 = .ok (.iload_n 3, 1) := by decide +kernel
theorem dX9_carried_414 : decode cX9_carried 414 = .ok (.ifCond .eq 13, 3) := by decide +kernel
theorem dX9_carried_417 : decode cX9_carried 417 = .ok (.iload_n 1, 1) := by decide +kernel
theorem dX9_carried_418 : decode cX9_carried 418 = .ok (.bipush 124, 2) := by decide +kernel
theorem dX9_carried_420 : decode cX9_carried 420 = .ok (.if_icmp .ne 7, 3) := by decide +kernel
theorem dX9_carried_423 : decode cX9_carried 423 = .ok (.iload_n 2, 1) := by decide +kernel
theorem dX9_carried_424 : decode cX9_carried 424 = .ok (.goto 7, 3) := by decide +kernel
theorem dX9_carried_427 : decode cX9_carried 427 = .ok (.aload_n 0, 1) := by decide +kernel
theorem dX9_carried_428 : decode cX9_carried 428 = .ok (.getfield 86, 3) := by decide +kernel
theorem dX9_carried_431 : decode cX9_carried 431 = .ok (.putfield 86, 3) := by decide +kernel
theorem dX9_carried_434 : decode cX9_carried 434 = .ok (.aload_n 0, 1) := by decide +kernel
theorem dX9_carried_435 : decode cX9_carried 435 = .ok (.iload_n 3, 1) := by decide +kernel
theorem dX9_carried_436 : decode cX9_carried 436 = .ok (.ifCond .eq 13, 3) := by decide +kernel
theorem dX9_carried_439 : decode cX9_carried 439 = .ok (.iload_n 1, 1) := by decide +kernel
theorem dX9_carried_440 : decode cX9_carried 440 = .ok (.bipush 125, 2) := by decide +kernel
theorem dX9_carried_442 : decode cX9_carried 442 = .ok (.if_icmp .ne 7, 3) := by decide +kernel
theorem dX9_carried_445 : decode cX9_carried 445 = .ok (.iload_n 2, 1) := by decide +kernel
theorem dX9_carried_446 : decode cX9_carried 446 = .ok (.goto 7, 3) := by decide +kernel
theorem dX9_carried_449 : decode cX9_carried 449 = .ok (.aload_n 0, 1) := by decide +kernel
theorem dX9_carried_450 : decode cX9_carried 450 = .ok (.getfield 89, 3) := by decide +kernel
theorem dX9_carried_453 : decode cX9_carried 453 = .ok (.putfield 89, 3) := by decide +kernel
theorem dX9_carried_456 : decode cX9_carried 456 = .ok (.aload_n 0, 1) := by decide +kernel
theorem dX9_carried_457 : decode cX9_carried 457 = .ok (.iload_n 3, 1) := by decide +kernel
theorem dX9_carried_458 : decode cX9_carried 458 = .ok (.ifCond .eq 13, 3) := by decide +kernel
theorem dX9_carried_461 : decode cX9_carried 461 = .ok (.iload_n 1, 1) := by decide +kernel
theorem dX9_carried_462 : decode cX9_carried 462 = .ok (.bipush 126, 2) := by decide +kernel
theorem dX9_carried_464 : decode cX9_carried 464 = .ok (.if_icmp .ne 7, 3) := by decide +kernel
theorem dX9_carried_467 : decode cX9_carried 467 = .ok (.iload_n 2, 1) := by decide +kernel
theorem dX9_carried_468 : decode cX9_carried 468 = .ok (.goto 7, 3) := by decide +kernel
theorem dX9_carried_471 : decode cX9_carried 471 = .ok (.aload_n 0, 1) := by decide +kernel
theorem dX9_carried_472 : decode cX9_carried 472 = .ok (.getfield 129, 3) := by decide +kernel
theorem dX9_carried_475 : decode cX9_carried 475 = .ok (.putfield 129, 3) := by decide +kernel
theorem dX9_carried_478 : decode cX9_carried 478 = .ok (.aload_n 0, 1) := by decide +kernel
theorem dX9_carried_479 : decode cX9_carried 479 = .ok (.iload_n 3, 1) := by decide +kernel
theorem dX9_carried_480 : decode cX9_carried 480 = .ok (.ifCond .eq 13, 3) := by decide +kernel
theorem dX9_carried_483 : decode cX9_carried 483 = .ok (.iload_n 1, 1) := by decide +kernel
theorem dX9_carried_484 : decode cX9_carried 484 = .ok (.bipush 127, 2) := by decide +kernel
theorem dX9_carried_486 : decode cX9_carried 486 = .ok (.if_icmp .ne 7, 3) := by decide +kernel
theorem dX9_carried_489 : decode cX9_carried 489 = .ok (.iload_n 2, 1) := by decide +kernel
theorem dX9_carried_490 : decode cX9_carried 490 = .ok (.goto 7, 3) := by decide +kernel
theorem dX9_carried_493 : decode cX9_carried 493 = .ok (.aload_n 0, 1) := by decide +kernel
theorem dX9_carried_494 : decode cX9_carried 494 = .ok (.getfield 37, 3) := by decide +kernel
theorem dX9_carried_497 : decode cX9_carried 497 = .ok (.putfield 37, 3) := by decide +kernel
theorem dX9_carried_500 : decode cX9_carried 500 = .ok (.iload_n 1, 1) := by decide +kernel
theorem dX9_carried_501 : decode cX9_carried 501 = .ok (.bipush 124, 2) := by decide +kernel
theorem dX9_carried_503 : decode cX9_carried 503 = .ok (.if_icmp .ne 10, 3) := by decide +kernel
theorem dX9_carried_506 : decode cX9_carried 506 = .ok (.aload_n 0, 1) := by decide +kernel
theorem dX9_carried_507 : decode cX9_carried 507 = .ok (.getfield 86, 3) := by decide +kernel
theorem dX9_carried_510 : decode cX9_carried 510 = .ok (.goto 33, 3) := by decide +kernel
theorem dX9_carried_513 : decode cX9_carried 513 = .ok (.iload_n 1, 1) := by decide +kernel
theorem dX9_carried_514 : decode cX9_carried 514 = .ok (.bipush 125, 2) := by decide +kernel
theorem dX9_carried_516 : decode cX9_carried 516 = .ok (.if_icmp .ne 10, 3) := by decide +kernel
theorem dX9_carried_519 : decode cX9_carried 519 = .ok (.aload_n 0, 1) := by decide +kernel
theorem dX9_carried_520 : decode cX9_carried 520 = .ok (.getfield 89, 3) := by decide +kernel
theorem dX9_carried_523 : decode cX9_carried 523 = .ok (.goto 20, 3) := by decide +kernel
theorem dX9_carried_526 : decode cX9_carried 526 = .ok (.iload_n 1, 1) := by decide +kernel
theorem dX9_carried_527 : decode cX9_carried 527 = .ok (.bipush 126, 2) := by decide +kernel
theorem dX9_carried_529 : decode cX9_carried 529 = .ok (.if_icmp .ne 10, 3) := by decide +kernel
theorem dX9_carried_532 : decode cX9_carried 532 = .ok (.aload_n 0, 1) := by decide +kernel
theorem dX9_carried_533 : decode cX9_carried 533 = .ok (.getfield 129, 3) := by decide +kernel
theorem dX9_carried_536 : decode cX9_carried 536 = .ok (.goto 7, 3) := by decide +kernel
theorem dX9_carried_539 : decode cX9_carried 539 = .ok (.aload_n 0, 1) := by decide +kernel
theorem dX9_carried_540 : decode cX9_carried 540 = .ok (.getfield 37, 3) := by decide +kernel
theorem dX9_carried_543 : decode cX9_carried 543 = .ok (.ireturn, 1) := by decide +kernel
set_option maxRecDepth 100000 in
set_option maxHeartbeats 4000000 in
theorem e_X9_carried_0 (x1 x2 x3 : Int) {σ : Mem} {Q : Int → Mem → Prop} (h : (12 ≤ x1 → (28 ≤ x1 → (60 ≤ x1 → (124 ≤ x1 → (x3 = 0 → WP GM M_X9_carried 427 [some (mr 0), some (mi x1), some (mi x2), some (mi x3), none, none] [mr 0] σ Q) ∧ (¬ x3 = 0 → (¬ x1 = 124 → WP GM M_X9_carried 427 [some (mr 0), some (mi x1), some (mi x2), some (mi x3), none, none] [mr 0] σ Q) ∧ (x1 = 124 → WP GM M_X9_carried 431 [some (mr 0), some (mi x1), some (mi x2), some (mi x3), none, none] [mi x2, mr 0] σ Q))) ∧ (¬ 124 ≤ x1 → (x3 = 0 → (0 ≤ jsub x1 60 ∧ jsub x1 60 < 64) ∧ (WP GM M_X9_carried 401 [some (mr 0), some (mi x1), none, none, none, none] [mi (σ 9 (jsub x1 60)), mi (jsub x1 60), mr 9] σ Q)) ∧ (¬ x3 = 0 → WP GM M_X9_carried 401 [some (mr 0), some (mi x1), none, none, none, none] [mi x2, mi (jsub x1 60), mr 9] σ Q))) ∧ (¬ 60 ≤ x1 → (x3 = 0 → WP GM M_X9_carried 223 [some (mr 0), none, some (mi x2), some (mi x3), some (mi (jrem (jsub x1 28) 8)), some (mi (jdiv (jsub x1 28) 8))] [mi (jrem (jsub x1 28) 8), mr 5] σ Q) ∧ (¬ x3 = 0 → (¬ jdiv (jsub x1 28) 8 = 0 → WP GM M_X9_carried 223 [some (mr 0), none, some (mi x2), some (mi x3), some (mi (jrem (jsub x1 28) 8)), some (mi (jdiv (jsub x1 28) 8))] [mi (jrem (jsub x1 28) 8), mr 5] σ Q) ∧ (jdiv (jsub x1 28) 8 = 0 → WP GM M_X9_carried 230 [some (mr 0), none, some (mi x2), some (mi x3), some (mi (jrem (jsub x1 28) 8)), some (mi (jdiv (jsub x1 28) 8))] [mi x2, mi (jrem (jsub x1 28) 8), mr 5] σ Q)))) ∧ (¬ 28 ≤ x1 → (x3 = 0 → (0 ≤ jsub x1 12 ∧ jsub x1 12 < 16) ∧ (WP GM M_X9_carried 169 [some (mr 0), some (mi x1), none, none, none, none] [mi (σ 4 (jsub x1 12)), mi (jsub x1 12), mr 4] σ Q)) ∧ (¬ x3 = 0 → WP GM M_X9_carried 169 [some (mr 0), some (mi x1), none, none, none, none] [mi x2, mi (jsub x1 12), mr 4] σ Q))) ∧ (¬ 12 ≤ x1 → (x3 = 0 → WP GM M_X9_carried 35 [some (mr 0), none, some (mi x2), some (mi x3), some (mi (jrem x1 4)), some (mi (jdiv x1 4))] [mi (jrem x1 4), mr 1] σ Q) ∧ (¬ x3 = 0 → (¬ jdiv x1 4 = 0 → WP GM M_X9_carried 35 [some (mr 0), none, some (mi x2), some (mi x3), some (mi (jrem x1 4)), some (mi (jdiv x1 4))] [mi (jrem x1 4), mr 1] σ Q) ∧ (jdiv x1 4 = 0 → WP GM M_X9_carried 42 [some (mr 0), none, some (mi x2), some (mi x3), some (mi (jrem x1 4)), some (mi (jdiv x1 4))] [mi x2, mi (jrem x1 4), mr 1] σ Q)))) : HT GM M_X9_carried [mr 0, mi x1, mi x2, mi x3] σ Q := by
  refine HT.of pn_X9 (Nat.le_of_ble_eq_true rfl) ?_
  show WP GM M_X9_carried 0 [some (mr 0), some (mi x1), some (mi x2), some (mi x3), none, none] [] σ Q
  refine WP.iload_n dX9_carried_0 rfl ?_
  refine WP.bipush dX9_carried_1 (by decide) bp_12 ?_
  refine WP.icmp_ge (tgt := 138) dX9_carried_3 (by decide) (fun q => ?_) (fun q => ?_)
  · have h := h.1 q
    refine WP.iload_n dX9_carried_138 rfl ?_
    refine WP.bipush dX9_carried_139 (by decide) bp_28 ?_
    refine WP.icmp_ge (tgt := 180) dX9_carried_141 (by decide) (fun q => ?_) (fun q => ?_)
    · have h := h.1 q
      refine WP.iload_n dX9_carried_180 rfl ?_
      refine WP.bipush dX9_carried_181 (by decide) bp_60 ?_
      refine WP.icmp_ge (tgt := 370) dX9_carried_183 (by decide) (fun q => ?_) (fun q => ?_)
      · have h := h.1 q
        refine WP.iload_n dX9_carried_370 rfl ?_
        refine WP.bipush dX9_carried_371 (by decide) bp_124 ?_
        refine WP.icmp_ge (tgt := 412) dX9_carried_373 (by decide) (fun q => ?_) (fun q => ?_)
        · have h := h.1 q
          refine WP.aload_n dX9_carried_412 rfl ?_
          refine WP.iload_n dX9_carried_413 rfl ?_
          refine WP.if_eq (tgt := 427) dX9_carried_414 (by decide) (fun q => ?_) (fun q => ?_)
          · have h := h.1 q
            exact h
          · have h := h.2 q
            refine WP.iload_n dX9_carried_417 rfl ?_
            refine WP.bipush dX9_carried_418 (by decide) bp_124 ?_
            refine WP.icmp_ne (tgt := 427) dX9_carried_420 (by decide) (fun q => ?_) (fun q => ?_)
            · have h := h.1 q
              exact h
            · have h := h.2 q
              refine WP.iload_n dX9_carried_423 rfl ?_
              refine WP.goto (tgt := 431) dX9_carried_424 (by decide) ?_
              exact h
        · have h := h.2 q
          refine WP.aload_n dX9_carried_376 rfl ?_
          refine WP.getR fd_X9_34 dX9_carried_377 k0 rfl ?_
          refine WP.iload_n dX9_carried_380 rfl ?_
          refine WP.bipush dX9_carried_381 (by decide) bp_60 ?_
          refine WP.isub dX9_carried_383 ?_
          refine WP.iload_n dX9_carried_384 rfl ?_
          refine WP.if_eq (tgt := 392) dX9_carried_385 (by decide) (fun q => ?_) (fun q => ?_)
          · have h := h.1 q
            refine WP.aload_n dX9_carried_392 rfl ?_
            refine WP.getR fd_X9_34 dX9_carried_393 k0 rfl ?_
            refine WP.iload_n dX9_carried_396 rfl ?_
            refine WP.bipush dX9_carried_397 (by decide) bp_60 ?_
            refine WP.isub dX9_carried_399 ?_
            obtain ⟨hi, h⟩ := h
            refine WP.iald dX9_carried_400 k9 hi ?_
            refine WP.drop 2 (L2 := [some (mr 0), some (mi x1), none, some (mi x3), none, none]) rfl ?_
            refine WP.drop 3 (L2 := [some (mr 0), some (mi x1), none, none, none, none]) rfl ?_
            exact h
          · have h := h.2 q
            refine WP.iload_n dX9_carried_388 rfl ?_
            refine WP.goto (tgt := 401) dX9_carried_389 (by decide) ?_
            refine WP.drop 2 (L2 := [some (mr 0), some (mi x1), none, some (mi x3), none, none]) rfl ?_
            refine WP.drop 3 (L2 := [some (mr 0), some (mi x1), none, none, none, none]) rfl ?_
            exact h
      · have h := h.2 q
        refine WP.iload_n dX9_carried_186 rfl ?_
        refine WP.bipush dX9_carried_187 (by decide) bp_28 ?_
        refine WP.isub dX9_carried_189 ?_
        refine WP.bipush dX9_carried_190 (by decide) bp_8 ?_
        refine WP.irem dX9_carried_192 (by decide) ?_
        refine WP.istore (L2 := [some (mr 0), some (mi x1), some (mi x2), some (mi x3), some (mi (jrem (jsub x1 28) 8)), none]) dX9_carried_193 (by decide) rfl ?_
        refine WP.iload_n dX9_carried_195 rfl ?_
        refine WP.bipush dX9_carried_196 (by decide) bp_28 ?_
        refine WP.isub dX9_carried_198 ?_
        refine WP.bipush dX9_carried_199 (by decide) bp_8 ?_
        refine WP.idiv dX9_carried_201 (by decide) ?_
        refine WP.istore (L2 := [some (mr 0), some (mi x1), some (mi x2), some (mi x3), some (mi (jrem (jsub x1 28) 8)), some (mi (jdiv (jsub x1 28) 8))]) dX9_carried_202 (by decide) rfl ?_
        refine WP.aload_n dX9_carried_204 rfl ?_
        refine WP.getR fd_X9_22 dX9_carried_205 k0 rfl ?_
        refine WP.iload dX9_carried_208 rfl ?_
        refine WP.iload_n dX9_carried_210 rfl ?_
        refine WP.if_eq (tgt := 223) dX9_carried_211 (by decide) (fun q => ?_) (fun q => ?_)
        · have h := h.1 q
          refine WP.drop 1 (L2 := [some (mr 0), none, some (mi x2), some (mi x3), some (mi (jrem (jsub x1 28) 8)), some (mi (jdiv (jsub x1 28) 8))]) rfl ?_
          exact h
        · have h := h.2 q
          refine WP.iload dX9_carried_214 rfl ?_
          refine WP.if_ne (tgt := 223) dX9_carried_216 (by decide) (fun q => ?_) (fun q => ?_)
          · have h := h.1 q
            refine WP.drop 1 (L2 := [some (mr 0), none, some (mi x2), some (mi x3), some (mi (jrem (jsub x1 28) 8)), some (mi (jdiv (jsub x1 28) 8))]) rfl ?_
            exact h
          · have h := h.2 q
            refine WP.iload_n dX9_carried_219 rfl ?_
            refine WP.goto (tgt := 230) dX9_carried_220 (by decide) ?_
            refine WP.drop 1 (L2 := [some (mr 0), none, some (mi x2), some (mi x3), some (mi (jrem (jsub x1 28) 8)), some (mi (jdiv (jsub x1 28) 8))]) rfl ?_
            exact h
    · have h := h.2 q
      refine WP.aload_n dX9_carried_144 rfl ?_
      refine WP.getR fd_X9_19 dX9_carried_145 k0 rfl ?_
      refine WP.iload_n dX9_carried_148 rfl ?_
      refine WP.bipush dX9_carried_149 (by decide) bp_12 ?_
      refine WP.isub dX9_carried_151 ?_
      refine WP.iload_n dX9_carried_152 rfl ?_
      refine WP.if_eq (tgt := 160) dX9_carried_153 (by decide) (fun q => ?_) (fun q => ?_)
      · have h := h.1 q
        refine WP.aload_n dX9_carried_160 rfl ?_
        refine WP.getR fd_X9_19 dX9_carried_161 k0 rfl ?_
        refine WP.iload_n dX9_carried_164 rfl ?_
        refine WP.bipush dX9_carried_165 (by decide) bp_12 ?_
        refine WP.isub dX9_carried_167 ?_
        obtain ⟨hi, h⟩ := h
        refine WP.iald dX9_carried_168 k4 hi ?_
        refine WP.drop 2 (L2 := [some (mr 0), some (mi x1), none, some (mi x3), none, none]) rfl ?_
        refine WP.drop 3 (L2 := [some (mr 0), some (mi x1), none, none, none, none]) rfl ?_
        exact h
      · have h := h.2 q
        refine WP.iload_n dX9_carried_156 rfl ?_
        refine WP.goto (tgt := 169) dX9_carried_157 (by decide) ?_
        refine WP.drop 2 (L2 := [some (mr 0), some (mi x1), none, some (mi x3), none, none]) rfl ?_
        refine WP.drop 3 (L2 := [some (mr 0), some (mi x1), none, none, none, none]) rfl ?_
        exact h
  · have h := h.2 q
    refine WP.iload_n dX9_carried_6 rfl ?_
    refine WP.iconst dX9_carried_7 (by decide) ?_
    refine WP.irem dX9_carried_8 (by decide) ?_
    refine WP.istore (L2 := [some (mr 0), some (mi x1), some (mi x2), some (mi x3), some (mi (jrem x1 4)), none]) dX9_carried_9 (by decide) rfl ?_
    refine WP.iload_n dX9_carried_11 rfl ?_
    refine WP.iconst dX9_carried_12 (by decide) ?_
    refine WP.idiv dX9_carried_13 (by decide) ?_
    refine WP.istore (L2 := [some (mr 0), some (mi x1), some (mi x2), some (mi x3), some (mi (jrem x1 4)), some (mi (jdiv x1 4))]) dX9_carried_14 (by decide) rfl ?_
    refine WP.aload_n dX9_carried_16 rfl ?_
    refine WP.getR fd_X9_7 dX9_carried_17 k0 rfl ?_
    refine WP.iload dX9_carried_20 rfl ?_
    refine WP.iload_n dX9_carried_22 rfl ?_
    refine WP.if_eq (tgt := 35) dX9_carried_23 (by decide) (fun q => ?_) (fun q => ?_)
    · have h := h.1 q
      refine WP.drop 1 (L2 := [some (mr 0), none, some (mi x2), some (mi x3), some (mi (jrem x1 4)), some (mi (jdiv x1 4))]) rfl ?_
      exact h
    · have h := h.2 q
      refine WP.iload dX9_carried_26 rfl ?_
      refine WP.if_ne (tgt := 35) dX9_carried_28 (by decide) (fun q => ?_) (fun q => ?_)
      · have h := h.1 q
        refine WP.drop 1 (L2 := [some (mr 0), none, some (mi x2), some (mi x3), some (mi (jrem x1 4)), some (mi (jdiv x1 4))]) rfl ?_
        exact h
      · have h := h.2 q
        refine WP.iload_n dX9_carried_31 rfl ?_
        refine WP.goto (tgt := 42) dX9_carried_32 (by decide) ?_
        refine WP.drop 1 (L2 := [some (mr 0), none, some (mi x2), some (mi x3), some (mi (jrem x1 4)), some (mi (jdiv x1 4))]) rfl ?_
        exact h
set_option maxRecDepth 100000 in
set_option maxHeartbeats 4000000 in
theorem b_X9_carried_0_35 (x2 x3 x4 x5 s0 : Int) {σ : Mem} {Q : Int → Mem → Prop} (h : (0 ≤ x4 ∧ x4 < 4) ∧ (WP GM M_X9_carried 42 [some (mr 0), none, some (mi x2), some (mi x3), some (mi x4), some (mi x5)] [mi (σ 1 x4), mi s0, mr 1] σ Q)) : WP GM M_X9_carried 35 [some (mr 0), none, some (mi x2), some (mi x3), some (mi x4), some (mi x5)] [mi s0, mr 1] σ Q := by
  refine WP.aload_n dX9_carried_35 rfl ?_
  refine WP.getR fd_X9_7 dX9_carried_36 k0 rfl ?_
  refine WP.iload dX9_carried_39 rfl ?_
  obtain ⟨hi, h⟩ := h
  refine WP.iald dX9_carried_41 k1 hi ?_
  exact h
set_option maxRecDepth 100000 in
set_option maxHeartbeats 4000000 in
theorem b_X9_carried_0_42 (x2 x3 x4 x5 s0 s1 : Int) {σ : Mem} {Q : Int → Mem → Prop} (h : (0 ≤ s1 ∧ s1 < 4) ∧ ((x3 = 0 → WP GM M_X9_carried 63 [some (mr 0), none, some (mi x2), some (mi x3), some (mi x4), some (mi x5)] [mi x4, mr 2] (mupd σ 1 s1 s0) Q) ∧ (¬ x3 = 0 → (¬ x5 = 1 → WP GM M_X9_carried 63 [some (mr 0), none, some (mi x2), some (mi x3), some (mi x4), some (mi x5)] [mi x4, mr 2] (mupd σ 1 s1 s0) Q) ∧ (x5 = 1 → WP GM M_X9_carried 70 [some (mr 0), none, some (mi x2), some (mi x3), some (mi x4), some (mi x5)] [mi x2, mi x4, mr 2] (mupd σ 1 s1 s0) Q)))) : WP GM M_X9_carried 42 [some (mr 0), none, some (mi x2), some (mi x3), some (mi x4), some (mi x5)] [mi s0, mi s1, mr 1] σ Q := by
  obtain ⟨hi, h⟩ := h
  refine WP.iast dX9_carried_42 k1 hi ?_
  refine WP.aload_n dX9_carried_43 rfl ?_
  refine WP.getR fd_X9_13 dX9_carried_44 k0 rfl ?_
  refine WP.iload dX9_carried_47 rfl ?_
  refine WP.iload_n dX9_carried_49 rfl ?_
  refine WP.if_eq (tgt := 63) dX9_carried_50 (by decide) (fun q => ?_) (fun q => ?_)
  · have h := h.1 q
    exact h
  · have h := h.2 q
    refine WP.iload dX9_carried_53 rfl ?_
    refine WP.iconst dX9_carried_55 (by decide) ?_
    refine WP.icmp_ne (tgt := 63) dX9_carried_56 (by decide) (fun q => ?_) (fun q => ?_)
    · have h := h.1 q
      exact h
    · have h := h.2 q
      refine WP.iload_n dX9_carried_59 rfl ?_
      refine WP.goto (tgt := 70) dX9_carried_60 (by decide) ?_
      exact h
set_option maxRecDepth 100000 in
set_option maxHeartbeats 4000000 in
theorem b_X9_carried_0_63 (x2 x3 x4 x5 s0 : Int) {σ : Mem} {Q : Int → Mem → Prop} (h : (0 ≤ x4 ∧ x4 < 4) ∧ (WP GM M_X9_carried 70 [some (mr 0), none, some (mi x2), some (mi x3), some (mi x4), some (mi x5)] [mi (σ 2 x4), mi s0, mr 2] σ Q)) : WP GM M_X9_carried 63 [some (mr 0), none, some (mi x2), some (mi x3), some (mi x4), some (mi x5)] [mi s0, mr 2] σ Q := by
  refine WP.aload_n dX9_carried_63 rfl ?_
  refine WP.getR fd_X9_13 dX9_carried_64 k0 rfl ?_
  refine WP.iload dX9_carried_67 rfl ?_
  obtain ⟨hi, h⟩ := h
  refine WP.iald dX9_carried_69 k2 hi ?_
  exact h
set_option maxRecDepth 100000 in
set_option maxHeartbeats 4000000 in
theorem b_X9_carried_0_70 (x2 x3 x4 x5 s0 s1 : Int) {σ : Mem} {Q : Int → Mem → Prop} (h : (0 ≤ s1 ∧ s1 < 4) ∧ ((x3 = 0 → WP GM M_X9_carried 91 [some (mr 0), none, none, none, some (mi x4), some (mi x5)] [mi x4, mr 3] (mupd σ 2 s1 s0) Q) ∧ (¬ x3 = 0 → (¬ x5 = 2 → WP GM M_X9_carried 91 [some (mr 0), none, none, none, some (mi x4), some (mi x5)] [mi x4, mr 3] (mupd σ 2 s1 s0) Q) ∧ (x5 = 2 → WP GM M_X9_carried 98 [some (mr 0), none, none, none, some (mi x4), some (mi x5)] [mi x2, mi x4, mr 3] (mupd σ 2 s1 s0) Q)))) : WP GM M_X9_carried 70 [some (mr 0), none, some (mi x2), some (mi x3), some (mi x4), some (mi x5)] [mi s0, mi s1, mr 2] σ Q := by
  obtain ⟨hi, h⟩ := h
  refine WP.iast dX9_carried_70 k2 hi ?_
  refine WP.aload_n dX9_carried_71 rfl ?_
  refine WP.getR fd_X9_16 dX9_carried_72 k0 rfl ?_
  refine WP.iload dX9_carried_75 rfl ?_
  refine WP.iload_n dX9_carried_77 rfl ?_
  refine WP.if_eq (tgt := 91) dX9_carried_78 (by decide) (fun q => ?_) (fun q => ?_)
  · have h := h.1 q
    refine WP.drop 2 (L2 := [some (mr 0), none, none, some (mi x3), some (mi x4), some (mi x5)]) rfl ?_
    refine WP.drop 3 (L2 := [some (mr 0), none, none, none, some (mi x4), some (mi x5)]) rfl ?_
    exact h
  · have h := h.2 q
    refine WP.iload dX9_carried_81 rfl ?_
    refine WP.iconst dX9_carried_83 (by decide) ?_
    refine WP.icmp_ne (tgt := 91) dX9_carried_84 (by decide) (fun q => ?_) (fun q => ?_)
    · have h := h.1 q
      refine WP.drop 2 (L2 := [some (mr 0), none, none, some (mi x3), some (mi x4), some (mi x5)]) rfl ?_
      refine WP.drop 3 (L2 := [some (mr 0), none, none, none, some (mi x4), some (mi x5)]) rfl ?_
      exact h
    · have h := h.2 q
      refine WP.iload_n dX9_carried_87 rfl ?_
      refine WP.goto (tgt := 98) dX9_carried_88 (by decide) ?_
      refine WP.drop 2 (L2 := [some (mr 0), none, none, some (mi x3), some (mi x4), some (mi x5)]) rfl ?_
      refine WP.drop 3 (L2 := [some (mr 0), none, none, none, some (mi x4), some (mi x5)]) rfl ?_
      exact h
set_option maxRecDepth 100000 in
set_option maxHeartbeats 4000000 in
theorem b_X9_carried_0_91 (x4 x5 s0 : Int) {σ : Mem} {Q : Int → Mem → Prop} (h : (0 ≤ x4 ∧ x4 < 4) ∧ (WP GM M_X9_carried 98 [some (mr 0), none, none, none, some (mi x4), some (mi x5)] [mi (σ 3 x4), mi s0, mr 3] σ Q)) : WP GM M_X9_carried 91 [some (mr 0), none, none, none, some (mi x4), some (mi x5)] [mi s0, mr 3] σ Q := by
  refine WP.aload_n dX9_carried_91 rfl ?_
  refine WP.getR fd_X9_16 dX9_carried_92 k0 rfl ?_
  refine WP.iload dX9_carried_95 rfl ?_
  obtain ⟨hi, h⟩ := h
  refine WP.iald dX9_carried_97 k3 hi ?_
  exact h
set_option maxRecDepth 100000 in
set_option maxHeartbeats 4000000 in
theorem b_X9_carried_0_98 (x4 x5 s0 s1 : Int) {σ : Mem} {Q : Int → Mem → Prop} (h : (0 ≤ s1 ∧ s1 < 4) ∧ ((¬ x5 = 0 → (¬ x5 = 1 → (0 ≤ x4 ∧ x4 < 4) ∧ (Q ((mupd σ 3 s1 s0) 3 x4) (mupd σ 3 s1 s0))) ∧ (x5 = 1 → (0 ≤ x4 ∧ x4 < 4) ∧ (Q (σ 2 x4) (mupd σ 3 s1 s0)))) ∧ (x5 = 0 → (0 ≤ x4 ∧ x4 < 4) ∧ (Q (σ 1 x4) (mupd σ 3 s1 s0))))) : WP GM M_X9_carried 98 [some (mr 0), none, none, none, some (mi x4), some (mi x5)] [mi s0, mi s1, mr 3] σ Q := by
  obtain ⟨hi, h⟩ := h
  refine WP.iast dX9_carried_98 k3 hi ?_
  refine WP.iload dX9_carried_99 rfl ?_
  refine WP.if_ne (tgt := 114) dX9_carried_101 (by decide) (fun q => ?_) (fun q => ?_)
  · have h := h.1 q
    refine WP.iload dX9_carried_114 rfl ?_
    refine WP.iconst dX9_carried_116 (by decide) ?_
    refine WP.icmp_ne (tgt := 130) dX9_carried_117 (by decide) (fun q => ?_) (fun q => ?_)
    · have h := h.1 q
      refine WP.aload_n dX9_carried_130 rfl ?_
      refine WP.getR fd_X9_16 dX9_carried_131 k0 rfl ?_
      refine WP.iload dX9_carried_134 rfl ?_
      obtain ⟨hi, h⟩ := h
      refine WP.iald dX9_carried_136 k3 hi ?_
      exact WP.iret rfl dX9_carried_137 h
    · have h := h.2 q
      refine WP.aload_n dX9_carried_120 rfl ?_
      refine WP.getR fd_X9_13 dX9_carried_121 k0 rfl ?_
      refine WP.iload dX9_carried_124 rfl ?_
      obtain ⟨hi, h⟩ := h
      refine WP.iald dX9_carried_126 k2 hi ?_
      refine WP.topI (y := σ 2 x4) (mupd_rp (by decide)) ?_
      refine WP.goto (tgt := 137) dX9_carried_127 (by decide) ?_
      exact WP.iret rfl dX9_carried_137 h
  · have h := h.2 q
    refine WP.aload_n dX9_carried_104 rfl ?_
    refine WP.getR fd_X9_7 dX9_carried_105 k0 rfl ?_
    refine WP.iload dX9_carried_108 rfl ?_
    obtain ⟨hi, h⟩ := h
    refine WP.iald dX9_carried_110 k1 hi ?_
    refine WP.topI (y := σ 1 x4) (mupd_rp (by decide)) ?_
    refine WP.goto (tgt := 137) dX9_carried_111 (by decide) ?_
    exact WP.iret rfl dX9_carried_137 h
set_option maxRecDepth 100000 in
set_option maxHeartbeats 4000000 in
theorem b_X9_carried_0_169 (x1 s0 s1 : Int) {σ : Mem} {Q : Int → Mem → Prop} (h : (0 ≤ s1 ∧ s1 < 16) ∧ ((0 ≤ jsub x1 12 ∧ jsub x1 12 < 16) ∧ (Q ((mupd σ 4 s1 s0) 4 (jsub x1 12)) (mupd σ 4 s1 s0)))) : WP GM M_X9_carried 169 [some (mr 0), some (mi x1), none, none, none, none] [mi s0, mi s1, mr 4] σ Q := by
  obtain ⟨hi, h⟩ := h
  refine WP.iast dX9_carried_169 k4 hi ?_
  refine WP.aload_n dX9_carried_170 rfl ?_
  refine WP.getR fd_X9_19 dX9_carried_171 k0 rfl ?_
  refine WP.iload_n dX9_carried_174 rfl ?_
  refine WP.bipush dX9_carried_175 (by decide) bp_12 ?_
  refine WP.isub dX9_carried_177 ?_
  obtain ⟨hi, h⟩ := h
  refine WP.iald dX9_carried_178 k4 hi ?_
  exact WP.iret rfl dX9_carried_179 h
set_option maxRecDepth 100000 in
set_option maxHeartbeats 4000000 in
theorem b_X9_carried_0_223 (x2 x3 x4 x5 s0 : Int) {σ : Mem} {Q : Int → Mem → Prop} (h : (0 ≤ x4 ∧ x4 < 8) ∧ (WP GM M_X9_carried 230 [some (mr 0), none, some (mi x2), some (mi x3), some (mi x4), some (mi x5)] [mi (σ 5 x4), mi s0, mr 5] σ Q)) : WP GM M_X9_carried 223 [some (mr 0), none, some (mi x2), some (mi x3), some (mi x4), some (mi x5)] [mi s0, mr 5] σ Q := by
  refine WP.aload_n dX9_carried_223 rfl ?_
  refine WP.getR fd_X9_22 dX9_carried_224 k0 rfl ?_
  refine WP.iload dX9_carried_227 rfl ?_
  obtain ⟨hi, h⟩ := h
  refine WP.iald dX9_carried_229 k5 hi ?_
  exact h
set_option maxRecDepth 100000 in
set_option maxHeartbeats 4000000 in
theorem b_X9_carried_0_230 (x2 x3 x4 x5 s0 s1 : Int) {σ : Mem} {Q : Int → Mem → Prop} (h : (0 ≤ s1 ∧ s1 < 8) ∧ ((x3 = 0 → WP GM M_X9_carried 251 [some (mr 0), none, some (mi x2), some (mi x3), some (mi x4), some (mi x5)] [mi x4, mr 6] (mupd σ 5 s1 s0) Q) ∧ (¬ x3 = 0 → (¬ x5 = 1 → WP GM M_X9_carried 251 [some (mr 0), none, some (mi x2), some (mi x3), some (mi x4), some (mi x5)] [mi x4, mr 6] (mupd σ 5 s1 s0) Q) ∧ (x5 = 1 → WP GM M_X9_carried 258 [some (mr 0), none, some (mi x2), some (mi x3), some (mi x4), some (mi x5)] [mi x2, mi x4, mr 6] (mupd σ 5 s1 s0) Q)))) : WP GM M_X9_carried 230 [some (mr 0), none, some (mi x2), some (mi x3), some (mi x4), some (mi x5)] [mi s0, mi s1, mr 5] σ Q := by
  obtain ⟨hi, h⟩ := h
  refine WP.iast dX9_carried_230 k5 hi ?_
  refine WP.aload_n dX9_carried_231 rfl ?_
  refine WP.getR fd_X9_25 dX9_carried_232 k0 rfl ?_
  refine WP.iload dX9_carried_235 rfl ?_
  refine WP.iload_n dX9_carried_237 rfl ?_
  refine WP.if_eq (tgt := 251) dX9_carried_238 (by decide) (fun q => ?_) (fun q => ?_)
  · have h := h.1 q
    exact h
  · have h := h.2 q
    refine WP.iload dX9_carried_241 rfl ?_
    refine WP.iconst dX9_carried_243 (by decide) ?_
    refine WP.icmp_ne (tgt := 251) dX9_carried_244 (by decide) (fun q => ?_) (fun q => ?_)
    · have h := h.1 q
      exact h
    · have h := h.2 q
      refine WP.iload_n dX9_carried_247 rfl ?_
      refine WP.goto (tgt := 258) dX9_carried_248 (by decide) ?_
      exact h
set_option maxRecDepth 100000 in
set_option maxHeartbeats 4000000 in
theorem b_X9_carried_0_251 (x2 x3 x4 x5 s0 : Int) {σ : Mem} {Q : Int → Mem → Prop} (h : (0 ≤ x4 ∧ x4 < 8) ∧ (WP GM M_X9_carried 258 [some (mr 0), none, some (mi x2), some (mi x3), some (mi x4), some (mi x5)] [mi (σ 6 x4), mi s0, mr 6] σ Q)) : WP GM M_X9_carried 251 [some (mr 0), none, some (mi x2), some (mi x3), some (mi x4), some (mi x5)] [mi s0, mr 6] σ Q := by
  refine WP.aload_n dX9_carried_251 rfl ?_
  refine WP.getR fd_X9_25 dX9_carried_252 k0 rfl ?_
  refine WP.iload dX9_carried_255 rfl ?_
  obtain ⟨hi, h⟩ := h
  refine WP.iald dX9_carried_257 k6 hi ?_
  exact h
set_option maxRecDepth 100000 in
set_option maxHeartbeats 4000000 in
theorem b_X9_carried_0_258 (x2 x3 x4 x5 s0 s1 : Int) {σ : Mem} {Q : Int → Mem → Prop} (h : (0 ≤ s1 ∧ s1 < 8) ∧ ((x3 = 0 → WP GM M_X9_carried 279 [some (mr 0), none, some (mi x2), some (mi x3), some (mi x4), some (mi x5)] [mi x4, mr 7] (mupd σ 6 s1 s0) Q) ∧ (¬ x3 = 0 → (¬ x5 = 2 → WP GM M_X9_carried 279 [some (mr 0), none, some (mi x2), some (mi x3), some (mi x4), some (mi x5)] [mi x4, mr 7] (mupd σ 6 s1 s0) Q) ∧ (x5 = 2 → WP GM M_X9_carried 286 [some (mr 0), none, some (mi x2), some (mi x3), some (mi x4), some (mi x5)] [mi x2, mi x4, mr 7] (mupd σ 6 s1 s0) Q)))) : WP GM M_X9_carried 258 [some (mr 0), none, some (mi x2), some (mi x3), some (mi x4), some (mi x5)] [mi s0, mi s1, mr 6] σ Q := by
  obtain ⟨hi, h⟩ := h
  refine WP.iast dX9_carried_258 k6 hi ?_
  refine WP.aload_n dX9_carried_259 rfl ?_
  refine WP.getR fd_X9_28 dX9_carried_260 k0 rfl ?_
  refine WP.iload dX9_carried_263 rfl ?_
  refine WP.iload_n dX9_carried_265 rfl ?_
  refine WP.if_eq (tgt := 279) dX9_carried_266 (by decide) (fun q => ?_) (fun q => ?_)
  · have h := h.1 q
    exact h
  · have h := h.2 q
    refine WP.iload dX9_carried_269 rfl ?_
    refine WP.iconst dX9_carried_271 (by decide) ?_
    refine WP.icmp_ne (tgt := 279) dX9_carried_272 (by decide) (fun q => ?_) (fun q => ?_)
    · have h := h.1 q
      exact h
    · have h := h.2 q
      refine WP.iload_n dX9_carried_275 rfl ?_
      refine WP.goto (tgt := 286) dX9_carried_276 (by decide) ?_
      exact h
set_option maxRecDepth 100000 in
set_option maxHeartbeats 4000000 in
theorem b_X9_carried_0_279 (x2 x3 x4 x5 s0 : Int) {σ : Mem} {Q : Int → Mem → Prop} (h : (0 ≤ x4 ∧ x4 < 8) ∧ (WP GM M_X9_carried 286 [some (mr 0), none, some (mi x2), some (mi x3), some (mi x4), some (mi x5)] [mi (σ 7 x4), mi s0, mr 7] σ Q)) : WP GM M_X9_carried 279 [some (mr 0), none, some (mi x2), some (mi x3), some (mi x4), some (mi x5)] [mi s0, mr 7] σ Q := by
  refine WP.aload_n dX9_carried_279 rfl ?_
  refine WP.getR fd_X9_28 dX9_carried_280 k0 rfl ?_
  refine WP.iload dX9_carried_283 rfl ?_
  obtain ⟨hi, h⟩ := h
  refine WP.iald dX9_carried_285 k7 hi ?_
  exact h
set_option maxRecDepth 100000 in
set_option maxHeartbeats 4000000 in
theorem b_X9_carried_0_286 (x2 x3 x4 x5 s0 s1 : Int) {σ : Mem} {Q : Int → Mem → Prop} (h : (0 ≤ s1 ∧ s1 < 8) ∧ ((x3 = 0 → WP GM M_X9_carried 307 [some (mr 0), none, none, none, some (mi x4), some (mi x5)] [mi x4, mr 8] (mupd σ 7 s1 s0) Q) ∧ (¬ x3 = 0 → (¬ x5 = 3 → WP GM M_X9_carried 307 [some (mr 0), none, none, none, some (mi x4), some (mi x5)] [mi x4, mr 8] (mupd σ 7 s1 s0) Q) ∧ (x5 = 3 → WP GM M_X9_carried 314 [some (mr 0), none, none, none, some (mi x4), some (mi x5)] [mi x2, mi x4, mr 8] (mupd σ 7 s1 s0) Q)))) : WP GM M_X9_carried 286 [some (mr 0), none, some (mi x2), some (mi x3), some (mi x4), some (mi x5)] [mi s0, mi s1, mr 7] σ Q := by
  obtain ⟨hi, h⟩ := h
  refine WP.iast dX9_carried_286 k7 hi ?_
  refine WP.aload_n dX9_carried_287 rfl ?_
  refine WP.getR fd_X9_31 dX9_carried_288 k0 rfl ?_
  refine WP.iload dX9_carried_291 rfl ?_
  refine WP.iload_n dX9_carried_293 rfl ?_
  refine WP.if_eq (tgt := 307) dX9_carried_294 (by decide) (fun q => ?_) (fun q => ?_)
  · have h := h.1 q
    refine WP.drop 2 (L2 := [some (mr 0), none, none, some (mi x3), some (mi x4), some (mi x5)]) rfl ?_
    refine WP.drop 3 (L2 := [some (mr 0), none, none, none, some (mi x4), some (mi x5)]) rfl ?_
    exact h
  · have h := h.2 q
    refine WP.iload dX9_carried_297 rfl ?_
    refine WP.iconst dX9_carried_299 (by decide) ?_
    refine WP.icmp_ne (tgt := 307) dX9_carried_300 (by decide) (fun q => ?_) (fun q => ?_)
    · have h := h.1 q
      refine WP.drop 2 (L2 := [some (mr 0), none, none, some (mi x3), some (mi x4), some (mi x5)]) rfl ?_
      refine WP.drop 3 (L2 := [some (mr 0), none, none, none, some (mi x4), some (mi x5)]) rfl ?_
      exact h
    · have h := h.2 q
      refine WP.iload_n dX9_carried_303 rfl ?_
      refine WP.goto (tgt := 314) dX9_carried_304 (by decide) ?_
      refine WP.drop 2 (L2 := [some (mr 0), none, none, some (mi x3), some (mi x4), some (mi x5)]) rfl ?_
      refine WP.drop 3 (L2 := [some (mr 0), none, none, none, some (mi x4), some (mi x5)]) rfl ?_
      exact h
set_option maxRecDepth 100000 in
set_option maxHeartbeats 4000000 in
theorem b_X9_carried_0_307 (x4 x5 s0 : Int) {σ : Mem} {Q : Int → Mem → Prop} (h : (0 ≤ x4 ∧ x4 < 8) ∧ (WP GM M_X9_carried 314 [some (mr 0), none, none, none, some (mi x4), some (mi x5)] [mi (σ 8 x4), mi s0, mr 8] σ Q)) : WP GM M_X9_carried 307 [some (mr 0), none, none, none, some (mi x4), some (mi x5)] [mi s0, mr 8] σ Q := by
  refine WP.aload_n dX9_carried_307 rfl ?_
  refine WP.getR fd_X9_31 dX9_carried_308 k0 rfl ?_
  refine WP.iload dX9_carried_311 rfl ?_
  obtain ⟨hi, h⟩ := h
  refine WP.iald dX9_carried_313 k8 hi ?_
  exact h
set_option maxRecDepth 100000 in
set_option maxHeartbeats 4000000 in
theorem b_X9_carried_0_314 (x4 x5 s0 s1 : Int) {σ : Mem} {Q : Int → Mem → Prop} (h : (0 ≤ s1 ∧ s1 < 8) ∧ ((¬ x5 = 0 → (¬ x5 = 1 → (¬ x5 = 2 → (0 ≤ x4 ∧ x4 < 8) ∧ (Q ((mupd σ 8 s1 s0) 8 x4) (mupd σ 8 s1 s0))) ∧ (x5 = 2 → (0 ≤ x4 ∧ x4 < 8) ∧ (Q (σ 7 x4) (mupd σ 8 s1 s0)))) ∧ (x5 = 1 → (0 ≤ x4 ∧ x4 < 8) ∧ (Q (σ 6 x4) (mupd σ 8 s1 s0)))) ∧ (x5 = 0 → (0 ≤ x4 ∧ x4 < 8) ∧ (Q (σ 5 x4) (mupd σ 8 s1 s0))))) : WP GM M_X9_carried 314 [some (mr 0), none, none, none, some (mi x4), some (mi x5)] [mi s0, mi s1, mr 8] σ Q := by
  obtain ⟨hi, h⟩ := h
  refine WP.iast dX9_carried_314 k8 hi ?_
  refine WP.iload dX9_carried_315 rfl ?_
  refine WP.if_ne (tgt := 330) dX9_carried_317 (by decide) (fun q => ?_) (fun q => ?_)
  · have h := h.1 q
    refine WP.iload dX9_carried_330 rfl ?_
    refine WP.iconst dX9_carried_332 (by decide) ?_
    refine WP.icmp_ne (tgt := 346) dX9_carried_333 (by decide) (fun q => ?_) (fun q => ?_)
    · have h := h.1 q
      refine WP.iload dX9_carried_346 rfl ?_
      refine WP.iconst dX9_carried_348 (by decide) ?_
      refine WP.icmp_ne (tgt := 362) dX9_carried_349 (by decide) (fun q => ?_) (fun q => ?_)
      · have h := h.1 q
        refine WP.aload_n dX9_carried_362 rfl ?_
        refine WP.getR fd_X9_31 dX9_carried_363 k0 rfl ?_
        refine WP.iload dX9_carried_366 rfl ?_
        obtain ⟨hi, h⟩ := h
        refine WP.iald dX9_carried_368 k8 hi ?_
        exact WP.iret rfl dX9_carried_369 h
      · have h := h.2 q
        refine WP.aload_n dX9_carried_352 rfl ?_
        refine WP.getR fd_X9_28 dX9_carried_353 k0 rfl ?_
        refine WP.iload dX9_carried_356 rfl ?_
        obtain ⟨hi, h⟩ := h
        refine WP.iald dX9_carried_358 k7 hi ?_
        refine WP.topI (y := σ 7 x4) (mupd_rp (by decide)) ?_
        refine WP.goto (tgt := 369) dX9_carried_359 (by decide) ?_
        exact WP.iret rfl dX9_carried_369 h
    · have h := h.2 q
      refine WP.aload_n dX9_carried_336 rfl ?_
      refine WP.getR fd_X9_25 dX9_carried_337 k0 rfl ?_
      refine WP.iload dX9_carried_340 rfl ?_
      obtain ⟨hi, h⟩ := h
      refine WP.iald dX9_carried_342 k6 hi ?_
      refine WP.topI (y := σ 6 x4) (mupd_rp (by decide)) ?_
      refine WP.goto (tgt := 369) dX9_carried_343 (by decide) ?_
      exact WP.iret rfl dX9_carried_369 h
  · have h := h.2 q
    refine WP.aload_n dX9_carried_320 rfl ?_
    refine WP.getR fd_X9_22 dX9_carried_321 k0 rfl ?_
    refine WP.iload dX9_carried_324 rfl ?_
    obtain ⟨hi, h⟩ := h
    refine WP.iald dX9_carried_326 k5 hi ?_
    refine WP.topI (y := σ 5 x4) (mupd_rp (by decide)) ?_
    refine WP.goto (tgt := 369) dX9_carried_327 (by decide) ?_
    exact WP.iret rfl dX9_carried_369 h
set_option maxRecDepth 100000 in
set_option maxHeartbeats 4000000 in
theorem b_X9_carried_0_401 (x1 s0 s1 : Int) {σ : Mem} {Q : Int → Mem → Prop} (h : (0 ≤ s1 ∧ s1 < 64) ∧ ((0 ≤ jsub x1 60 ∧ jsub x1 60 < 64) ∧ (Q ((mupd σ 9 s1 s0) 9 (jsub x1 60)) (mupd σ 9 s1 s0)))) : WP GM M_X9_carried 401 [some (mr 0), some (mi x1), none, none, none, none] [mi s0, mi s1, mr 9] σ Q := by
  obtain ⟨hi, h⟩ := h
  refine WP.iast dX9_carried_401 k9 hi ?_
  refine WP.aload_n dX9_carried_402 rfl ?_
  refine WP.getR fd_X9_34 dX9_carried_403 k0 rfl ?_
  refine WP.iload_n dX9_carried_406 rfl ?_
  refine WP.bipush dX9_carried_407 (by decide) bp_60 ?_
  refine WP.isub dX9_carried_409 ?_
  obtain ⟨hi, h⟩ := h
  refine WP.iald dX9_carried_410 k9 hi ?_
  exact WP.iret rfl dX9_carried_411 h
set_option maxRecDepth 100000 in
set_option maxHeartbeats 4000000 in
theorem b_X9_carried_0_427 (x1 x2 x3 : Int) {σ : Mem} {Q : Int → Mem → Prop} (h : WP GM M_X9_carried 431 [some (mr 0), some (mi x1), some (mi x2), some (mi x3), none, none] [mi (σ 0 4), mr 0] σ Q) : WP GM M_X9_carried 427 [some (mr 0), some (mi x1), some (mi x2), some (mi x3), none, none] [mr 0] σ Q := by
  refine WP.aload_n dX9_carried_427 rfl ?_
  refine WP.getI (v := σ 0 4) fd_X9_86 dX9_carried_428 k0 rfl rfl ?_
  exact h
set_option maxRecDepth 100000 in
set_option maxHeartbeats 4000000 in
theorem b_X9_carried_0_431 (x1 x2 x3 s0 : Int) {σ : Mem} {Q : Int → Mem → Prop} (h : (x3 = 0 → WP GM M_X9_carried 449 [some (mr 0), some (mi x1), some (mi x2), some (mi x3), none, none] [mr 0] (mupd σ 0 4 s0) Q) ∧ (¬ x3 = 0 → (¬ x1 = 125 → WP GM M_X9_carried 449 [some (mr 0), some (mi x1), some (mi x2), some (mi x3), none, none] [mr 0] (mupd σ 0 4 s0) Q) ∧ (x1 = 125 → WP GM M_X9_carried 453 [some (mr 0), some (mi x1), some (mi x2), some (mi x3), none, none] [mi x2, mr 0] (mupd σ 0 4 s0) Q))) : WP GM M_X9_carried 431 [some (mr 0), some (mi x1), some (mi x2), some (mi x3), none, none] [mi s0, mr 0] σ Q := by
  refine WP.put fp_X9_86 dX9_carried_431 k0 rfl rfl rfl ?_
  refine WP.aload_n dX9_carried_434 rfl ?_
  refine WP.iload_n dX9_carried_435 rfl ?_
  refine WP.if_eq (tgt := 449) dX9_carried_436 (by decide) (fun q => ?_) (fun q => ?_)
  · have h := h.1 q
    exact h
  · have h := h.2 q
    refine WP.iload_n dX9_carried_439 rfl ?_
    refine WP.bipush dX9_carried_440 (by decide) bp_125 ?_
    refine WP.icmp_ne (tgt := 449) dX9_carried_442 (by decide) (fun q => ?_) (fun q => ?_)
    · have h := h.1 q
      exact h
    · have h := h.2 q
      refine WP.iload_n dX9_carried_445 rfl ?_
      refine WP.goto (tgt := 453) dX9_carried_446 (by decide) ?_
      exact h
set_option maxRecDepth 100000 in
set_option maxHeartbeats 4000000 in
theorem b_X9_carried_0_449 (x1 x2 x3 : Int) {σ : Mem} {Q : Int → Mem → Prop} (h : WP GM M_X9_carried 453 [some (mr 0), some (mi x1), some (mi x2), some (mi x3), none, none] [mi (σ 0 9), mr 0] σ Q) : WP GM M_X9_carried 449 [some (mr 0), some (mi x1), some (mi x2), some (mi x3), none, none] [mr 0] σ Q := by
  refine WP.aload_n dX9_carried_449 rfl ?_
  refine WP.getI (v := σ 0 9) fd_X9_89 dX9_carried_450 k0 rfl rfl ?_
  exact h
set_option maxRecDepth 100000 in
set_option maxHeartbeats 4000000 in
theorem b_X9_carried_0_453 (x1 x2 x3 s0 : Int) {σ : Mem} {Q : Int → Mem → Prop} (h : (x3 = 0 → WP GM M_X9_carried 471 [some (mr 0), some (mi x1), some (mi x2), some (mi x3), none, none] [mr 0] (mupd σ 0 9 s0) Q) ∧ (¬ x3 = 0 → (¬ x1 = 126 → WP GM M_X9_carried 471 [some (mr 0), some (mi x1), some (mi x2), some (mi x3), none, none] [mr 0] (mupd σ 0 9 s0) Q) ∧ (x1 = 126 → WP GM M_X9_carried 475 [some (mr 0), some (mi x1), some (mi x2), some (mi x3), none, none] [mi x2, mr 0] (mupd σ 0 9 s0) Q))) : WP GM M_X9_carried 453 [some (mr 0), some (mi x1), some (mi x2), some (mi x3), none, none] [mi s0, mr 0] σ Q := by
  refine WP.put fp_X9_89 dX9_carried_453 k0 rfl rfl rfl ?_
  refine WP.aload_n dX9_carried_456 rfl ?_
  refine WP.iload_n dX9_carried_457 rfl ?_
  refine WP.if_eq (tgt := 471) dX9_carried_458 (by decide) (fun q => ?_) (fun q => ?_)
  · have h := h.1 q
    exact h
  · have h := h.2 q
    refine WP.iload_n dX9_carried_461 rfl ?_
    refine WP.bipush dX9_carried_462 (by decide) bp_126 ?_
    refine WP.icmp_ne (tgt := 471) dX9_carried_464 (by decide) (fun q => ?_) (fun q => ?_)
    · have h := h.1 q
      exact h
    · have h := h.2 q
      refine WP.iload_n dX9_carried_467 rfl ?_
      refine WP.goto (tgt := 475) dX9_carried_468 (by decide) ?_
      exact h
set_option maxRecDepth 100000 in
set_option maxHeartbeats 4000000 in
theorem b_X9_carried_0_471 (x1 x2 x3 : Int) {σ : Mem} {Q : Int → Mem → Prop} (h : WP GM M_X9_carried 475 [some (mr 0), some (mi x1), some (mi x2), some (mi x3), none, none] [mi (σ 0 11), mr 0] σ Q) : WP GM M_X9_carried 471 [some (mr 0), some (mi x1), some (mi x2), some (mi x3), none, none] [mr 0] σ Q := by
  refine WP.aload_n dX9_carried_471 rfl ?_
  refine WP.getI (v := σ 0 11) fd_X9_129 dX9_carried_472 k0 rfl rfl ?_
  exact h
set_option maxRecDepth 100000 in
set_option maxHeartbeats 4000000 in
theorem b_X9_carried_0_475 (x1 x2 x3 s0 : Int) {σ : Mem} {Q : Int → Mem → Prop} (h : (x3 = 0 → WP GM M_X9_carried 493 [some (mr 0), some (mi x1), none, none, none, none] [mr 0] (mupd σ 0 11 s0) Q) ∧ (¬ x3 = 0 → (¬ x1 = 127 → WP GM M_X9_carried 493 [some (mr 0), some (mi x1), none, none, none, none] [mr 0] (mupd σ 0 11 s0) Q) ∧ (x1 = 127 → WP GM M_X9_carried 497 [some (mr 0), some (mi x1), none, none, none, none] [mi x2, mr 0] (mupd σ 0 11 s0) Q))) : WP GM M_X9_carried 475 [some (mr 0), some (mi x1), some (mi x2), some (mi x3), none, none] [mi s0, mr 0] σ Q := by
  refine WP.put fp_X9_129 dX9_carried_475 k0 rfl rfl rfl ?_
  refine WP.aload_n dX9_carried_478 rfl ?_
  refine WP.iload_n dX9_carried_479 rfl ?_
  refine WP.if_eq (tgt := 493) dX9_carried_480 (by decide) (fun q => ?_) (fun q => ?_)
  · have h := h.1 q
    refine WP.drop 2 (L2 := [some (mr 0), some (mi x1), none, some (mi x3), none, none]) rfl ?_
    refine WP.drop 3 (L2 := [some (mr 0), some (mi x1), none, none, none, none]) rfl ?_
    exact h
  · have h := h.2 q
    refine WP.iload_n dX9_carried_483 rfl ?_
    refine WP.bipush dX9_carried_484 (by decide) bp_127 ?_
    refine WP.icmp_ne (tgt := 493) dX9_carried_486 (by decide) (fun q => ?_) (fun q => ?_)
    · have h := h.1 q
      refine WP.drop 2 (L2 := [some (mr 0), some (mi x1), none, some (mi x3), none, none]) rfl ?_
      refine WP.drop 3 (L2 := [some (mr 0), some (mi x1), none, none, none, none]) rfl ?_
      exact h
    · have h := h.2 q
      refine WP.iload_n dX9_carried_489 rfl ?_
      refine WP.goto (tgt := 497) dX9_carried_490 (by decide) ?_
      refine WP.drop 2 (L2 := [some (mr 0), some (mi x1), none, some (mi x3), none, none]) rfl ?_
      refine WP.drop 3 (L2 := [some (mr 0), some (mi x1), none, none, none, none]) rfl ?_
      exact h
set_option maxRecDepth 100000 in
set_option maxHeartbeats 4000000 in
theorem b_X9_carried_0_493 (x1 : Int) {σ : Mem} {Q : Int → Mem → Prop} (h : WP GM M_X9_carried 497 [some (mr 0), some (mi x1), none, none, none, none] [mi (σ 0 12), mr 0] σ Q) : WP GM M_X9_carried 493 [some (mr 0), some (mi x1), none, none, none, none] [mr 0] σ Q := by
  refine WP.aload_n dX9_carried_493 rfl ?_
  refine WP.getI (v := σ 0 12) fd_X9_37 dX9_carried_494 k0 rfl rfl ?_
  exact h
set_option maxRecDepth 100000 in
set_option maxHeartbeats 4000000 in
theorem b_X9_carried_0_497 (x1 s0 : Int) {σ : Mem} {Q : Int → Mem → Prop} (h : (¬ x1 = 124 → (¬ x1 = 125 → (¬ x1 = 126 → Q s0 (mupd σ 0 12 s0)) ∧ (x1 = 126 → Q (σ 0 11) (mupd σ 0 12 s0))) ∧ (x1 = 125 → Q (σ 0 9) (mupd σ 0 12 s0))) ∧ (x1 = 124 → Q (σ 0 4) (mupd σ 0 12 s0))) : WP GM M_X9_carried 497 [some (mr 0), some (mi x1), none, none, none, none] [mi s0, mr 0] σ Q := by
  refine WP.put fp_X9_37 dX9_carried_497 k0 rfl rfl rfl ?_
  refine WP.iload_n dX9_carried_500 rfl ?_
  refine WP.bipush dX9_carried_501 (by decide) bp_124 ?_
  refine WP.icmp_ne (tgt := 513) dX9_carried_503 (by decide) (fun q => ?_) (fun q => ?_)
  · have h := h.1 q
    refine WP.iload_n dX9_carried_513 rfl ?_
    refine WP.bipush dX9_carried_514 (by decide) bp_125 ?_
    refine WP.icmp_ne (tgt := 526) dX9_carried_516 (by decide) (fun q => ?_) (fun q => ?_)
    · have h := h.1 q
      refine WP.iload_n dX9_carried_526 rfl ?_
      refine WP.bipush dX9_carried_527 (by decide) bp_126 ?_
      refine WP.icmp_ne (tgt := 539) dX9_carried_529 (by decide) (fun q => ?_) (fun q => ?_)
      · have h := h.1 q
        refine WP.aload_n dX9_carried_539 rfl ?_
        refine WP.getI (v := s0) fd_X9_37 dX9_carried_540 k0 rfl mupd_at ?_
        exact WP.iret rfl dX9_carried_543 h
      · have h := h.2 q
        refine WP.aload_n dX9_carried_532 rfl ?_
        refine WP.getI (v := σ 0 11) fd_X9_129 dX9_carried_533 k0 rfl (mupd_ri (by decide)) ?_
        refine WP.goto (tgt := 543) dX9_carried_536 (by decide) ?_
        exact WP.iret rfl dX9_carried_543 h
    · have h := h.2 q
      refine WP.aload_n dX9_carried_519 rfl ?_
      refine WP.getI (v := σ 0 9) fd_X9_89 dX9_carried_520 k0 rfl (mupd_ri (by decide)) ?_
      refine WP.goto (tgt := 543) dX9_carried_523 (by decide) ?_
      exact WP.iret rfl dX9_carried_543 h
  · have h := h.2 q
    refine WP.aload_n dX9_carried_506 rfl ?_
    refine WP.getI (v := σ 0 4) fd_X9_86 dX9_carried_507 k0 rfl (mupd_ri (by decide)) ?_
    refine WP.goto (tgt := 543) dX9_carried_510 (by decide) ?_
    exact WP.iret rfl dX9_carried_543 h
theorem dX9_image_0 : decode cX9_image 0 = .ok (.iconst 0, 1) := by decide +kernel
theorem dX9_image_1 : decode cX9_image 1 = .ok (.istore_n 1, 1) := by decide +kernel
theorem dX9_image_2 : decode cX9_image 2 = .ok (.iload_n 1, 1) := by decide +kernel
theorem dX9_image_3 : decode cX9_image 3 = .ok (.sipush 128, 3) := by decide +kernel
theorem dX9_image_6 : decode cX9_image 6 = .ok (.if_icmp .ge 22, 3) := by decide +kernel
theorem dX9_image_9 : decode cX9_image 9 = .ok (.aload_n 0, 1) := by decide +kernel
theorem dX9_image_10 : decode cX9_image 10 = .ok (.getfield 62, 3) := by decide +kernel
theorem dX9_image_13 : decode cX9_image 13 = .ok (.iload_n 1, 1) := by decide +kernel
theorem dX9_image_14 : decode cX9_image 14 = .ok (.aload_n 0, 1) := by decide +kernel
theorem dX9_image_15 : decode cX9_image 15 = .ok (.iload_n 1, 1) := by decide +kernel
theorem dX9_image_16 : decode cX9_image 16 = .ok (.iconst 0, 1) := by decide +kernel
theorem dX9_image_17 : decode cX9_image 17 = .ok (.iconst 0, 1) := by decide +kernel
theorem dX9_image_18 : decode cX9_image 18 = .ok (.invokevirtual 252, 3) := by decide +kernel
theorem dX9_image_21 : decode cX9_image 21 = .ok (.iastore, 1) := by decide +kernel
theorem dX9_image_22 : decode cX9_image 22 = .ok (.iinc 1 1, 3) := by decide +kernel
theorem dX9_image_25 : decode cX9_image 25 = .ok (.goto (-23), 3) := by decide +kernel
theorem dX9_image_28 : decode cX9_image 28 = .ok (.aload_n 0, 1) := by decide +kernel
theorem dX9_image_29 : decode cX9_image 29 = .ok (.iconst 1, 1) := by decide +kernel
theorem dX9_image_30 : decode cX9_image 30 = .ok (.putfield 256, 3) := by decide +kernel
theorem dX9_image_33 : decode cX9_image 33 = .ok (.iconst 1, 1) := by decide +kernel
theorem dX9_image_34 : decode cX9_image 34 = .ok (.ireturn, 1) := by decide +kernel
set_option maxRecDepth 100000 in
set_option maxHeartbeats 4000000 in
theorem e_X9_image_0 {σ : Mem} {Q : Int → Mem → Prop} (h : WP GM M_X9_image 2 [some (mr 0), some (mi 0)] [] σ Q) : HT GM M_X9_image [mr 0] σ Q := by
  refine HT.of pn_X9 (Nat.le_of_ble_eq_true rfl) ?_
  show WP GM M_X9_image 0 [some (mr 0), none] [] σ Q
  refine WP.iconst dX9_image_0 (by decide) ?_
  refine WP.istore_n (L2 := [some (mr 0), some (mi 0)]) dX9_image_1 (by decide) rfl ?_
  exact h
set_option maxRecDepth 100000 in
set_option maxHeartbeats 4000000 in
theorem b_X9_image_0_2 (x1 : Int) {σ : Mem} {Q : Int → Mem → Prop} (h : (128 ≤ x1 → Q 1 (mupd σ 0 26 1)) ∧ (¬ 128 ≤ x1 → HT GM M_X9_carried [mr 0, mi x1, mi 0, mi 0] σ (fun r18 σ18 => (0 ≤ x1 ∧ x1 < 128) ∧ (WP GM M_X9_image 2 [some (mr 0), some (mi (jadd x1 1))] [] (mupd σ18 17 x1 r18) Q)))) : WP GM M_X9_image 2 [some (mr 0), some (mi x1)] [] σ Q := by
  refine WP.iload_n dX9_image_2 rfl ?_
  refine WP.sipush dX9_image_3 (by decide) sp_128 ?_
  refine WP.icmp_ge (tgt := 28) dX9_image_6 (by decide) (fun q => ?_) (fun q => ?_)
  · have h := h.1 q
    refine WP.aload_n dX9_image_28 rfl ?_
    refine WP.iconst dX9_image_29 (by decide) ?_
    refine WP.put fp_X9_256 dX9_image_30 k0 rfl (by decide) (by decide) ?_
    refine WP.iconst dX9_image_33 (by decide) ?_
    exact WP.iret rfl dX9_image_34 h
  · have h := h.2 q
    refine WP.aload_n dX9_image_9 rfl ?_
    refine WP.getR fd_X9_62 dX9_image_10 k0 rfl ?_
    refine WP.iload_n dX9_image_13 rfl ?_
    refine WP.aload_n dX9_image_14 rfl ?_
    refine WP.iload_n dX9_image_15 rfl ?_
    refine WP.iconst dX9_image_16 (by decide) ?_
    refine WP.iconst dX9_image_17 (by decide) ?_
    refine WP.callV M_X9_carried [mi x1, mi 0, mi 0] cv_X9_carried dX9_image_18 lk_X9_252 k0 rfl ft_X9_image__X9_carried rfl (Nat.le_of_ble_eq_true rfl) (HT.mono h ?_)
    rintro r18 σ18 - - h
    obtain ⟨hi, h⟩ := h
    refine WP.iast dX9_image_21 k17 hi ?_
    refine WP.iinc (L2 := [some (mr 0), some (mi (jadd x1 1))]) dX9_image_22 (by decide) rfl (by decide) rfl ?_
    refine WP.goto (tgt := 2) dX9_image_25 (by decide) ?_
    exact h
theorem dX9_restore_0 : decode cX9_restore 0 = .ok (.aload_n 0, 1) := by decide +kernel
theorem dX9_restore_1 : decode cX9_restore 1 = .ok (.getfield 256, 3) := by decide +kernel
theorem dX9_restore_4 : decode cX9_restore 4 = .ok (.ifCond .ne 6, 3) := by decide +kernel
theorem dX9_restore_7 : decode cX9_restore 7 = .ok (.bipush (-4), 2) := by decide +kernel
theorem dX9_restore_9 : decode cX9_restore 9 = .ok (.ireturn, 1) := by decide +kernel
theorem dX9_restore_10 : decode cX9_restore 10 = .ok (.iconst 0, 1) := by decide +kernel
theorem dX9_restore_11 : decode cX9_restore 11 = .ok (.istore_n 1, 1) := by decide +kernel
theorem dX9_restore_12 : decode cX9_restore 12 = .ok (.iload_n 1, 1) := by decide +kernel
theorem dX9_restore_13 : decode cX9_restore 13 = .ok (.sipush 128, 3) := by decide +kernel
theorem dX9_restore_16 : decode cX9_restore 16 = .ok (.if_icmp .ge 22, 3) := by decide +kernel
theorem dX9_restore_19 : decode cX9_restore 19 = .ok (.aload_n 0, 1) := by decide +kernel
theorem dX9_restore_20 : decode cX9_restore 20 = .ok (.iload_n 1, 1) := by decide +kernel
theorem dX9_restore_21 : decode cX9_restore 21 = .ok (.aload_n 0, 1) := by decide +kernel
theorem dX9_restore_22 : decode cX9_restore 22 = .ok (.getfield 62, 3) := by decide +kernel
theorem dX9_restore_25 : decode cX9_restore 25 = .ok (.iload_n 1, 1) := by decide +kernel
theorem dX9_restore_26 : decode cX9_restore 26 = .ok (.iaload, 1) := by decide +kernel
theorem dX9_restore_27 : decode cX9_restore 27 = .ok (.iconst 1, 1) := by decide +kernel
theorem dX9_restore_28 : decode cX9_restore 28 = .ok (.invokevirtual 252, 3) := by decide +kernel
theorem dX9_restore_31 : decode cX9_restore 31 = .ok (.pop, 1) := by decide +kernel
theorem dX9_restore_32 : decode cX9_restore 32 = .ok (.iinc 1 1, 3) := by decide +kernel
theorem dX9_restore_35 : decode cX9_restore 35 = .ok (.goto (-23), 3) := by decide +kernel
theorem dX9_restore_38 : decode cX9_restore 38 = .ok (.iconst 1, 1) := by decide +kernel
theorem dX9_restore_39 : decode cX9_restore 39 = .ok (.ireturn, 1) := by decide +kernel
set_option maxRecDepth 100000 in
set_option maxHeartbeats 4000000 in
theorem e_X9_restore_0 {σ : Mem} {Q : Int → Mem → Prop} (h : (¬ σ 0 26 = 0 → WP GM M_X9_restore 12 [some (mr 0), some (mi 0)] [] σ Q) ∧ (σ 0 26 = 0 → Q (-4) σ)) : HT GM M_X9_restore [mr 0] σ Q := by
  refine HT.of pn_X9 (Nat.le_of_ble_eq_true rfl) ?_
  show WP GM M_X9_restore 0 [some (mr 0), none] [] σ Q
  refine WP.aload_n dX9_restore_0 rfl ?_
  refine WP.getI (v := σ 0 26) fd_X9_256 dX9_restore_1 k0 rfl rfl ?_
  refine WP.if_ne (tgt := 10) dX9_restore_4 (by decide) (fun q => ?_) (fun q => ?_)
  · have h := h.1 q
    refine WP.iconst dX9_restore_10 (by decide) ?_
    refine WP.istore_n (L2 := [some (mr 0), some (mi 0)]) dX9_restore_11 (by decide) rfl ?_
    exact h
  · have h := h.2 q
    refine WP.bipush dX9_restore_7 (by decide) bp_m4 ?_
    exact WP.iret rfl dX9_restore_9 h
set_option maxRecDepth 100000 in
set_option maxHeartbeats 4000000 in
theorem b_X9_restore_0_12 (x1 : Int) {σ : Mem} {Q : Int → Mem → Prop} (h : (128 ≤ x1 → Q 1 σ) ∧ (¬ 128 ≤ x1 → (0 ≤ x1 ∧ x1 < 128) ∧ (HT GM M_X9_carried [mr 0, mi x1, mi (σ 17 x1), mi 1] σ (fun r28 σ28 => WP GM M_X9_restore 12 [some (mr 0), some (mi (jadd x1 1))] [] σ28 Q)))) : WP GM M_X9_restore 12 [some (mr 0), some (mi x1)] [] σ Q := by
  refine WP.iload_n dX9_restore_12 rfl ?_
  refine WP.sipush dX9_restore_13 (by decide) sp_128 ?_
  refine WP.icmp_ge (tgt := 38) dX9_restore_16 (by decide) (fun q => ?_) (fun q => ?_)
  · have h := h.1 q
    refine WP.iconst dX9_restore_38 (by decide) ?_
    exact WP.iret rfl dX9_restore_39 h
  · have h := h.2 q
    refine WP.aload_n dX9_restore_19 rfl ?_
    refine WP.iload_n dX9_restore_20 rfl ?_
    refine WP.aload_n dX9_restore_21 rfl ?_
    refine WP.getR fd_X9_62 dX9_restore_22 k0 rfl ?_
    refine WP.iload_n dX9_restore_25 rfl ?_
    obtain ⟨hi, h⟩ := h
    refine WP.iald dX9_restore_26 k17 hi ?_
    refine WP.iconst dX9_restore_27 (by decide) ?_
    refine WP.callV M_X9_carried [mi x1, mi (σ 17 x1), mi 1] cv_X9_carried dX9_restore_28 lk_X9_252 k0 rfl ft_X9_restore__X9_carried rfl (Nat.le_of_ble_eq_true rfl) (HT.mono h ?_)
    rintro r28 σ28 - - h
    refine WP.pop dX9_restore_31 rfl ?_
    refine WP.iinc (L2 := [some (mr 0), some (mi (jadd x1 1))]) dX9_restore_32 (by decide) rfl (by decide) rfl ?_
    refine WP.goto (tgt := 12) dX9_restore_35 (by decide) ?_
    exact h
theorem dX9_isSheet_0 : decode cX9_isSheet 0 = .ok (.iload_n 0, 1) := by decide +kernel
theorem dX9_isSheet_1 : decode cX9_isSheet 1 = .ok (.i2l, 1) := by decide +kernel
theorem dX9_isSheet_2 : decode cX9_isSheet 2 = .ok (.lconst 0, 1) := by decide +kernel
theorem dX9_isSheet_3 : decode cX9_isSheet 3 = .ok (.ldc2_w 94, 3) := by decide +kernel
theorem dX9_isSheet_6 : decode cX9_isSheet 6 = .ok (.invokestatic 82, 3) := by decide +kernel
theorem dX9_isSheet_9 : decode cX9_isSheet 9 = .ok (.ifCond .eq 19, 3) := by decide +kernel
theorem dX9_isSheet_12 : decode cX9_isSheet 12 = .ok (.iload_n 1, 1) := by decide +kernel
theorem dX9_isSheet_13 : decode cX9_isSheet 13 = .ok (.i2l, 1) := by decide +kernel
theorem dX9_isSheet_14 : decode cX9_isSheet 14 = .ok (.lconst 0, 1) := by decide +kernel
theorem dX9_isSheet_15 : decode cX9_isSheet 15 = .ok (.ldc2_w 107, 3) := by decide +kernel
theorem dX9_isSheet_18 : decode cX9_isSheet 18 = .ok (.invokestatic 82, 3) := by decide +kernel
theorem dX9_isSheet_21 : decode cX9_isSheet 21 = .ok (.ifCond .eq 7, 3) := by decide +kernel
theorem dX9_isSheet_24 : decode cX9_isSheet 24 = .ok (.iconst 1, 1) := by decide +kernel
theorem dX9_isSheet_25 : decode cX9_isSheet 25 = .ok (.goto 4, 3) := by decide +kernel
theorem dX9_isSheet_28 : decode cX9_isSheet 28 = .ok (.iconst 0, 1) := by decide +kernel
theorem dX9_isSheet_29 : decode cX9_isSheet 29 = .ok (.ireturn, 1) := by decide +kernel
set_option maxRecDepth 100000 in
set_option maxHeartbeats 4000000 in
theorem e_X9_isSheet (x0 x1 : Int) {σ : Mem} {Q : Int → Mem → Prop} (h : HT GM M_X9_in [ml x0, ml 0, ml 3] σ (fun r6 σ6 => (r6 = 0 → Q 0 σ6) ∧ (¬ r6 = 0 → HT GM M_X9_in [ml x1, ml 0, ml 2] σ6 (fun r18 σ18 => (r18 = 0 → Q 0 σ18) ∧ (¬ r18 = 0 → Q 1 σ18))))) : HT GM M_X9_isSheet [mi x0, mi x1] σ Q := by
  refine HT.of pn_X9 (Nat.le_of_ble_eq_true rfl) ?_
  show WP GM M_X9_isSheet 0 [some (mi x0), some (mi x1)] [] σ Q
  refine WP.iload_n dX9_isSheet_0 rfl ?_
  refine WP.i2l dX9_isSheet_1 ?_
  refine WP.lconst (x := 0) dX9_isSheet_2 (by decide) rfl ?_
  refine WP.ldc2 (x := 3) dX9_isSheet_3 ct_X9_94 (by decide) (by decide) ?_
  refine WP.callS M_X9_in [ml x0, ml 0, ml 3] cs_X9_in dX9_isSheet_6 lk_X9_82 ft_X9_isSheet__X9_in rfl (Nat.le_of_ble_eq_true rfl) (HT.mono h ?_)
  rintro r6 σ6 - - h
  refine WP.if_eq (tgt := 28) dX9_isSheet_9 (by decide) (fun q => ?_) (fun q => ?_)
  · have h := h.1 q
    refine WP.iconst dX9_isSheet_28 (by decide) ?_
    exact WP.zret rfl dX9_isSheet_29 (by decide) h
  · have h := h.2 q
    refine WP.iload_n dX9_isSheet_12 rfl ?_
    refine WP.i2l dX9_isSheet_13 ?_
    refine WP.lconst (x := 0) dX9_isSheet_14 (by decide) rfl ?_
    refine WP.ldc2 (x := 2) dX9_isSheet_15 ct_X9_107 (by decide) (by decide) ?_
    refine WP.callS M_X9_in [ml x1, ml 0, ml 2] cs_X9_in dX9_isSheet_18 lk_X9_82 ft_X9_isSheet__X9_in rfl (Nat.le_of_ble_eq_true rfl) (HT.mono h ?_)
    rintro r18 σ18 - - h
    refine WP.if_eq (tgt := 28) dX9_isSheet_21 (by decide) (fun q => ?_) (fun q => ?_)
    · have h := h.1 q
      refine WP.iconst dX9_isSheet_28 (by decide) ?_
      exact WP.zret rfl dX9_isSheet_29 (by decide) h
    · have h := h.2 q
      refine WP.iconst dX9_isSheet_24 (by decide) ?_
      refine WP.goto (tgt := 29) dX9_isSheet_25 (by decide) ?_
      exact WP.zret rfl dX9_isSheet_29 (by decide) h
theorem dX9_lacksRow_0 : decode cX9_lacksRow 0 = .ok (.aload_n 0, 1) := by decide +kernel
theorem dX9_lacksRow_1 : decode cX9_lacksRow 1 = .ok (.getfield 65, 3) := by decide +kernel
theorem dX9_lacksRow_4 : decode cX9_lacksRow 4 = .ok (.iload_n 1, 1) := by decide +kernel
theorem dX9_lacksRow_5 : decode cX9_lacksRow 5 = .ok (.iaload, 1) := by decide +kernel
theorem dX9_lacksRow_6 : decode cX9_lacksRow 6 = .ok (.iload_n 2, 1) := by decide +kernel
theorem dX9_lacksRow_7 : decode cX9_lacksRow 7 = .ok (.if_icmp .eq 20, 3) := by decide +kernel
theorem dX9_lacksRow_10 : decode cX9_lacksRow 10 = .ok (.aload_n 0, 1) := by decide +kernel
theorem dX9_lacksRow_11 : decode cX9_lacksRow 11 = .ok (.getfield 65, 3) := by decide +kernel
theorem dX9_lacksRow_14 : decode cX9_lacksRow 14 = .ok (.iload_n 1, 1) := by decide +kernel
theorem dX9_lacksRow_15 : decode cX9_lacksRow 15 = .ok (.iaload, 1) := by decide +kernel
theorem dX9_lacksRow_16 : decode cX9_lacksRow 16 = .ok (.ifCond .ge 8, 3) := by decide +kernel
theorem dX9_lacksRow_19 : decode cX9_lacksRow 19 = .ok (.bipush (-11), 2) := by decide +kernel
theorem dX9_lacksRow_21 : decode cX9_lacksRow 21 = .ok (.goto 5, 3) := by decide +kernel
theorem dX9_lacksRow_24 : decode cX9_lacksRow 24 = .ok (.bipush (-12), 2) := by decide +kernel
theorem dX9_lacksRow_26 : decode cX9_lacksRow 26 = .ok (.ireturn, 1) := by decide +kernel
theorem dX9_lacksRow_27 : decode cX9_lacksRow 27 = .ok (.iload_n 3, 1) := by decide +kernel
theorem dX9_lacksRow_28 : decode cX9_lacksRow 28 = .ok (.i2l, 1) := by decide +kernel
theorem dX9_lacksRow_29 : decode cX9_lacksRow 29 = .ok (.lconst 0, 1) := by decide +kernel
theorem dX9_lacksRow_30 : decode cX9_lacksRow 30 = .ok (.aload_n 0, 1) := by decide +kernel
theorem dX9_lacksRow_31 : decode cX9_lacksRow 31 = .ok (.getfield 68, 3) := by decide +kernel
theorem dX9_lacksRow_34 : decode cX9_lacksRow 34 = .ok (.iload_n 1, 1) := by decide +kernel
theorem dX9_lacksRow_35 : decode cX9_lacksRow 35 = .ok (.iaload, 1) := by decide +kernel
theorem dX9_lacksRow_36 : decode cX9_lacksRow 36 = .ok (.iload 4, 2) := by decide +kernel
theorem dX9_lacksRow_38 : decode cX9_lacksRow 38 = .ok (.isub, 1) := by decide +kernel
theorem dX9_lacksRow_39 : decode cX9_lacksRow 39 = .ok (.i2l, 1) := by decide +kernel
theorem dX9_lacksRow_40 : decode cX9_lacksRow 40 = .ok (.invokestatic 82, 3) := by decide +kernel
theorem dX9_lacksRow_43 : decode cX9_lacksRow 43 = .ok (.ifCond .eq 7, 3) := by decide +kernel
theorem dX9_lacksRow_46 : decode cX9_lacksRow 46 = .ok (.iconst 0, 1) := by decide +kernel
theorem dX9_lacksRow_47 : decode cX9_lacksRow 47 = .ok (.goto 5, 3) := by decide +kernel
theorem dX9_lacksRow_50 : decode cX9_lacksRow 50 = .ok (.bipush (-13), 2) := by decide +kernel
theorem dX9_lacksRow_52 : decode cX9_lacksRow 52 = .ok (.ireturn, 1) := by decide +kernel
set_option maxRecDepth 100000 in
set_option maxHeartbeats 4000000 in
theorem e_X9_lacksRow_0 (x1 x2 x3 x4 : Int) {σ : Mem} {Q : Int → Mem → Prop} (h : (0 ≤ x1 ∧ x1 < 4) ∧ ((σ 18 x1 = x2 → (0 ≤ x1 ∧ x1 < 4) ∧ (HT GM M_X9_in [ml x3, ml 0, ml (jsub (σ 19 x1) x4)] σ (fun r40 σ40 => (r40 = 0 → Q (-13) σ40) ∧ (¬ r40 = 0 → Q 0 σ40)))) ∧ (¬ σ 18 x1 = x2 → (0 ≤ x1 ∧ x1 < 4) ∧ ((0 ≤ σ 18 x1 → Q (-12) σ) ∧ (¬ 0 ≤ σ 18 x1 → Q (-11) σ))))) : HT GM M_X9_lacksRow [mr 0, mi x1, mi x2, mi x3, mi x4] σ Q := by
  refine HT.of pn_X9 (Nat.le_of_ble_eq_true rfl) ?_
  show WP GM M_X9_lacksRow 0 [some (mr 0), some (mi x1), some (mi x2), some (mi x3), some (mi x4)] [] σ Q
  refine WP.aload_n dX9_lacksRow_0 rfl ?_
  refine WP.getR fd_X9_65 dX9_lacksRow_1 k0 rfl ?_
  refine WP.iload_n dX9_lacksRow_4 rfl ?_
  obtain ⟨hi, h⟩ := h
  refine WP.iald dX9_lacksRow_5 k18 hi ?_
  refine WP.iload_n dX9_lacksRow_6 rfl ?_
  refine WP.icmp_eq (tgt := 27) dX9_lacksRow_7 (by decide) (fun q => ?_) (fun q => ?_)
  · have h := h.1 q
    refine WP.iload_n dX9_lacksRow_27 rfl ?_
    refine WP.i2l dX9_lacksRow_28 ?_
    refine WP.lconst (x := 0) dX9_lacksRow_29 (by decide) rfl ?_
    refine WP.aload_n dX9_lacksRow_30 rfl ?_
    refine WP.getR fd_X9_68 dX9_lacksRow_31 k0 rfl ?_
    refine WP.iload_n dX9_lacksRow_34 rfl ?_
    obtain ⟨hi, h⟩ := h
    refine WP.iald dX9_lacksRow_35 k19 hi ?_
    refine WP.iload dX9_lacksRow_36 rfl ?_
    refine WP.isub dX9_lacksRow_38 ?_
    refine WP.i2l dX9_lacksRow_39 ?_
    refine WP.callS M_X9_in [ml x3, ml 0, ml (jsub (σ 19 x1) x4)] cs_X9_in dX9_lacksRow_40 lk_X9_82 ft_X9_lacksRow__X9_in rfl (Nat.le_of_ble_eq_true rfl) (HT.mono h ?_)
    rintro r40 σ40 - - h
    refine WP.if_eq (tgt := 50) dX9_lacksRow_43 (by decide) (fun q => ?_) (fun q => ?_)
    · have h := h.1 q
      refine WP.bipush dX9_lacksRow_50 (by decide) bp_m13 ?_
      exact WP.iret rfl dX9_lacksRow_52 h
    · have h := h.2 q
      refine WP.iconst dX9_lacksRow_46 (by decide) ?_
      refine WP.goto (tgt := 52) dX9_lacksRow_47 (by decide) ?_
      exact WP.iret rfl dX9_lacksRow_52 h
  · have h := h.2 q
    refine WP.aload_n dX9_lacksRow_10 rfl ?_
    refine WP.getR fd_X9_65 dX9_lacksRow_11 k0 rfl ?_
    refine WP.iload_n dX9_lacksRow_14 rfl ?_
    obtain ⟨hi, h⟩ := h
    refine WP.iald dX9_lacksRow_15 k18 hi ?_
    refine WP.if_ge (tgt := 24) dX9_lacksRow_16 (by decide) (fun q => ?_) (fun q => ?_)
    · have h := h.1 q
      refine WP.bipush dX9_lacksRow_24 (by decide) bp_m12 ?_
      exact WP.iret rfl dX9_lacksRow_26 h
    · have h := h.2 q
      refine WP.bipush dX9_lacksRow_19 (by decide) bp_m11 ?_
      refine WP.goto (tgt := 26) dX9_lacksRow_21 (by decide) ?_
      exact WP.iret rfl dX9_lacksRow_26 h
theorem dX9_owes_0 : decode cX9_owes 0 = .ok (.iload_n 1, 1) := by decide +kernel
theorem dX9_owes_1 : decode cX9_owes 1 = .ok (.iload_n 2, 1) := by decide +kernel
theorem dX9_owes_2 : decode cX9_owes 2 = .ok (.invokestatic 260, 3) := by decide +kernel
theorem dX9_owes_5 : decode cX9_owes 5 = .ok (.ifCond .eq 16, 3) := by decide +kernel
theorem dX9_owes_8 : decode cX9_owes 8 = .ok (.iload 4, 2) := by decide +kernel
theorem dX9_owes_10 : decode cX9_owes 10 = .ok (.i2l, 1) := by decide +kernel
theorem dX9_owes_11 : decode cX9_owes 11 = .ok (.lconst 1, 1) := by decide +kernel
theorem dX9_owes_12 : decode cX9_owes 12 = .ok (.ldc2_w 267, 3) := by decide +kernel
theorem dX9_owes_15 : decode cX9_owes 15 = .ok (.invokestatic 82, 3) := by decide +kernel
theorem dX9_owes_18 : decode cX9_owes 18 = .ok (.ifCond .ne 5, 3) := by decide +kernel
theorem dX9_owes_21 : decode cX9_owes 21 = .ok (.iconst (-1), 1) := by decide +kernel
theorem dX9_owes_22 : decode cX9_owes 22 = .ok (.ireturn, 1) := by decide +kernel
theorem dX9_owes_23 : decode cX9_owes 23 = .ok (.aload_n 0, 1) := by decide +kernel
theorem dX9_owes_24 : decode cX9_owes 24 = .ok (.iload_n 1, 1) := by decide +kernel
theorem dX9_owes_25 : decode cX9_owes 25 = .ok (.iload_n 2, 1) := by decide +kernel
theorem dX9_owes_26 : decode cX9_owes 26 = .ok (.iload_n 3, 1) := by decide +kernel
theorem dX9_owes_27 : decode cX9_owes 27 = .ok (.iconst 3, 1) := by decide +kernel
theorem dX9_owes_28 : decode cX9_owes 28 = .ok (.iload 4, 2) := by decide +kernel
theorem dX9_owes_30 : decode cX9_owes 30 = .ok (.imul, 1) := by decide +kernel
theorem dX9_owes_31 : decode cX9_owes 31 = .ok (.invokevirtual 263, 3) := by decide +kernel
theorem dX9_owes_34 : decode cX9_owes 34 = .ok (.istore 5, 2) := by decide +kernel
theorem dX9_owes_36 : decode cX9_owes 36 = .ok (.iload 5, 2) := by decide +kernel
theorem dX9_owes_38 : decode cX9_owes 38 = .ok (.ifCond .ge 6, 3) := by decide +kernel
theorem dX9_owes_41 : decode cX9_owes 41 = .ok (.iload 5, 2) := by decide +kernel
theorem dX9_owes_43 : decode cX9_owes 43 = .ok (.ireturn, 1) := by decide +kernel
theorem dX9_owes_44 : decode cX9_owes 44 = .ok (.iconst 0, 1) := by decide +kernel
theorem dX9_owes_45 : decode cX9_owes 45 = .ok (.istore 6, 2) := by decide +kernel
theorem dX9_owes_47 : decode cX9_owes 47 = .ok (.iload 6, 2) := by decide +kernel
theorem dX9_owes_49 : decode cX9_owes 49 = .ok (.bipush 64, 2) := by decide +kernel
theorem dX9_owes_51 : decode cX9_owes 51 = .ok (.if_icmp .ge 23, 3) := by decide +kernel
theorem dX9_owes_54 : decode cX9_owes 54 = .ok (.aload_n 0, 1) := by decide +kernel
theorem dX9_owes_55 : decode cX9_owes 55 = .ok (.getfield 74, 3) := by decide +kernel
theorem dX9_owes_58 : decode cX9_owes 58 = .ok (.iload 6, 2) := by decide +kernel
theorem dX9_owes_60 : decode cX9_owes 60 = .ok (.aload_n 0, 1) := by decide +kernel
theorem dX9_owes_61 : decode cX9_owes 61 = .ok (.getfield 34, 3) := by decide +kernel
theorem dX9_owes_64 : decode cX9_owes 64 = .ok (.iload 6, 2) := by decide +kernel
theorem dX9_owes_66 : decode cX9_owes 66 = .ok (.iaload, 1) := by decide +kernel
theorem dX9_owes_67 : decode cX9_owes 67 = .ok (.iastore, 1) := by decide +kernel
theorem dX9_owes_68 : decode cX9_owes 68 = .ok (.iinc 6 1, 3) := by decide +kernel
theorem dX9_owes_71 : decode cX9_owes 71 = .ok (.goto (-24), 3) := by decide +kernel
theorem dX9_owes_74 : decode cX9_owes 74 = .ok (.iconst 0, 1) := by decide +kernel
theorem dX9_owes_75 : decode cX9_owes 75 = .ok (.istore 6, 2) := by decide +kernel
theorem dX9_owes_77 : decode cX9_owes 77 = .ok (.iconst 0, 1) := by decide +kernel
theorem dX9_owes_78 : decode cX9_owes 78 = .ok (.istore 7, 2) := by decide +kernel
theorem dX9_owes_80 : decode cX9_owes 80 = .ok (.iload 7, 2) := by decide +kernel
theorem dX9_owes_82 : decode cX9_owes 82 = .ok (.iload 4, 2) := by decide +kernel
theorem dX9_owes_84 : decode cX9_owes 84 = .ok (.if_icmp .ge 126, 3) := by decide +kernel
theorem dX9_owes_87 : decode cX9_owes 87 = .ok (.bipush 24, 2) := by decide +kernel
theorem dX9_owes_89 : decode cX9_owes 89 = .ok (.iload_n 1, 1) := by decide +kernel
theorem dX9_owes_90 : decode cX9_owes 90 = .ok (.imul, 1) := by decide +kernel
theorem dX9_owes_91 : decode cX9_owes 91 = .ok (.iload_n 3, 1) := by decide +kernel
theorem dX9_owes_92 : decode cX9_owes 92 = .ok (.iadd, 1) := by decide +kernel
theorem dX9_owes_93 : decode cX9_owes 93 = .ok (.iconst 3, 1) := by decide +kernel
theorem dX9_owes_94 : decode cX9_owes 94 = .ok (.iload 7, 2) := by decide +kernel
theorem dX9_owes_96 : decode cX9_owes 96 = .ok (.imul, 1) := by decide +kernel
theorem dX9_owes_97 : decode cX9_owes 97 = .ok (.iadd, 1) := by decide +kernel
theorem dX9_owes_98 : decode cX9_owes 98 = .ok (.istore 8, 2) := by decide +kernel
theorem dX9_owes_100 : decode cX9_owes 100 = .ok (.aload_n 0, 1) := by decide +kernel
theorem dX9_owes_101 : decode cX9_owes 101 = .ok (.getfield 71, 3) := by decide +kernel
theorem dX9_owes_104 : decode cX9_owes 104 = .ok (.iload 8, 2) := by decide +kernel
theorem dX9_owes_106 : decode cX9_owes 106 = .ok (.iaload, 1) := by decide +kernel
theorem dX9_owes_107 : decode cX9_owes 107 = .ok (.istore 9, 2) := by decide +kernel
theorem dX9_owes_109 : decode cX9_owes 109 = .ok (.aload_n 0, 1) := by decide +kernel
theorem dX9_owes_110 : decode cX9_owes 110 = .ok (.getfield 71, 3) := by decide +kernel
theorem dX9_owes_113 : decode cX9_owes 113 = .ok (.iload 8, 2) := by decide +kernel
theorem dX9_owes_115 : decode cX9_owes 115 = .ok (.iconst 1, 1) := by decide +kernel
theorem dX9_owes_116 : decode cX9_owes 116 = .ok (.iadd, 1) := by decide +kernel
theorem dX9_owes_117 : decode cX9_owes 117 = .ok (.iaload, 1) := by decide +kernel
theorem dX9_owes_118 : decode cX9_owes 118 = .ok (.istore 10, 2) := by decide +kernel
theorem dX9_owes_120 : decode cX9_owes 120 = .ok (.aload_n 0, 1) := by decide +kernel
theorem dX9_owes_121 : decode cX9_owes 121 = .ok (.getfield 71, 3) := by decide +kernel
theorem dX9_owes_124 : decode cX9_owes 124 = .ok (.iload 8, 2) := by decide +kernel
theorem dX9_owes_126 : decode cX9_owes 126 = .ok (.iconst 2, 1) := by decide +kernel
theorem dX9_owes_127 : decode cX9_owes 127 = .ok (.iadd, 1) := by decide +kernel
theorem dX9_owes_128 : decode cX9_owes 128 = .ok (.iaload, 1) := by decide +kernel
theorem dX9_owes_129 : decode cX9_owes 129 = .ok (.istore 11, 2) := by decide +kernel
theorem dX9_owes_131 : decode cX9_owes 131 = .ok (.iload 9, 2) := by decide +kernel
theorem dX9_owes_133 : decode cX9_owes 133 = .ok (.iload 10, 2) := by decide +kernel
theorem dX9_owes_135 : decode cX9_owes 135 = .ok (.invokestatic 243, 3) := by decide +kernel
theorem dX9_owes_138 : decode cX9_owes 138 = .ok (.ifCond .eq 38, 3) := by decide +kernel
theorem dX9_owes_141 : decode cX9_owes 141 = .ok (.iload 11, 2) := by decide +kernel
theorem dX9_owes_143 : decode cX9_owes 143 = .ok (.i2l, 1) := by decide +kernel
theorem dX9_owes_144 : decode cX9_owes 144 = .ok (.lconst 0, 1) := by decide +kernel
theorem dX9_owes_145 : decode cX9_owes 145 = .ok (.ldc2_w 246, 3) := by decide +kernel
theorem dX9_owes_148 : decode cX9_owes 148 = .ok (.invokestatic 82, 3) := by decide +kernel
theorem dX9_owes_151 : decode cX9_owes 151 = .ok (.ifCond .eq 25, 3) := by decide +kernel
theorem dX9_owes_154 : decode cX9_owes 154 = .ok (.aload_n 0, 1) := by decide +kernel
theorem dX9_owes_155 : decode cX9_owes 155 = .ok (.getfield 74, 3) := by decide +kernel
theorem dX9_owes_158 : decode cX9_owes 158 = .ok (.bipush 8, 2) := by decide +kernel
theorem dX9_owes_160 : decode cX9_owes 160 = .ok (.iload 9, 2) := by decide +kernel
theorem dX9_owes_162 : decode cX9_owes 162 = .ok (.imul, 1) := by decide +kernel
theorem dX9_owes_163 : decode cX9_owes 163 = .ok (.iload 10, 2) := by decide +kernel
theorem dX9_owes_165 : decode cX9_owes 165 = .ok (.iadd, 1) := by decide +kernel
theorem dX9_owes_166 : decode cX9_owes 166 = .ok (.iaload, 1) := by decide +kernel
theorem dX9_owes_167 : decode cX9_owes 167 = .ok (.iload 11, 2) := by decide +kernel
theorem dX9_owes_169 : decode cX9_owes 169 = .ok (.iadd, 1) := by decide +kernel
theorem dX9_owes_170 : decode cX9_owes 170 = .ok (.sipush 999, 3) := by decide +kernel
theorem dX9_owes_173 : decode cX9_owes 173 = .ok (.if_icmp .le 6, 3) := by decide +kernel
theorem dX9_owes_176 : decode cX9_owes 176 = .ok (.bipush (-2), 2) := by decide +kernel
theorem dX9_owes_178 : decode cX9_owes 178 = .ok (.ireturn, 1) := by decide +kernel
theorem dX9_owes_179 : decode cX9_owes 179 = .ok (.aload_n 0, 1) := by decide +kernel
theorem dX9_owes_180 : decode cX9_owes 180 = .ok (.getfield 74, 3) := by decide +kernel
theorem dX9_owes_183 : decode cX9_owes 183 = .ok (.bipush 8, 2) := by decide +kernel
theorem dX9_owes_185 : decode cX9_owes 185 = .ok (.iload 9, 2) := by decide +kernel
theorem dX9_owes_187 : decode cX9_owes 187 = .ok (.imul, 1) := by decide +kernel
theorem dX9_owes_188 : decode cX9_owes 188 = .ok (.iload 10, 2) := by decide +kernel
theorem dX9_owes_190 : decode cX9_owes 190 = .ok (.iadd, 1) := by decide +kernel
theorem dX9_owes_191 : decode cX9_owes 191 = .ok (.dup2, 1) := by decide +kernel
theorem dX9_owes_192 : decode cX9_owes 192 = .ok (.iaload, 1) := by decide +kernel
theorem dX9_owes_193 : decode cX9_owes 193 = .ok (.iload 11, 2) := by decide +kernel
theorem dX9_owes_195 : decode cX9_owes 195 = .ok (.iadd, 1) := by decide +kernel
theorem dX9_owes_196 : decode cX9_owes 196 = .ok (.iastore, 1) := by decide +kernel
theorem dX9_owes_197 : decode cX9_owes 197 = .ok (.iload 6, 2) := by decide +kernel
theorem dX9_owes_199 : decode cX9_owes 199 = .ok (.iload 11, 2) := by decide +kernel
theorem dX9_owes_201 : decode cX9_owes 201 = .ok (.iadd, 1) := by decide +kernel
theorem dX9_owes_202 : decode cX9_owes 202 = .ok (.istore 6, 2) := by decide +kernel
theorem dX9_owes_204 : decode cX9_owes 204 = .ok (.iinc 7 1, 3) := by decide +kernel
theorem dX9_owes_207 : decode cX9_owes 207 = .ok (.goto (-127), 3) := by decide +kernel
theorem dX9_owes_210 : decode cX9_owes 210 = .ok (.iconst 0, 1) := by decide +kernel
theorem dX9_owes_211 : decode cX9_owes 211 = .ok (.istore 7, 2) := by decide +kernel
theorem dX9_owes_213 : decode cX9_owes 213 = .ok (.iload 7, 2) := by decide +kernel
theorem dX9_owes_215 : decode cX9_owes 215 = .ok (.bipush 64, 2) := by decide +kernel
theorem dX9_owes_217 : decode cX9_owes 217 = .ok (.if_icmp .ge 23, 3) := by decide +kernel
theorem dX9_owes_220 : decode cX9_owes 220 = .ok (.aload_n 0, 1) := by decide +kernel
theorem dX9_owes_221 : decode cX9_owes 221 = .ok (.getfield 34, 3) := by decide +kernel
theorem dX9_owes_224 : decode cX9_owes 224 = .ok (.iload 7, 2) := by decide +kernel
theorem dX9_owes_226 : decode cX9_owes 226 = .ok (.aload_n 0, 1) := by decide +kernel
theorem dX9_owes_227 : decode cX9_owes 227 = .ok (.getfield 74, 3) := by decide +kernel
theorem dX9_owes_230 : decode cX9_owes 230 = .ok (.iload 7, 2) := by decide +kernel
theorem dX9_owes_232 : decode cX9_owes 232 = .ok (.iaload, 1) := by decide +kernel
theorem dX9_owes_233 : decode cX9_owes 233 = .ok (.iastore, 1) := by decide +kernel
theorem dX9_owes_234 : decode cX9_owes 234 = .ok (.iinc 7 1, 3) := by decide +kernel
theorem dX9_owes_237 : decode cX9_owes 237 = .ok (.goto (-24), 3) := by decide +kernel
theorem dX9_owes_240 : decode cX9_owes 240 = .ok (.iload 6, 2) := by decide +kernel
theorem dX9_owes_242 : decode cX9_owes 242 = .ok (.ireturn, 1) := by decide +kernel
set_option maxRecDepth 100000 in
set_option maxHeartbeats 4000000 in
theorem e_X9_owes_0 (x1 x2 x3 x4 : Int) {σ : Mem} {Q : Int → Mem → Prop} (h : HT GM M_X9_isSheet [mi x1, mi x2] σ (fun r2 σ2 => (r2 = 0 → Q (-1) σ2) ∧ (¬ r2 = 0 → HT GM M_X9_in [ml x4, ml 1, ml 6] σ2 (fun r15 σ15 => (¬ r15 = 0 → HT GM M_X9_lacksRow [mr 0, mi x1, mi x2, mi x3, mi (jmul 3 x4)] σ15 (fun r31 σ31 => (0 ≤ r31 → WP GM M_X9_owes 47 [some (mr 0), some (mi x1), none, some (mi x3), some (mi x4), none, some (mi 0), none, none, none, none, none] [] σ31 Q) ∧ (¬ 0 ≤ r31 → Q r31 σ31))) ∧ (r15 = 0 → Q (-1) σ15))))) : HT GM M_X9_owes [mr 0, mi x1, mi x2, mi x3, mi x4] σ Q := by
  refine HT.of pn_X9 (Nat.le_of_ble_eq_true rfl) ?_
  show WP GM M_X9_owes 0 [some (mr 0), some (mi x1), some (mi x2), some (mi x3), some (mi x4), none, none, none, none, none, none, none] [] σ Q
  refine WP.iload_n dX9_owes_0 rfl ?_
  refine WP.iload_n dX9_owes_1 rfl ?_
  refine WP.callS M_X9_isSheet [mi x1, mi x2] cs_X9_isSheet dX9_owes_2 lk_X9_260 ft_X9_owes__X9_isSheet rfl (Nat.le_of_ble_eq_true rfl) (HT.mono h ?_)
  rintro r2 σ2 - - h
  refine WP.if_eq (tgt := 21) dX9_owes_5 (by decide) (fun q => ?_) (fun q => ?_)
  · have h := h.1 q
    refine WP.iconst dX9_owes_21 (by decide) ?_
    exact WP.iret rfl dX9_owes_22 h
  · have h := h.2 q
    refine WP.iload dX9_owes_8 rfl ?_
    refine WP.i2l dX9_owes_10 ?_
    refine WP.lconst (x := 1) dX9_owes_11 (by decide) rfl ?_
    refine WP.ldc2 (x := 6) dX9_owes_12 ct_X9_267 (by decide) (by decide) ?_
    refine WP.callS M_X9_in [ml x4, ml 1, ml 6] cs_X9_in dX9_owes_15 lk_X9_82 ft_X9_owes__X9_in rfl (Nat.le_of_ble_eq_true rfl) (HT.mono h ?_)
    rintro r15 σ15 - - h
    refine WP.if_ne (tgt := 23) dX9_owes_18 (by decide) (fun q => ?_) (fun q => ?_)
    · have h := h.1 q
      refine WP.aload_n dX9_owes_23 rfl ?_
      refine WP.iload_n dX9_owes_24 rfl ?_
      refine WP.iload_n dX9_owes_25 rfl ?_
      refine WP.iload_n dX9_owes_26 rfl ?_
      refine WP.iconst dX9_owes_27 (by decide) ?_
      refine WP.iload dX9_owes_28 rfl ?_
      refine WP.imul dX9_owes_30 ?_
      refine WP.callV M_X9_lacksRow [mi x1, mi x2, mi x3, mi (jmul 3 x4)] cv_X9_lacksRow dX9_owes_31 lk_X9_263 k0 rfl ft_X9_owes__X9_lacksRow rfl (Nat.le_of_ble_eq_true rfl) (HT.mono h ?_)
      rintro r31 σ31 - - h
      refine WP.istore (L2 := [some (mr 0), some (mi x1), some (mi x2), some (mi x3), some (mi x4), some (mi r31), none, none, none, none, none, none]) dX9_owes_34 (by decide) rfl ?_
      refine WP.iload dX9_owes_36 rfl ?_
      refine WP.if_ge (tgt := 44) dX9_owes_38 (by decide) (fun q => ?_) (fun q => ?_)
      · have h := h.1 q
        refine WP.iconst dX9_owes_44 (by decide) ?_
        refine WP.istore (L2 := [some (mr 0), some (mi x1), some (mi x2), some (mi x3), some (mi x4), some (mi r31), some (mi 0), none, none, none, none, none]) dX9_owes_45 (by decide) rfl ?_
        refine WP.drop 2 (L2 := [some (mr 0), some (mi x1), none, some (mi x3), some (mi x4), some (mi r31), some (mi 0), none, none, none, none, none]) rfl ?_
        refine WP.drop 5 (L2 := [some (mr 0), some (mi x1), none, some (mi x3), some (mi x4), none, some (mi 0), none, none, none, none, none]) rfl ?_
        exact h
      · have h := h.2 q
        refine WP.iload dX9_owes_41 rfl ?_
        exact WP.iret rfl dX9_owes_43 h
    · have h := h.2 q
      refine WP.iconst dX9_owes_21 (by decide) ?_
      exact WP.iret rfl dX9_owes_22 h
set_option maxRecDepth 100000 in
set_option maxHeartbeats 4000000 in
theorem b_X9_owes_0_47 (x1 x3 x4 x6 : Int) {σ : Mem} {Q : Int → Mem → Prop} (h : (64 ≤ x6 → WP GM M_X9_owes 80 [some (mr 0), some (mi x1), none, some (mi x3), some (mi x4), none, some (mi 0), some (mi 0), none, none, none, none] [] σ Q) ∧ (¬ 64 ≤ x6 → (0 ≤ x6 ∧ x6 < 64) ∧ ((0 ≤ x6 ∧ x6 < 64) ∧ (WP GM M_X9_owes 47 [some (mr 0), some (mi x1), none, some (mi x3), some (mi x4), none, some (mi (jadd x6 1)), none, none, none, none, none] [] (mupd σ 21 x6 (σ 9 x6)) Q)))) : WP GM M_X9_owes 47 [some (mr 0), some (mi x1), none, some (mi x3), some (mi x4), none, some (mi x6), none, none, none, none, none] [] σ Q := by
  refine WP.iload dX9_owes_47 rfl ?_
  refine WP.bipush dX9_owes_49 (by decide) bp_64 ?_
  refine WP.icmp_ge (tgt := 74) dX9_owes_51 (by decide) (fun q => ?_) (fun q => ?_)
  · have h := h.1 q
    refine WP.iconst dX9_owes_74 (by decide) ?_
    refine WP.istore (L2 := [some (mr 0), some (mi x1), none, some (mi x3), some (mi x4), none, some (mi 0), none, none, none, none, none]) dX9_owes_75 (by decide) rfl ?_
    refine WP.iconst dX9_owes_77 (by decide) ?_
    refine WP.istore (L2 := [some (mr 0), some (mi x1), none, some (mi x3), some (mi x4), none, some (mi 0), some (mi 0), none, none, none, none]) dX9_owes_78 (by decide) rfl ?_
    exact h
  · have h := h.2 q
    refine WP.aload_n dX9_owes_54 rfl ?_
    refine WP.getR fd_X9_74 dX9_owes_55 k0 rfl ?_
    refine WP.iload dX9_owes_58 rfl ?_
    refine WP.aload_n dX9_owes_60 rfl ?_
    refine WP.getR fd_X9_34 dX9_owes_61 k0 rfl ?_
    refine WP.iload dX9_owes_64 rfl ?_
    obtain ⟨hi, h⟩ := h
    refine WP.iald dX9_owes_66 k9 hi ?_
    obtain ⟨hi, h⟩ := h
    refine WP.iast dX9_owes_67 k21 hi ?_
    refine WP.iinc (L2 := [some (mr 0), some (mi x1), none, some (mi x3), some (mi x4), none, some (mi (jadd x6 1)), none, none, none, none, none]) dX9_owes_68 (by decide) rfl (by decide) rfl ?_
    refine WP.goto (tgt := 47) dX9_owes_71 (by decide) ?_
    exact h
set_option maxRecDepth 100000 in
set_option maxHeartbeats 4000000 in
theorem b_X9_owes_0_80 (x1 x3 x4 x6 x7 : Int) {σ : Mem} {Q : Int → Mem → Prop} (h : (x4 ≤ x7 → WP GM M_X9_owes 213 [some (mr 0), none, none, none, none, none, some (mi x6), some (mi 0), none, none, none, none] [] σ Q) ∧ (¬ x4 ≤ x7 → (0 ≤ jadd (jadd (jmul 24 x1) x3) (jmul 3 x7) ∧ jadd (jadd (jmul 24 x1) x3) (jmul 3 x7) < 96) ∧ ((0 ≤ jadd (jadd (jadd (jmul 24 x1) x3) (jmul 3 x7)) 1 ∧ jadd (jadd (jadd (jmul 24 x1) x3) (jmul 3 x7)) 1 < 96) ∧ ((0 ≤ jadd (jadd (jadd (jmul 24 x1) x3) (jmul 3 x7)) 2 ∧ jadd (jadd (jadd (jmul 24 x1) x3) (jmul 3 x7)) 2 < 96) ∧ (HT GM M_X9_areTwo [mi (σ 20 (jadd (jadd (jmul 24 x1) x3) (jmul 3 x7))), mi (σ 20 (jadd (jadd (jadd (jmul 24 x1) x3) (jmul 3 x7)) 1))] σ (fun r135 σ135 => (r135 = 0 → Q (-2) σ135) ∧ (¬ r135 = 0 → HT GM M_X9_in [ml (σ 20 (jadd (jadd (jadd (jmul 24 x1) x3) (jmul 3 x7)) 2)), ml 0, ml 999] σ135 (fun r148 σ148 => (r148 = 0 → Q (-2) σ148) ∧ (¬ r148 = 0 → (0 ≤ jadd (jmul 8 (σ 20 (jadd (jadd (jmul 24 x1) x3) (jmul 3 x7)))) (σ 20 (jadd (jadd (jadd (jmul 24 x1) x3) (jmul 3 x7)) 1)) ∧ jadd (jmul 8 (σ 20 (jadd (jadd (jmul 24 x1) x3) (jmul 3 x7)))) (σ 20 (jadd (jadd (jadd (jmul 24 x1) x3) (jmul 3 x7)) 1)) < 64) ∧ ((jadd (σ148 21 (jadd (jmul 8 (σ 20 (jadd (jadd (jmul 24 x1) x3) (jmul 3 x7)))) (σ 20 (jadd (jadd (jadd (jmul 24 x1) x3) (jmul 3 x7)) 1)))) (σ 20 (jadd (jadd (jadd (jmul 24 x1) x3) (jmul 3 x7)) 2)) ≤ 999 → (0 ≤ jadd (jmul 8 (σ 20 (jadd (jadd (jmul 24 x1) x3) (jmul 3 x7)))) (σ 20 (jadd (jadd (jadd (jmul 24 x1) x3) (jmul 3 x7)) 1)) ∧ jadd (jmul 8 (σ 20 (jadd (jadd (jmul 24 x1) x3) (jmul 3 x7)))) (σ 20 (jadd (jadd (jadd (jmul 24 x1) x3) (jmul 3 x7)) 1)) < 64) ∧ ((0 ≤ jadd (jmul 8 (σ 20 (jadd (jadd (jmul 24 x1) x3) (jmul 3 x7)))) (σ 20 (jadd (jadd (jadd (jmul 24 x1) x3) (jmul 3 x7)) 1)) ∧ jadd (jmul 8 (σ 20 (jadd (jadd (jmul 24 x1) x3) (jmul 3 x7)))) (σ 20 (jadd (jadd (jadd (jmul 24 x1) x3) (jmul 3 x7)) 1)) < 64) ∧ (WP GM M_X9_owes 80 [some (mr 0), some (mi x1), none, some (mi x3), some (mi x4), none, some (mi (jadd x6 (σ 20 (jadd (jadd (jadd (jmul 24 x1) x3) (jmul 3 x7)) 2)))), some (mi (jadd x7 1)), none, none, none, none] [] (mupd σ148 21 (jadd (jmul 8 (σ 20 (jadd (jadd (jmul 24 x1) x3) (jmul 3 x7)))) (σ 20 (jadd (jadd (jadd (jmul 24 x1) x3) (jmul 3 x7)) 1))) (jadd (σ148 21 (jadd (jmul 8 (σ 20 (jadd (jadd (jmul 24 x1) x3) (jmul 3 x7)))) (σ 20 (jadd (jadd (jadd (jmul 24 x1) x3) (jmul 3 x7)) 1)))) (σ 20 (jadd (jadd (jadd (jmul 24 x1) x3) (jmul 3 x7)) 2)))) Q))) ∧ (¬ jadd (σ148 21 (jadd (jmul 8 (σ 20 (jadd (jadd (jmul 24 x1) x3) (jmul 3 x7)))) (σ 20 (jadd (jadd (jadd (jmul 24 x1) x3) (jmul 3 x7)) 1)))) (σ 20 (jadd (jadd (jadd (jmul 24 x1) x3) (jmul 3 x7)) 2)) ≤ 999 → Q (-2) σ148))))))))))) : WP GM M_X9_owes 80 [some (mr 0), some (mi x1), none, some (mi x3), some (mi x4), none, some (mi x6), some (mi x7), none, none, none, none] [] σ Q := by
  refine WP.iload dX9_owes_80 rfl ?_
  refine WP.iload dX9_owes_82 rfl ?_
  refine WP.icmp_ge (tgt := 210) dX9_owes_84 (by decide) (fun q => ?_) (fun q => ?_)
  · have h := h.1 q
    refine WP.iconst dX9_owes_210 (by decide) ?_
    refine WP.istore (L2 := [some (mr 0), some (mi x1), none, some (mi x3), some (mi x4), none, some (mi x6), some (mi 0), none, none, none, none]) dX9_owes_211 (by decide) rfl ?_
    refine WP.drop 1 (L2 := [some (mr 0), none, none, some (mi x3), some (mi x4), none, some (mi x6), some (mi 0), none, none, none, none]) rfl ?_
    refine WP.drop 3 (L2 := [some (mr 0), none, none, none, some (mi x4), none, some (mi x6), some (mi 0), none, none, none, none]) rfl ?_
    refine WP.drop 4 (L2 := [some (mr 0), none, none, none, none, none, some (mi x6), some (mi 0), none, none, none, none]) rfl ?_
    exact h
  · have h := h.2 q
    refine WP.bipush dX9_owes_87 (by decide) bp_24 ?_
    refine WP.iload_n dX9_owes_89 rfl ?_
    refine WP.imul dX9_owes_90 ?_
    refine WP.iload_n dX9_owes_91 rfl ?_
    refine WP.iadd dX9_owes_92 ?_
    refine WP.iconst dX9_owes_93 (by decide) ?_
    refine WP.iload dX9_owes_94 rfl ?_
    refine WP.imul dX9_owes_96 ?_
    refine WP.iadd dX9_owes_97 ?_
    refine WP.istore (L2 := [some (mr 0), some (mi x1), none, some (mi x3), some (mi x4), none, some (mi x6), some (mi x7), some (mi (jadd (jadd (jmul 24 x1) x3) (jmul 3 x7))), none, none, none]) dX9_owes_98 (by decide) rfl ?_
    refine WP.aload_n dX9_owes_100 rfl ?_
    refine WP.getR fd_X9_71 dX9_owes_101 k0 rfl ?_
    refine WP.iload dX9_owes_104 rfl ?_
    obtain ⟨hi, h⟩ := h
    refine WP.iald dX9_owes_106 k20 hi ?_
    refine WP.istore (L2 := [some (mr 0), some (mi x1), none, some (mi x3), some (mi x4), none, some (mi x6), some (mi x7), some (mi (jadd (jadd (jmul 24 x1) x3) (jmul 3 x7))), some (mi (σ 20 (jadd (jadd (jmul 24 x1) x3) (jmul 3 x7)))), none, none]) dX9_owes_107 (by decide) rfl ?_
    refine WP.aload_n dX9_owes_109 rfl ?_
    refine WP.getR fd_X9_71 dX9_owes_110 k0 rfl ?_
    refine WP.iload dX9_owes_113 rfl ?_
    refine WP.iconst dX9_owes_115 (by decide) ?_
    refine WP.iadd dX9_owes_116 ?_
    obtain ⟨hi, h⟩ := h
    refine WP.iald dX9_owes_117 k20 hi ?_
    refine WP.istore (L2 := [some (mr 0), some (mi x1), none, some (mi x3), some (mi x4), none, some (mi x6), some (mi x7), some (mi (jadd (jadd (jmul 24 x1) x3) (jmul 3 x7))), some (mi (σ 20 (jadd (jadd (jmul 24 x1) x3) (jmul 3 x7)))), some (mi (σ 20 (jadd (jadd (jadd (jmul 24 x1) x3) (jmul 3 x7)) 1))), none]) dX9_owes_118 (by decide) rfl ?_
    refine WP.aload_n dX9_owes_120 rfl ?_
    refine WP.getR fd_X9_71 dX9_owes_121 k0 rfl ?_
    refine WP.iload dX9_owes_124 rfl ?_
    refine WP.iconst dX9_owes_126 (by decide) ?_
    refine WP.iadd dX9_owes_127 ?_
    obtain ⟨hi, h⟩ := h
    refine WP.iald dX9_owes_128 k20 hi ?_
    refine WP.istore (L2 := [some (mr 0), some (mi x1), none, some (mi x3), some (mi x4), none, some (mi x6), some (mi x7), some (mi (jadd (jadd (jmul 24 x1) x3) (jmul 3 x7))), some (mi (σ 20 (jadd (jadd (jmul 24 x1) x3) (jmul 3 x7)))), some (mi (σ 20 (jadd (jadd (jadd (jmul 24 x1) x3) (jmul 3 x7)) 1))), some (mi (σ 20 (jadd (jadd (jadd (jmul 24 x1) x3) (jmul 3 x7)) 2)))]) dX9_owes_129 (by decide) rfl ?_
    refine WP.iload dX9_owes_131 rfl ?_
    refine WP.iload dX9_owes_133 rfl ?_
    refine WP.callS M_X9_areTwo [mi (σ 20 (jadd (jadd (jmul 24 x1) x3) (jmul 3 x7))), mi (σ 20 (jadd (jadd (jadd (jmul 24 x1) x3) (jmul 3 x7)) 1))] cs_X9_areTwo dX9_owes_135 lk_X9_243 ft_X9_owes__X9_areTwo rfl (Nat.le_of_ble_eq_true rfl) (HT.mono h ?_)
    rintro r135 σ135 - - h
    refine WP.if_eq (tgt := 176) dX9_owes_138 (by decide) (fun q => ?_) (fun q => ?_)
    · have h := h.1 q
      refine WP.bipush dX9_owes_176 (by decide) bp_m2 ?_
      exact WP.iret rfl dX9_owes_178 h
    · have h := h.2 q
      refine WP.iload dX9_owes_141 rfl ?_
      refine WP.i2l dX9_owes_143 ?_
      refine WP.lconst (x := 0) dX9_owes_144 (by decide) rfl ?_
      refine WP.ldc2 (x := 999) dX9_owes_145 ct_X9_246 (by decide) (by decide) ?_
      refine WP.callS M_X9_in [ml (σ 20 (jadd (jadd (jadd (jmul 24 x1) x3) (jmul 3 x7)) 2)), ml 0, ml 999] cs_X9_in dX9_owes_148 lk_X9_82 ft_X9_owes__X9_in rfl (Nat.le_of_ble_eq_true rfl) (HT.mono h ?_)
      rintro r148 σ148 - - h
      refine WP.if_eq (tgt := 176) dX9_owes_151 (by decide) (fun q => ?_) (fun q => ?_)
      · have h := h.1 q
        refine WP.bipush dX9_owes_176 (by decide) bp_m2 ?_
        exact WP.iret rfl dX9_owes_178 h
      · have h := h.2 q
        refine WP.aload_n dX9_owes_154 rfl ?_
        refine WP.getR fd_X9_74 dX9_owes_155 k0 rfl ?_
        refine WP.bipush dX9_owes_158 (by decide) bp_8 ?_
        refine WP.iload dX9_owes_160 rfl ?_
        refine WP.imul dX9_owes_162 ?_
        refine WP.iload dX9_owes_163 rfl ?_
        refine WP.iadd dX9_owes_165 ?_
        obtain ⟨hi, h⟩ := h
        refine WP.iald dX9_owes_166 k21 hi ?_
        refine WP.iload dX9_owes_167 rfl ?_
        refine WP.iadd dX9_owes_169 ?_
        refine WP.sipush dX9_owes_170 (by decide) sp_999 ?_
        refine WP.icmp_le (tgt := 179) dX9_owes_173 (by decide) (fun q => ?_) (fun q => ?_)
        · have h := h.1 q
          refine WP.aload_n dX9_owes_179 rfl ?_
          refine WP.getR fd_X9_74 dX9_owes_180 k0 rfl ?_
          refine WP.bipush dX9_owes_183 (by decide) bp_8 ?_
          refine WP.iload dX9_owes_185 rfl ?_
          refine WP.imul dX9_owes_187 ?_
          refine WP.iload dX9_owes_188 rfl ?_
          refine WP.iadd dX9_owes_190 ?_
          refine WP.dup2 dX9_owes_191 rfl rfl ?_
          obtain ⟨hi, h⟩ := h
          refine WP.iald dX9_owes_192 k21 hi ?_
          refine WP.iload dX9_owes_193 rfl ?_
          refine WP.iadd dX9_owes_195 ?_
          obtain ⟨hi, h⟩ := h
          refine WP.iast dX9_owes_196 k21 hi ?_
          refine WP.iload dX9_owes_197 rfl ?_
          refine WP.iload dX9_owes_199 rfl ?_
          refine WP.iadd dX9_owes_201 ?_
          refine WP.istore (L2 := [some (mr 0), some (mi x1), none, some (mi x3), some (mi x4), none, some (mi (jadd x6 (σ 20 (jadd (jadd (jadd (jmul 24 x1) x3) (jmul 3 x7)) 2)))), some (mi x7), some (mi (jadd (jadd (jmul 24 x1) x3) (jmul 3 x7))), some (mi (σ 20 (jadd (jadd (jmul 24 x1) x3) (jmul 3 x7)))), some (mi (σ 20 (jadd (jadd (jadd (jmul 24 x1) x3) (jmul 3 x7)) 1))), some (mi (σ 20 (jadd (jadd (jadd (jmul 24 x1) x3) (jmul 3 x7)) 2)))]) dX9_owes_202 (by decide) rfl ?_
          refine WP.iinc (L2 := [some (mr 0), some (mi x1), none, some (mi x3), some (mi x4), none, some (mi (jadd x6 (σ 20 (jadd (jadd (jadd (jmul 24 x1) x3) (jmul 3 x7)) 2)))), some (mi (jadd x7 1)), some (mi (jadd (jadd (jmul 24 x1) x3) (jmul 3 x7))), some (mi (σ 20 (jadd (jadd (jmul 24 x1) x3) (jmul 3 x7)))), some (mi (σ 20 (jadd (jadd (jadd (jmul 24 x1) x3) (jmul 3 x7)) 1))), some (mi (σ 20 (jadd (jadd (jadd (jmul 24 x1) x3) (jmul 3 x7)) 2)))]) dX9_owes_204 (by decide) rfl (by decide) rfl ?_
          refine WP.goto (tgt := 80) dX9_owes_207 (by decide) ?_
          refine WP.drop 8 (L2 := [some (mr 0), some (mi x1), none, some (mi x3), some (mi x4), none, some (mi (jadd x6 (σ 20 (jadd (jadd (jadd (jmul 24 x1) x3) (jmul 3 x7)) 2)))), some (mi (jadd x7 1)), none, some (mi (σ 20 (jadd (jadd (jmul 24 x1) x3) (jmul 3 x7)))), some (mi (σ 20 (jadd (jadd (jadd (jmul 24 x1) x3) (jmul 3 x7)) 1))), some (mi (σ 20 (jadd (jadd (jadd (jmul 24 x1) x3) (jmul 3 x7)) 2)))]) rfl ?_
          refine WP.drop 9 (L2 := [some (mr 0), some (mi x1), none, some (mi x3), some (mi x4), none, some (mi (jadd x6 (σ 20 (jadd (jadd (jadd (jmul 24 x1) x3) (jmul 3 x7)) 2)))), some (mi (jadd x7 1)), none, none, some (mi (σ 20 (jadd (jadd (jadd (jmul 24 x1) x3) (jmul 3 x7)) 1))), some (mi (σ 20 (jadd (jadd (jadd (jmul 24 x1) x3) (jmul 3 x7)) 2)))]) rfl ?_
          refine WP.drop 10 (L2 := [some (mr 0), some (mi x1), none, some (mi x3), some (mi x4), none, some (mi (jadd x6 (σ 20 (jadd (jadd (jadd (jmul 24 x1) x3) (jmul 3 x7)) 2)))), some (mi (jadd x7 1)), none, none, none, some (mi (σ 20 (jadd (jadd (jadd (jmul 24 x1) x3) (jmul 3 x7)) 2)))]) rfl ?_
          refine WP.drop 11 (L2 := [some (mr 0), some (mi x1), none, some (mi x3), some (mi x4), none, some (mi (jadd x6 (σ 20 (jadd (jadd (jadd (jmul 24 x1) x3) (jmul 3 x7)) 2)))), some (mi (jadd x7 1)), none, none, none, none]) rfl ?_
          exact h
        · have h := h.2 q
          refine WP.bipush dX9_owes_176 (by decide) bp_m2 ?_
          exact WP.iret rfl dX9_owes_178 h
set_option maxRecDepth 100000 in
set_option maxHeartbeats 4000000 in
theorem b_X9_owes_0_213 (x6 x7 : Int) {σ : Mem} {Q : Int → Mem → Prop} (h : (64 ≤ x7 → Q x6 σ) ∧ (¬ 64 ≤ x7 → (0 ≤ x7 ∧ x7 < 64) ∧ ((0 ≤ x7 ∧ x7 < 64) ∧ (WP GM M_X9_owes 213 [some (mr 0), none, none, none, none, none, some (mi x6), some (mi (jadd x7 1)), none, none, none, none] [] (mupd σ 9 x7 (σ 21 x7)) Q)))) : WP GM M_X9_owes 213 [some (mr 0), none, none, none, none, none, some (mi x6), some (mi x7), none, none, none, none] [] σ Q := by
  refine WP.iload dX9_owes_213 rfl ?_
  refine WP.bipush dX9_owes_215 (by decide) bp_64 ?_
  refine WP.icmp_ge (tgt := 240) dX9_owes_217 (by decide) (fun q => ?_) (fun q => ?_)
  · have h := h.1 q
    refine WP.iload dX9_owes_240 rfl ?_
    exact WP.iret rfl dX9_owes_242 h
  · have h := h.2 q
    refine WP.aload_n dX9_owes_220 rfl ?_
    refine WP.getR fd_X9_34 dX9_owes_221 k0 rfl ?_
    refine WP.iload dX9_owes_224 rfl ?_
    refine WP.aload_n dX9_owes_226 rfl ?_
    refine WP.getR fd_X9_74 dX9_owes_227 k0 rfl ?_
    refine WP.iload dX9_owes_230 rfl ?_
    obtain ⟨hi, h⟩ := h
    refine WP.iald dX9_owes_232 k21 hi ?_
    obtain ⟨hi, h⟩ := h
    refine WP.iast dX9_owes_233 k9 hi ?_
    refine WP.iinc (L2 := [some (mr 0), none, none, none, none, none, some (mi x6), some (mi (jadd x7 1)), none, none, none, none]) dX9_owes_234 (by decide) rfl (by decide) rfl ?_
    refine WP.goto (tgt := 213) dX9_owes_237 (by decide) ?_
    exact h
theorem dX9_film_0 : decode cX9_film 0 = .ok (.iload_n 1, 1) := by decide +kernel
theorem dX9_film_1 : decode cX9_film 1 = .ok (.iload_n 2, 1) := by decide +kernel
theorem dX9_film_2 : decode cX9_film 2 = .ok (.invokestatic 260, 3) := by decide +kernel
theorem dX9_film_5 : decode cX9_film 5 = .ok (.ifCond .ne 5, 3) := by decide +kernel
theorem dX9_film_8 : decode cX9_film 8 = .ok (.iconst (-1), 1) := by decide +kernel
theorem dX9_film_9 : decode cX9_film 9 = .ok (.ireturn, 1) := by decide +kernel
theorem dX9_film_10 : decode cX9_film 10 = .ok (.aload_n 0, 1) := by decide +kernel
theorem dX9_film_11 : decode cX9_film 11 = .ok (.iload_n 1, 1) := by decide +kernel
theorem dX9_film_12 : decode cX9_film 12 = .ok (.iload_n 2, 1) := by decide +kernel
theorem dX9_film_13 : decode cX9_film 13 = .ok (.iload_n 3, 1) := by decide +kernel
theorem dX9_film_14 : decode cX9_film 14 = .ok (.aload_n 0, 1) := by decide +kernel
theorem dX9_film_15 : decode cX9_film 15 = .ok (.getfield 89, 3) := by decide +kernel
theorem dX9_film_18 : decode cX9_film 18 = .ok (.invokevirtual 263, 3) := by decide +kernel
theorem dX9_film_21 : decode cX9_film 21 = .ok (.istore 4, 2) := by decide +kernel
theorem dX9_film_23 : decode cX9_film 23 = .ok (.iload 4, 2) := by decide +kernel
theorem dX9_film_25 : decode cX9_film 25 = .ok (.ifCond .ge 6, 3) := by decide +kernel
theorem dX9_film_28 : decode cX9_film 28 = .ok (.iload 4, 2) := by decide +kernel
theorem dX9_film_30 : decode cX9_film 30 = .ok (.ireturn, 1) := by decide +kernel
theorem dX9_film_31 : decode cX9_film 31 = .ok (.iconst 0, 1) := by decide +kernel
theorem dX9_film_32 : decode cX9_film 32 = .ok (.istore 5, 2) := by decide +kernel
theorem dX9_film_34 : decode cX9_film 34 = .ok (.iload 5, 2) := by decide +kernel
theorem dX9_film_36 : decode cX9_film 36 = .ok (.aload_n 0, 1) := by decide +kernel
theorem dX9_film_37 : decode cX9_film 37 = .ok (.getfield 89, 3) := by decide +kernel
theorem dX9_film_40 : decode cX9_film 40 = .ok (.if_icmp .ge 30, 3) := by decide +kernel
theorem dX9_film_43 : decode cX9_film 43 = .ok (.aload_n 0, 1) := by decide +kernel
theorem dX9_film_44 : decode cX9_film 44 = .ok (.getfield 71, 3) := by decide +kernel
theorem dX9_film_47 : decode cX9_film 47 = .ok (.bipush 24, 2) := by decide +kernel
theorem dX9_film_49 : decode cX9_film 49 = .ok (.iload_n 1, 1) := by decide +kernel
theorem dX9_film_50 : decode cX9_film 50 = .ok (.imul, 1) := by decide +kernel
theorem dX9_film_51 : decode cX9_film 51 = .ok (.iload_n 3, 1) := by decide +kernel
theorem dX9_film_52 : decode cX9_film 52 = .ok (.iadd, 1) := by decide +kernel
theorem dX9_film_53 : decode cX9_film 53 = .ok (.iload 5, 2) := by decide +kernel
theorem dX9_film_55 : decode cX9_film 55 = .ok (.iadd, 1) := by decide +kernel
theorem dX9_film_56 : decode cX9_film 56 = .ok (.aload_n 0, 1) := by decide +kernel
theorem dX9_film_57 : decode cX9_film 57 = .ok (.getfield 25, 3) := by decide +kernel
theorem dX9_film_60 : decode cX9_film 60 = .ok (.iload 5, 2) := by decide +kernel
theorem dX9_film_62 : decode cX9_film 62 = .ok (.iaload, 1) := by decide +kernel
theorem dX9_film_63 : decode cX9_film 63 = .ok (.iastore, 1) := by decide +kernel
theorem dX9_film_64 : decode cX9_film 64 = .ok (.iinc 5 1, 3) := by decide +kernel
theorem dX9_film_67 : decode cX9_film 67 = .ok (.goto (-33), 3) := by decide +kernel
theorem dX9_film_70 : decode cX9_film 70 = .ok (.aload_n 0, 1) := by decide +kernel
theorem dX9_film_71 : decode cX9_film 71 = .ok (.getfield 89, 3) := by decide +kernel
theorem dX9_film_74 : decode cX9_film 74 = .ok (.ireturn, 1) := by decide +kernel
set_option maxRecDepth 100000 in
set_option maxHeartbeats 4000000 in
theorem e_X9_film_0 (x1 x2 x3 : Int) {σ : Mem} {Q : Int → Mem → Prop} (h : HT GM M_X9_isSheet [mi x1, mi x2] σ (fun r2 σ2 => (¬ r2 = 0 → HT GM M_X9_lacksRow [mr 0, mi x1, mi x2, mi x3, mi (σ2 0 9)] σ2 (fun r18 σ18 => (0 ≤ r18 → WP GM M_X9_film 34 [some (mr 0), some (mi x1), none, some (mi x3), none, some (mi 0)] [] σ18 Q) ∧ (¬ 0 ≤ r18 → Q r18 σ18))) ∧ (r2 = 0 → Q (-1) σ2))) : HT GM M_X9_film [mr 0, mi x1, mi x2, mi x3] σ Q := by
  refine HT.of pn_X9 (Nat.le_of_ble_eq_true rfl) ?_
  show WP GM M_X9_film 0 [some (mr 0), some (mi x1), some (mi x2), some (mi x3), none, none] [] σ Q
  refine WP.iload_n dX9_film_0 rfl ?_
  refine WP.iload_n dX9_film_1 rfl ?_
  refine WP.callS M_X9_isSheet [mi x1, mi x2] cs_X9_isSheet dX9_film_2 lk_X9_260 ft_X9_film__X9_isSheet rfl (Nat.le_of_ble_eq_true rfl) (HT.mono h ?_)
  rintro r2 σ2 - - h
  refine WP.if_ne (tgt := 10) dX9_film_5 (by decide) (fun q => ?_) (fun q => ?_)
  · have h := h.1 q
    refine WP.aload_n dX9_film_10 rfl ?_
    refine WP.iload_n dX9_film_11 rfl ?_
    refine WP.iload_n dX9_film_12 rfl ?_
    refine WP.iload_n dX9_film_13 rfl ?_
    refine WP.aload_n dX9_film_14 rfl ?_
    refine WP.getI (v := σ2 0 9) fd_X9_89 dX9_film_15 k0 rfl rfl ?_
    refine WP.callV M_X9_lacksRow [mi x1, mi x2, mi x3, mi (σ2 0 9)] cv_X9_lacksRow dX9_film_18 lk_X9_263 k0 rfl ft_X9_film__X9_lacksRow rfl (Nat.le_of_ble_eq_true rfl) (HT.mono h ?_)
    rintro r18 σ18 - - h
    refine WP.istore (L2 := [some (mr 0), some (mi x1), some (mi x2), some (mi x3), some (mi r18), none]) dX9_film_21 (by decide) rfl ?_
    refine WP.iload dX9_film_23 rfl ?_
    refine WP.if_ge (tgt := 31) dX9_film_25 (by decide) (fun q => ?_) (fun q => ?_)
    · have h := h.1 q
      refine WP.iconst dX9_film_31 (by decide) ?_
      refine WP.istore (L2 := [some (mr 0), some (mi x1), some (mi x2), some (mi x3), some (mi r18), some (mi 0)]) dX9_film_32 (by decide) rfl ?_
      refine WP.drop 2 (L2 := [some (mr 0), some (mi x1), none, some (mi x3), some (mi r18), some (mi 0)]) rfl ?_
      refine WP.drop 4 (L2 := [some (mr 0), some (mi x1), none, some (mi x3), none, some (mi 0)]) rfl ?_
      exact h
    · have h := h.2 q
      refine WP.iload dX9_film_28 rfl ?_
      exact WP.iret rfl dX9_film_30 h
  · have h := h.2 q
    refine WP.iconst dX9_film_8 (by decide) ?_
    exact WP.iret rfl dX9_film_9 h
set_option maxRecDepth 100000 in
set_option maxHeartbeats 4000000 in
theorem b_X9_film_0_34 (x1 x3 x5 : Int) {σ : Mem} {Q : Int → Mem → Prop} (h : (σ 0 9 ≤ x5 → Q (σ 0 9) σ) ∧ (¬ σ 0 9 ≤ x5 → (0 ≤ x5 ∧ x5 < 8) ∧ ((0 ≤ jadd (jadd (jmul 24 x1) x3) x5 ∧ jadd (jadd (jmul 24 x1) x3) x5 < 96) ∧ (WP GM M_X9_film 34 [some (mr 0), some (mi x1), none, some (mi x3), none, some (mi (jadd x5 1))] [] (mupd σ 20 (jadd (jadd (jmul 24 x1) x3) x5) (σ 6 x5)) Q)))) : WP GM M_X9_film 34 [some (mr 0), some (mi x1), none, some (mi x3), none, some (mi x5)] [] σ Q := by
  refine WP.iload dX9_film_34 rfl ?_
  refine WP.aload_n dX9_film_36 rfl ?_
  refine WP.getI (v := σ 0 9) fd_X9_89 dX9_film_37 k0 rfl rfl ?_
  refine WP.icmp_ge (tgt := 70) dX9_film_40 (by decide) (fun q => ?_) (fun q => ?_)
  · have h := h.1 q
    refine WP.aload_n dX9_film_70 rfl ?_
    refine WP.getI (v := σ 0 9) fd_X9_89 dX9_film_71 k0 rfl rfl ?_
    exact WP.iret rfl dX9_film_74 h
  · have h := h.2 q
    refine WP.aload_n dX9_film_43 rfl ?_
    refine WP.getR fd_X9_71 dX9_film_44 k0 rfl ?_
    refine WP.bipush dX9_film_47 (by decide) bp_24 ?_
    refine WP.iload_n dX9_film_49 rfl ?_
    refine WP.imul dX9_film_50 ?_
    refine WP.iload_n dX9_film_51 rfl ?_
    refine WP.iadd dX9_film_52 ?_
    refine WP.iload dX9_film_53 rfl ?_
    refine WP.iadd dX9_film_55 ?_
    refine WP.aload_n dX9_film_56 rfl ?_
    refine WP.getR fd_X9_25 dX9_film_57 k0 rfl ?_
    refine WP.iload dX9_film_60 rfl ?_
    obtain ⟨hi, h⟩ := h
    refine WP.iald dX9_film_62 k6 hi ?_
    obtain ⟨hi, h⟩ := h
    refine WP.iast dX9_film_63 k20 hi ?_
    refine WP.iinc (L2 := [some (mr 0), some (mi x1), none, some (mi x3), none, some (mi (jadd x5 1))]) dX9_film_64 (by decide) rfl (by decide) rfl ?_
    refine WP.goto (tgt := 34) dX9_film_67 (by decide) ?_
    exact h
theorem dX9_sheet_0 : decode cX9_sheet 0 = .ok (.iload_n 1, 1) := by decide +kernel
theorem dX9_sheet_1 : decode cX9_sheet 1 = .ok (.iload_n 2, 1) := by decide +kernel
theorem dX9_sheet_2 : decode cX9_sheet 2 = .ok (.invokestatic 260, 3) := by decide +kernel
theorem dX9_sheet_5 : decode cX9_sheet 5 = .ok (.ifCond .eq 9, 3) := by decide +kernel
theorem dX9_sheet_8 : decode cX9_sheet 8 = .ok (.iload_n 3, 1) := by decide +kernel
theorem dX9_sheet_9 : decode cX9_sheet 9 = .ok (.bipush 24, 2) := by decide +kernel
theorem dX9_sheet_11 : decode cX9_sheet 11 = .ok (.if_icmp .le 5, 3) := by decide +kernel
theorem dX9_sheet_14 : decode cX9_sheet 14 = .ok (.iconst (-1), 1) := by decide +kernel
theorem dX9_sheet_15 : decode cX9_sheet 15 = .ok (.ireturn, 1) := by decide +kernel
theorem dX9_sheet_16 : decode cX9_sheet 16 = .ok (.iload_n 3, 1) := by decide +kernel
theorem dX9_sheet_17 : decode cX9_sheet 17 = .ok (.ifCond .ge 6, 3) := by decide +kernel
theorem dX9_sheet_20 : decode cX9_sheet 20 = .ok (.bipush (-14), 2) := by decide +kernel
theorem dX9_sheet_22 : decode cX9_sheet 22 = .ok (.ireturn, 1) := by decide +kernel
theorem dX9_sheet_23 : decode cX9_sheet 23 = .ok (.aload_n 0, 1) := by decide +kernel
theorem dX9_sheet_24 : decode cX9_sheet 24 = .ok (.getfield 65, 3) := by decide +kernel
theorem dX9_sheet_27 : decode cX9_sheet 27 = .ok (.iload_n 1, 1) := by decide +kernel
theorem dX9_sheet_28 : decode cX9_sheet 28 = .ok (.iload_n 2, 1) := by decide +kernel
theorem dX9_sheet_29 : decode cX9_sheet 29 = .ok (.iastore, 1) := by decide +kernel
theorem dX9_sheet_30 : decode cX9_sheet 30 = .ok (.aload_n 0, 1) := by decide +kernel
theorem dX9_sheet_31 : decode cX9_sheet 31 = .ok (.getfield 68, 3) := by decide +kernel
theorem dX9_sheet_34 : decode cX9_sheet 34 = .ok (.iload_n 1, 1) := by decide +kernel
theorem dX9_sheet_35 : decode cX9_sheet 35 = .ok (.iload_n 3, 1) := by decide +kernel
theorem dX9_sheet_36 : decode cX9_sheet 36 = .ok (.iastore, 1) := by decide +kernel
theorem dX9_sheet_37 : decode cX9_sheet 37 = .ok (.iconst 0, 1) := by decide +kernel
theorem dX9_sheet_38 : decode cX9_sheet 38 = .ok (.istore 4, 2) := by decide +kernel
theorem dX9_sheet_40 : decode cX9_sheet 40 = .ok (.iload 4, 2) := by decide +kernel
theorem dX9_sheet_42 : decode cX9_sheet 42 = .ok (.bipush 24, 2) := by decide +kernel
theorem dX9_sheet_44 : decode cX9_sheet 44 = .ok (.if_icmp .ge 22, 3) := by decide +kernel
theorem dX9_sheet_47 : decode cX9_sheet 47 = .ok (.aload_n 0, 1) := by decide +kernel
theorem dX9_sheet_48 : decode cX9_sheet 48 = .ok (.getfield 71, 3) := by decide +kernel
theorem dX9_sheet_51 : decode cX9_sheet 51 = .ok (.bipush 24, 2) := by decide +kernel
theorem dX9_sheet_53 : decode cX9_sheet 53 = .ok (.iload_n 1, 1) := by decide +kernel
theorem dX9_sheet_54 : decode cX9_sheet 54 = .ok (.imul, 1) := by decide +kernel
theorem dX9_sheet_55 : decode cX9_sheet 55 = .ok (.iload 4, 2) := by decide +kernel
theorem dX9_sheet_57 : decode cX9_sheet 57 = .ok (.iadd, 1) := by decide +kernel
theorem dX9_sheet_58 : decode cX9_sheet 58 = .ok (.iconst 0, 1) := by decide +kernel
theorem dX9_sheet_59 : decode cX9_sheet 59 = .ok (.iastore, 1) := by decide +kernel
theorem dX9_sheet_60 : decode cX9_sheet 60 = .ok (.iinc 4 1, 3) := by decide +kernel
theorem dX9_sheet_63 : decode cX9_sheet 63 = .ok (.goto (-23), 3) := by decide +kernel
theorem dX9_sheet_66 : decode cX9_sheet 66 = .ok (.iload_n 3, 1) := by decide +kernel
theorem dX9_sheet_67 : decode cX9_sheet 67 = .ok (.ireturn, 1) := by decide +kernel
set_option maxRecDepth 100000 in
set_option maxHeartbeats 4000000 in
theorem e_X9_sheet_0 (x1 x2 x3 : Int) {σ : Mem} {Q : Int → Mem → Prop} (h : HT GM M_X9_isSheet [mi x1, mi x2] σ (fun r2 σ2 => (r2 = 0 → Q (-1) σ2) ∧ (¬ r2 = 0 → (x3 ≤ 24 → (0 ≤ x3 → (0 ≤ x1 ∧ x1 < 4) ∧ ((0 ≤ x1 ∧ x1 < 4) ∧ (WP GM M_X9_sheet 40 [some (mr 0), some (mi x1), none, some (mi x3), some (mi 0)] [] (mupd (mupd σ2 18 x1 x2) 19 x1 x3) Q))) ∧ (¬ 0 ≤ x3 → Q (-14) σ2)) ∧ (¬ x3 ≤ 24 → Q (-1) σ2)))) : HT GM M_X9_sheet [mr 0, mi x1, mi x2, mi x3] σ Q := by
  refine HT.of pn_X9 (Nat.le_of_ble_eq_true rfl) ?_
  show WP GM M_X9_sheet 0 [some (mr 0), some (mi x1), some (mi x2), some (mi x3), none] [] σ Q
  refine WP.iload_n dX9_sheet_0 rfl ?_
  refine WP.iload_n dX9_sheet_1 rfl ?_
  refine WP.callS M_X9_isSheet [mi x1, mi x2] cs_X9_isSheet dX9_sheet_2 lk_X9_260 ft_X9_sheet__X9_isSheet rfl (Nat.le_of_ble_eq_true rfl) (HT.mono h ?_)
  rintro r2 σ2 - - h
  refine WP.if_eq (tgt := 14) dX9_sheet_5 (by decide) (fun q => ?_) (fun q => ?_)
  · have h := h.1 q
    refine WP.iconst dX9_sheet_14 (by decide) ?_
    exact WP.iret rfl dX9_sheet_15 h
  · have h := h.2 q
    refine WP.iload_n dX9_sheet_8 rfl ?_
    refine WP.bipush dX9_sheet_9 (by decide) bp_24 ?_
    refine WP.icmp_le (tgt := 16) dX9_sheet_11 (by decide) (fun q => ?_) (fun q => ?_)
    · have h := h.1 q
      refine WP.iload_n dX9_sheet_16 rfl ?_
      refine WP.if_ge (tgt := 23) dX9_sheet_17 (by decide) (fun q => ?_) (fun q => ?_)
      · have h := h.1 q
        refine WP.aload_n dX9_sheet_23 rfl ?_
        refine WP.getR fd_X9_65 dX9_sheet_24 k0 rfl ?_
        refine WP.iload_n dX9_sheet_27 rfl ?_
        refine WP.iload_n dX9_sheet_28 rfl ?_
        obtain ⟨hi, h⟩ := h
        refine WP.iast dX9_sheet_29 k18 hi ?_
        refine WP.aload_n dX9_sheet_30 rfl ?_
        refine WP.getR fd_X9_68 dX9_sheet_31 k0 rfl ?_
        refine WP.iload_n dX9_sheet_34 rfl ?_
        refine WP.iload_n dX9_sheet_35 rfl ?_
        obtain ⟨hi, h⟩ := h
        refine WP.iast dX9_sheet_36 k19 hi ?_
        refine WP.iconst dX9_sheet_37 (by decide) ?_
        refine WP.istore (L2 := [some (mr 0), some (mi x1), some (mi x2), some (mi x3), some (mi 0)]) dX9_sheet_38 (by decide) rfl ?_
        refine WP.drop 2 (L2 := [some (mr 0), some (mi x1), none, some (mi x3), some (mi 0)]) rfl ?_
        exact h
      · have h := h.2 q
        refine WP.bipush dX9_sheet_20 (by decide) bp_m14 ?_
        exact WP.iret rfl dX9_sheet_22 h
    · have h := h.2 q
      refine WP.iconst dX9_sheet_14 (by decide) ?_
      exact WP.iret rfl dX9_sheet_15 h
set_option maxRecDepth 100000 in
set_option maxHeartbeats 4000000 in
theorem b_X9_sheet_0_40 (x1 x3 x4 : Int) {σ : Mem} {Q : Int → Mem → Prop} (h : (24 ≤ x4 → Q x3 σ) ∧ (¬ 24 ≤ x4 → (0 ≤ jadd (jmul 24 x1) x4 ∧ jadd (jmul 24 x1) x4 < 96) ∧ (WP GM M_X9_sheet 40 [some (mr 0), some (mi x1), none, some (mi x3), some (mi (jadd x4 1))] [] (mupd σ 20 (jadd (jmul 24 x1) x4) 0) Q))) : WP GM M_X9_sheet 40 [some (mr 0), some (mi x1), none, some (mi x3), some (mi x4)] [] σ Q := by
  refine WP.iload dX9_sheet_40 rfl ?_
  refine WP.bipush dX9_sheet_42 (by decide) bp_24 ?_
  refine WP.icmp_ge (tgt := 66) dX9_sheet_44 (by decide) (fun q => ?_) (fun q => ?_)
  · have h := h.1 q
    refine WP.iload_n dX9_sheet_66 rfl ?_
    exact WP.iret rfl dX9_sheet_67 h
  · have h := h.2 q
    refine WP.aload_n dX9_sheet_47 rfl ?_
    refine WP.getR fd_X9_71 dX9_sheet_48 k0 rfl ?_
    refine WP.bipush dX9_sheet_51 (by decide) bp_24 ?_
    refine WP.iload_n dX9_sheet_53 rfl ?_
    refine WP.imul dX9_sheet_54 ?_
    refine WP.iload dX9_sheet_55 rfl ?_
    refine WP.iadd dX9_sheet_57 ?_
    refine WP.iconst dX9_sheet_58 (by decide) ?_
    obtain ⟨hi, h⟩ := h
    refine WP.iast dX9_sheet_59 k20 hi ?_
    refine WP.iinc (L2 := [some (mr 0), some (mi x1), none, some (mi x3), some (mi (jadd x4 1))]) dX9_sheet_60 (by decide) rfl (by decide) rfl ?_
    refine WP.goto (tgt := 40) dX9_sheet_63 (by decide) ?_
    exact h
theorem dX9_drop_0 : decode cX9_drop 0 = .ok (.iload_n 1, 1) := by decide +kernel
theorem dX9_drop_1 : decode cX9_drop 1 = .ok (.i2l, 1) := by decide +kernel
theorem dX9_drop_2 : decode cX9_drop 2 = .ok (.lconst 0, 1) := by decide +kernel
theorem dX9_drop_3 : decode cX9_drop 3 = .ok (.ldc2_w 94, 3) := by decide +kernel
theorem dX9_drop_6 : decode cX9_drop 6 = .ok (.invokestatic 82, 3) := by decide +kernel
theorem dX9_drop_9 : decode cX9_drop 9 = .ok (.ifCond .ne 5, 3) := by decide +kernel
theorem dX9_drop_12 : decode cX9_drop 12 = .ok (.iconst (-1), 1) := by decide +kernel
theorem dX9_drop_13 : decode cX9_drop 13 = .ok (.ireturn, 1) := by decide +kernel
theorem dX9_drop_14 : decode cX9_drop 14 = .ok (.aload_n 0, 1) := by decide +kernel
theorem dX9_drop_15 : decode cX9_drop 15 = .ok (.getfield 65, 3) := by decide +kernel
theorem dX9_drop_18 : decode cX9_drop 18 = .ok (.iload_n 1, 1) := by decide +kernel
theorem dX9_drop_19 : decode cX9_drop 19 = .ok (.iaload, 1) := by decide +kernel
theorem dX9_drop_20 : decode cX9_drop 20 = .ok (.ifCond .ge 6, 3) := by decide +kernel
theorem dX9_drop_23 : decode cX9_drop 23 = .ok (.bipush (-11), 2) := by decide +kernel
theorem dX9_drop_25 : decode cX9_drop 25 = .ok (.ireturn, 1) := by decide +kernel
theorem dX9_drop_26 : decode cX9_drop 26 = .ok (.aload_n 0, 1) := by decide +kernel
theorem dX9_drop_27 : decode cX9_drop 27 = .ok (.getfield 65, 3) := by decide +kernel
theorem dX9_drop_30 : decode cX9_drop 30 = .ok (.iload_n 1, 1) := by decide +kernel
theorem dX9_drop_31 : decode cX9_drop 31 = .ok (.iconst (-1), 1) := by decide +kernel
theorem dX9_drop_32 : decode cX9_drop 32 = .ok (.iastore, 1) := by decide +kernel
theorem dX9_drop_33 : decode cX9_drop 33 = .ok (.aload_n 0, 1) := by decide +kernel
theorem dX9_drop_34 : decode cX9_drop 34 = .ok (.getfield 68, 3) := by decide +kernel
theorem dX9_drop_37 : decode cX9_drop 37 = .ok (.iload_n 1, 1) := by decide +kernel
theorem dX9_drop_38 : decode cX9_drop 38 = .ok (.iaload, 1) := by decide +kernel
theorem dX9_drop_39 : decode cX9_drop 39 = .ok (.ireturn, 1) := by decide +kernel
set_option maxRecDepth 100000 in
set_option maxHeartbeats 4000000 in
theorem e_X9_drop_0 (x1 : Int) {σ : Mem} {Q : Int → Mem → Prop} (h : HT GM M_X9_in [ml x1, ml 0, ml 3] σ (fun r6 σ6 => (¬ r6 = 0 → (0 ≤ x1 ∧ x1 < 4) ∧ ((0 ≤ σ6 18 x1 → (0 ≤ x1 ∧ x1 < 4) ∧ ((0 ≤ x1 ∧ x1 < 4) ∧ (Q (σ6 19 x1) (mupd σ6 18 x1 (-1))))) ∧ (¬ 0 ≤ σ6 18 x1 → Q (-11) σ6))) ∧ (r6 = 0 → Q (-1) σ6))) : HT GM M_X9_drop [mr 0, mi x1] σ Q := by
  refine HT.of pn_X9 (Nat.le_of_ble_eq_true rfl) ?_
  show WP GM M_X9_drop 0 [some (mr 0), some (mi x1)] [] σ Q
  refine WP.iload_n dX9_drop_0 rfl ?_
  refine WP.i2l dX9_drop_1 ?_
  refine WP.lconst (x := 0) dX9_drop_2 (by decide) rfl ?_
  refine WP.ldc2 (x := 3) dX9_drop_3 ct_X9_94 (by decide) (by decide) ?_
  refine WP.callS M_X9_in [ml x1, ml 0, ml 3] cs_X9_in dX9_drop_6 lk_X9_82 ft_X9_drop__X9_in rfl (Nat.le_of_ble_eq_true rfl) (HT.mono h ?_)
  rintro r6 σ6 - - h
  refine WP.if_ne (tgt := 14) dX9_drop_9 (by decide) (fun q => ?_) (fun q => ?_)
  · have h := h.1 q
    refine WP.aload_n dX9_drop_14 rfl ?_
    refine WP.getR fd_X9_65 dX9_drop_15 k0 rfl ?_
    refine WP.iload_n dX9_drop_18 rfl ?_
    obtain ⟨hi, h⟩ := h
    refine WP.iald dX9_drop_19 k18 hi ?_
    refine WP.if_ge (tgt := 26) dX9_drop_20 (by decide) (fun q => ?_) (fun q => ?_)
    · have h := h.1 q
      refine WP.aload_n dX9_drop_26 rfl ?_
      refine WP.getR fd_X9_65 dX9_drop_27 k0 rfl ?_
      refine WP.iload_n dX9_drop_30 rfl ?_
      refine WP.iconst dX9_drop_31 (by decide) ?_
      obtain ⟨hi, h⟩ := h
      refine WP.iast dX9_drop_32 k18 hi ?_
      refine WP.aload_n dX9_drop_33 rfl ?_
      refine WP.getR fd_X9_68 dX9_drop_34 k0 rfl ?_
      refine WP.iload_n dX9_drop_37 rfl ?_
      obtain ⟨hi, h⟩ := h
      refine WP.iald dX9_drop_38 k19 hi ?_
      refine WP.topI (y := σ6 19 x1) (mupd_rp (by decide)) ?_
      exact WP.iret rfl dX9_drop_39 h
    · have h := h.2 q
      refine WP.bipush dX9_drop_23 (by decide) bp_m11 ?_
      exact WP.iret rfl dX9_drop_25 h
  · have h := h.2 q
    refine WP.iconst dX9_drop_12 (by decide) ?_
    exact WP.iret rfl dX9_drop_13 h
theorem dX9_item_0 : decode cX9_item 0 = .ok (.iload_n 1, 1) := by decide +kernel
theorem dX9_item_1 : decode cX9_item 1 = .ok (.iload_n 2, 1) := by decide +kernel
theorem dX9_item_2 : decode cX9_item 2 = .ok (.invokestatic 260, 3) := by decide +kernel
theorem dX9_item_5 : decode cX9_item 5 = .ok (.ifCond .ne 5, 3) := by decide +kernel
theorem dX9_item_8 : decode cX9_item 8 = .ok (.iconst (-1), 1) := by decide +kernel
theorem dX9_item_9 : decode cX9_item 9 = .ok (.ireturn, 1) := by decide +kernel
theorem dX9_item_10 : decode cX9_item 10 = .ok (.aload_n 0, 1) := by decide +kernel
theorem dX9_item_11 : decode cX9_item 11 = .ok (.iload_n 1, 1) := by decide +kernel
theorem dX9_item_12 : decode cX9_item 12 = .ok (.iload_n 2, 1) := by decide +kernel
theorem dX9_item_13 : decode cX9_item 13 = .ok (.iload_n 3, 1) := by decide +kernel
theorem dX9_item_14 : decode cX9_item 14 = .ok (.iconst 1, 1) := by decide +kernel
theorem dX9_item_15 : decode cX9_item 15 = .ok (.invokevirtual 263, 3) := by decide +kernel
theorem dX9_item_18 : decode cX9_item 18 = .ok (.istore 5, 2) := by decide +kernel
theorem dX9_item_20 : decode cX9_item 20 = .ok (.iload 5, 2) := by decide +kernel
theorem dX9_item_22 : decode cX9_item 22 = .ok (.ifCond .ge 6, 3) := by decide +kernel
theorem dX9_item_25 : decode cX9_item 25 = .ok (.iload 5, 2) := by decide +kernel
theorem dX9_item_27 : decode cX9_item 27 = .ok (.ireturn, 1) := by decide +kernel
theorem dX9_item_28 : decode cX9_item 28 = .ok (.aload_n 0, 1) := by decide +kernel
theorem dX9_item_29 : decode cX9_item 29 = .ok (.getfield 71, 3) := by decide +kernel
theorem dX9_item_32 : decode cX9_item 32 = .ok (.bipush 24, 2) := by decide +kernel
theorem dX9_item_34 : decode cX9_item 34 = .ok (.iload_n 1, 1) := by decide +kernel
theorem dX9_item_35 : decode cX9_item 35 = .ok (.imul, 1) := by decide +kernel
theorem dX9_item_36 : decode cX9_item 36 = .ok (.iload_n 3, 1) := by decide +kernel
theorem dX9_item_37 : decode cX9_item 37 = .ok (.iadd, 1) := by decide +kernel
theorem dX9_item_38 : decode cX9_item 38 = .ok (.iload_n 2, 1) := by decide +kernel
theorem dX9_item_39 : decode cX9_item 39 = .ok (.ifCond .ne 14, 3) := by decide +kernel
theorem dX9_item_42 : decode cX9_item 42 = .ok (.iload 4, 2) := by decide +kernel
theorem dX9_item_44 : decode cX9_item 44 = .ok (.bipush 24, 2) := by decide +kernel
theorem dX9_item_46 : decode cX9_item 46 = .ok (.ishl, 1) := by decide +kernel
theorem dX9_item_47 : decode cX9_item 47 = .ok (.bipush 24, 2) := by decide +kernel
theorem dX9_item_49 : decode cX9_item 49 = .ok (.ishr, 1) := by decide +kernel
theorem dX9_item_50 : decode cX9_item 50 = .ok (.goto 21, 3) := by decide +kernel
theorem dX9_item_53 : decode cX9_item 53 = .ok (.iload_n 2, 1) := by decide +kernel
theorem dX9_item_54 : decode cX9_item 54 = .ok (.iconst 1, 1) := by decide +kernel
theorem dX9_item_55 : decode cX9_item 55 = .ok (.if_icmp .ne 14, 3) := by decide +kernel
theorem dX9_item_58 : decode cX9_item 58 = .ok (.iload 4, 2) := by decide +kernel
theorem dX9_item_60 : decode cX9_item 60 = .ok (.bipush 16, 2) := by decide +kernel
theorem dX9_item_62 : decode cX9_item 62 = .ok (.ishl, 1) := by decide +kernel
theorem dX9_item_63 : decode cX9_item 63 = .ok (.bipush 16, 2) := by decide +kernel
theorem dX9_item_65 : decode cX9_item 65 = .ok (.ishr, 1) := by decide +kernel
theorem dX9_item_66 : decode cX9_item 66 = .ok (.goto 5, 3) := by decide +kernel
theorem dX9_item_69 : decode cX9_item 69 = .ok (.iload 4, 2) := by decide +kernel
theorem dX9_item_71 : decode cX9_item 71 = .ok (.iastore, 1) := by decide +kernel
theorem dX9_item_72 : decode cX9_item 72 = .ok (.iconst 1, 1) := by decide +kernel
theorem dX9_item_73 : decode cX9_item 73 = .ok (.ireturn, 1) := by decide +kernel
set_option maxRecDepth 100000 in
set_option maxHeartbeats 4000000 in
theorem e_X9_item_0 (x1 x2 x3 x4 : Int) {σ : Mem} {Q : Int → Mem → Prop} (h : HT GM M_X9_isSheet [mi x1, mi x2] σ (fun r2 σ2 => (¬ r2 = 0 → HT GM M_X9_lacksRow [mr 0, mi x1, mi x2, mi x3, mi 1] σ2 (fun r15 σ15 => (0 ≤ r15 → (¬ x2 = 0 → (¬ x2 = 1 → (0 ≤ jadd (jmul 24 x1) x3 ∧ jadd (jmul 24 x1) x3 < 96) ∧ (Q 1 (mupd σ15 20 (jadd (jmul 24 x1) x3) x4))) ∧ (x2 = 1 → (0 ≤ jadd (jmul 24 x1) x3 ∧ jadd (jmul 24 x1) x3 < 96) ∧ (Q 1 (mupd σ15 20 (jadd (jmul 24 x1) x3) (jshr (jshl x4 16) 16))))) ∧ (x2 = 0 → (0 ≤ jadd (jmul 24 x1) x3 ∧ jadd (jmul 24 x1) x3 < 96) ∧ (Q 1 (mupd σ15 20 (jadd (jmul 24 x1) x3) (jshr (jshl x4 24) 24))))) ∧ (¬ 0 ≤ r15 → Q r15 σ15))) ∧ (r2 = 0 → Q (-1) σ2))) : HT GM M_X9_item [mr 0, mi x1, mi x2, mi x3, mi x4] σ Q := by
  refine HT.of pn_X9 (Nat.le_of_ble_eq_true rfl) ?_
  show WP GM M_X9_item 0 [some (mr 0), some (mi x1), some (mi x2), some (mi x3), some (mi x4), none] [] σ Q
  refine WP.iload_n dX9_item_0 rfl ?_
  refine WP.iload_n dX9_item_1 rfl ?_
  refine WP.callS M_X9_isSheet [mi x1, mi x2] cs_X9_isSheet dX9_item_2 lk_X9_260 ft_X9_item__X9_isSheet rfl (Nat.le_of_ble_eq_true rfl) (HT.mono h ?_)
  rintro r2 σ2 - - h
  refine WP.if_ne (tgt := 10) dX9_item_5 (by decide) (fun q => ?_) (fun q => ?_)
  · have h := h.1 q
    refine WP.aload_n dX9_item_10 rfl ?_
    refine WP.iload_n dX9_item_11 rfl ?_
    refine WP.iload_n dX9_item_12 rfl ?_
    refine WP.iload_n dX9_item_13 rfl ?_
    refine WP.iconst dX9_item_14 (by decide) ?_
    refine WP.callV M_X9_lacksRow [mi x1, mi x2, mi x3, mi 1] cv_X9_lacksRow dX9_item_15 lk_X9_263 k0 rfl ft_X9_item__X9_lacksRow rfl (Nat.le_of_ble_eq_true rfl) (HT.mono h ?_)
    rintro r15 σ15 - - h
    refine WP.istore (L2 := [some (mr 0), some (mi x1), some (mi x2), some (mi x3), some (mi x4), some (mi r15)]) dX9_item_18 (by decide) rfl ?_
    refine WP.iload dX9_item_20 rfl ?_
    refine WP.if_ge (tgt := 28) dX9_item_22 (by decide) (fun q => ?_) (fun q => ?_)
    · have h := h.1 q
      refine WP.aload_n dX9_item_28 rfl ?_
      refine WP.getR fd_X9_71 dX9_item_29 k0 rfl ?_
      refine WP.bipush dX9_item_32 (by decide) bp_24 ?_
      refine WP.iload_n dX9_item_34 rfl ?_
      refine WP.imul dX9_item_35 ?_
      refine WP.iload_n dX9_item_36 rfl ?_
      refine WP.iadd dX9_item_37 ?_
      refine WP.iload_n dX9_item_38 rfl ?_
      refine WP.if_ne (tgt := 53) dX9_item_39 (by decide) (fun q => ?_) (fun q => ?_)
      · have h := h.1 q
        refine WP.iload_n dX9_item_53 rfl ?_
        refine WP.iconst dX9_item_54 (by decide) ?_
        refine WP.icmp_ne (tgt := 69) dX9_item_55 (by decide) (fun q => ?_) (fun q => ?_)
        · have h := h.1 q
          refine WP.iload dX9_item_69 rfl ?_
          obtain ⟨hi, h⟩ := h
          refine WP.iast dX9_item_71 k20 hi ?_
          refine WP.iconst dX9_item_72 (by decide) ?_
          exact WP.iret rfl dX9_item_73 h
        · have h := h.2 q
          refine WP.iload dX9_item_58 rfl ?_
          refine WP.bipush dX9_item_60 (by decide) bp_16 ?_
          refine WP.ishl dX9_item_62 ?_
          refine WP.bipush dX9_item_63 (by decide) bp_16 ?_
          refine WP.ishr dX9_item_65 ?_
          refine WP.goto (tgt := 71) dX9_item_66 (by decide) ?_
          obtain ⟨hi, h⟩ := h
          refine WP.iast dX9_item_71 k20 hi ?_
          refine WP.iconst dX9_item_72 (by decide) ?_
          exact WP.iret rfl dX9_item_73 h
      · have h := h.2 q
        refine WP.iload dX9_item_42 rfl ?_
        refine WP.bipush dX9_item_44 (by decide) bp_24 ?_
        refine WP.ishl dX9_item_46 ?_
        refine WP.bipush dX9_item_47 (by decide) bp_24 ?_
        refine WP.ishr dX9_item_49 ?_
        refine WP.goto (tgt := 71) dX9_item_50 (by decide) ?_
        obtain ⟨hi, h⟩ := h
        refine WP.iast dX9_item_71 k20 hi ?_
        refine WP.iconst dX9_item_72 (by decide) ?_
        exact WP.iret rfl dX9_item_73 h
    · have h := h.2 q
      refine WP.iload dX9_item_25 rfl ?_
      exact WP.iret rfl dX9_item_27 h
  · have h := h.2 q
    refine WP.iconst dX9_item_8 (by decide) ?_
    exact WP.iret rfl dX9_item_9 h
theorem dX9_copy_0 : decode cX9_copy 0 = .ok (.iload_n 1, 1) := by decide +kernel
theorem dX9_copy_1 : decode cX9_copy 1 = .ok (.i2l, 1) := by decide +kernel
theorem dX9_copy_2 : decode cX9_copy 2 = .ok (.lconst 0, 1) := by decide +kernel
theorem dX9_copy_3 : decode cX9_copy 3 = .ok (.ldc2_w 94, 3) := by decide +kernel
theorem dX9_copy_6 : decode cX9_copy 6 = .ok (.invokestatic 82, 3) := by decide +kernel
theorem dX9_copy_9 : decode cX9_copy 9 = .ok (.ifCond .eq 15, 3) := by decide +kernel
theorem dX9_copy_12 : decode cX9_copy 12 = .ok (.iload_n 3, 1) := by decide +kernel
theorem dX9_copy_13 : decode cX9_copy 13 = .ok (.i2l, 1) := by decide +kernel
theorem dX9_copy_14 : decode cX9_copy 14 = .ok (.lconst 0, 1) := by decide +kernel
theorem dX9_copy_15 : decode cX9_copy 15 = .ok (.ldc2_w 94, 3) := by decide +kernel
theorem dX9_copy_18 : decode cX9_copy 18 = .ok (.invokestatic 82, 3) := by decide +kernel
theorem dX9_copy_21 : decode cX9_copy 21 = .ok (.ifCond .ne 5, 3) := by decide +kernel
theorem dX9_copy_24 : decode cX9_copy 24 = .ok (.iconst (-1), 1) := by decide +kernel
theorem dX9_copy_25 : decode cX9_copy 25 = .ok (.ireturn, 1) := by decide +kernel
theorem dX9_copy_26 : decode cX9_copy 26 = .ok (.aload_n 0, 1) := by decide +kernel
theorem dX9_copy_27 : decode cX9_copy 27 = .ok (.getfield 65, 3) := by decide +kernel
theorem dX9_copy_30 : decode cX9_copy 30 = .ok (.iload_n 1, 1) := by decide +kernel
theorem dX9_copy_31 : decode cX9_copy 31 = .ok (.iaload, 1) := by decide +kernel
theorem dX9_copy_32 : decode cX9_copy 32 = .ok (.ifCond .lt 12, 3) := by decide +kernel
theorem dX9_copy_35 : decode cX9_copy 35 = .ok (.aload_n 0, 1) := by decide +kernel
theorem dX9_copy_36 : decode cX9_copy 36 = .ok (.getfield 65, 3) := by decide +kernel
theorem dX9_copy_39 : decode cX9_copy 39 = .ok (.iload_n 3, 1) := by decide +kernel
theorem dX9_copy_40 : decode cX9_copy 40 = .ok (.iaload, 1) := by decide +kernel
theorem dX9_copy_41 : decode cX9_copy 41 = .ok (.ifCond .ge 6, 3) := by decide +kernel
theorem dX9_copy_44 : decode cX9_copy 44 = .ok (.bipush (-11), 2) := by decide +kernel
theorem dX9_copy_46 : decode cX9_copy 46 = .ok (.ireturn, 1) := by decide +kernel
theorem dX9_copy_47 : decode cX9_copy 47 = .ok (.aload_n 0, 1) := by decide +kernel
theorem dX9_copy_48 : decode cX9_copy 48 = .ok (.getfield 65, 3) := by decide +kernel
theorem dX9_copy_51 : decode cX9_copy 51 = .ok (.iload_n 1, 1) := by decide +kernel
theorem dX9_copy_52 : decode cX9_copy 52 = .ok (.iaload, 1) := by decide +kernel
theorem dX9_copy_53 : decode cX9_copy 53 = .ok (.aload_n 0, 1) := by decide +kernel
theorem dX9_copy_54 : decode cX9_copy 54 = .ok (.getfield 65, 3) := by decide +kernel
theorem dX9_copy_57 : decode cX9_copy 57 = .ok (.iload_n 3, 1) := by decide +kernel
theorem dX9_copy_58 : decode cX9_copy 58 = .ok (.iaload, 1) := by decide +kernel
theorem dX9_copy_59 : decode cX9_copy 59 = .ok (.if_icmp .eq 6, 3) := by decide +kernel
theorem dX9_copy_62 : decode cX9_copy 62 = .ok (.bipush (-12), 2) := by decide +kernel
theorem dX9_copy_64 : decode cX9_copy 64 = .ok (.ireturn, 1) := by decide +kernel
theorem dX9_copy_65 : decode cX9_copy 65 = .ok (.iload 5, 2) := by decide +kernel
theorem dX9_copy_67 : decode cX9_copy 67 = .ok (.ifCond .lt 44, 3) := by decide +kernel
theorem dX9_copy_70 : decode cX9_copy 70 = .ok (.iload_n 2, 1) := by decide +kernel
theorem dX9_copy_71 : decode cX9_copy 71 = .ok (.i2l, 1) := by decide +kernel
theorem dX9_copy_72 : decode cX9_copy 72 = .ok (.lconst 0, 1) := by decide +kernel
theorem dX9_copy_73 : decode cX9_copy 73 = .ok (.aload_n 0, 1) := by decide +kernel
theorem dX9_copy_74 : decode cX9_copy 74 = .ok (.getfield 68, 3) := by decide +kernel
theorem dX9_copy_77 : decode cX9_copy 77 = .ok (.iload_n 1, 1) := by decide +kernel
theorem dX9_copy_78 : decode cX9_copy 78 = .ok (.iaload, 1) := by decide +kernel
theorem dX9_copy_79 : decode cX9_copy 79 = .ok (.i2l, 1) := by decide +kernel
theorem dX9_copy_80 : decode cX9_copy 80 = .ok (.iload 5, 2) := by decide +kernel
theorem dX9_copy_82 : decode cX9_copy 82 = .ok (.i2l, 1) := by decide +kernel
theorem dX9_copy_83 : decode cX9_copy 83 = .ok (.lsub, 1) := by decide +kernel
theorem dX9_copy_84 : decode cX9_copy 84 = .ok (.invokestatic 82, 3) := by decide +kernel
theorem dX9_copy_87 : decode cX9_copy 87 = .ok (.ifCond .eq 24, 3) := by decide +kernel
theorem dX9_copy_90 : decode cX9_copy 90 = .ok (.iload 4, 2) := by decide +kernel
theorem dX9_copy_92 : decode cX9_copy 92 = .ok (.i2l, 1) := by decide +kernel
theorem dX9_copy_93 : decode cX9_copy 93 = .ok (.lconst 0, 1) := by decide +kernel
theorem dX9_copy_94 : decode cX9_copy 94 = .ok (.aload_n 0, 1) := by decide +kernel
theorem dX9_copy_95 : decode cX9_copy 95 = .ok (.getfield 68, 3) := by decide +kernel
theorem dX9_copy_98 : decode cX9_copy 98 = .ok (.iload_n 3, 1) := by decide +kernel
theorem dX9_copy_99 : decode cX9_copy 99 = .ok (.iaload, 1) := by decide +kernel
theorem dX9_copy_100 : decode cX9_copy 100 = .ok (.i2l, 1) := by decide +kernel
theorem dX9_copy_101 : decode cX9_copy 101 = .ok (.iload 5, 2) := by decide +kernel
theorem dX9_copy_103 : decode cX9_copy 103 = .ok (.i2l, 1) := by decide +kernel
theorem dX9_copy_104 : decode cX9_copy 104 = .ok (.lsub, 1) := by decide +kernel
theorem dX9_copy_105 : decode cX9_copy 105 = .ok (.invokestatic 82, 3) := by decide +kernel
theorem dX9_copy_108 : decode cX9_copy 108 = .ok (.ifCond .ne 6, 3) := by decide +kernel
theorem dX9_copy_111 : decode cX9_copy 111 = .ok (.bipush (-13), 2) := by decide +kernel
theorem dX9_copy_113 : decode cX9_copy 113 = .ok (.ireturn, 1) := by decide +kernel
theorem dX9_copy_114 : decode cX9_copy 114 = .ok (.iconst 0, 1) := by decide +kernel
theorem dX9_copy_115 : decode cX9_copy 115 = .ok (.istore 6, 2) := by decide +kernel
theorem dX9_copy_117 : decode cX9_copy 117 = .ok (.iload 6, 2) := by decide +kernel
theorem dX9_copy_119 : decode cX9_copy 119 = .ok (.iload 5, 2) := by decide +kernel
theorem dX9_copy_121 : decode cX9_copy 121 = .ok (.if_icmp .ge 30, 3) := by decide +kernel
theorem dX9_copy_124 : decode cX9_copy 124 = .ok (.aload_n 0, 1) := by decide +kernel
theorem dX9_copy_125 : decode cX9_copy 125 = .ok (.getfield 77, 3) := by decide +kernel
theorem dX9_copy_128 : decode cX9_copy 128 = .ok (.iload 6, 2) := by decide +kernel
theorem dX9_copy_130 : decode cX9_copy 130 = .ok (.aload_n 0, 1) := by decide +kernel
theorem dX9_copy_131 : decode cX9_copy 131 = .ok (.getfield 71, 3) := by decide +kernel
theorem dX9_copy_134 : decode cX9_copy 134 = .ok (.bipush 24, 2) := by decide +kernel
theorem dX9_copy_136 : decode cX9_copy 136 = .ok (.iload_n 1, 1) := by decide +kernel
theorem dX9_copy_137 : decode cX9_copy 137 = .ok (.imul, 1) := by decide +kernel
theorem dX9_copy_138 : decode cX9_copy 138 = .ok (.iload_n 2, 1) := by decide +kernel
theorem dX9_copy_139 : decode cX9_copy 139 = .ok (.iadd, 1) := by decide +kernel
theorem dX9_copy_140 : decode cX9_copy 140 = .ok (.iload 6, 2) := by decide +kernel
theorem dX9_copy_142 : decode cX9_copy 142 = .ok (.iadd, 1) := by decide +kernel
theorem dX9_copy_143 : decode cX9_copy 143 = .ok (.iaload, 1) := by decide +kernel
theorem dX9_copy_144 : decode cX9_copy 144 = .ok (.iastore, 1) := by decide +kernel
theorem dX9_copy_145 : decode cX9_copy 145 = .ok (.iinc 6 1, 3) := by decide +kernel
theorem dX9_copy_148 : decode cX9_copy 148 = .ok (.goto (-31), 3) := by decide +kernel
theorem dX9_copy_151 : decode cX9_copy 151 = .ok (.iconst 0, 1) := by decide +kernel
theorem dX9_copy_152 : decode cX9_copy 152 = .ok (.istore 6, 2) := by decide +kernel
theorem dX9_copy_154 : decode cX9_copy 154 = .ok (.iload 6, 2) := by decide +kernel
theorem dX9_copy_156 : decode cX9_copy 156 = .ok (.iload 5, 2) := by decide +kernel
theorem dX9_copy_158 : decode cX9_copy 158 = .ok (.if_icmp .ge 31, 3) := by decide +kernel
theorem dX9_copy_161 : decode cX9_copy 161 = .ok (.aload_n 0, 1) := by decide +kernel
theorem dX9_copy_162 : decode cX9_copy 162 = .ok (.getfield 71, 3) := by decide +kernel
theorem dX9_copy_165 : decode cX9_copy 165 = .ok (.bipush 24, 2) := by decide +kernel
theorem dX9_copy_167 : decode cX9_copy 167 = .ok (.iload_n 3, 1) := by decide +kernel
theorem dX9_copy_168 : decode cX9_copy 168 = .ok (.imul, 1) := by decide +kernel
theorem dX9_copy_169 : decode cX9_copy 169 = .ok (.iload 4, 2) := by decide +kernel
theorem dX9_copy_171 : decode cX9_copy 171 = .ok (.iadd, 1) := by decide +kernel
theorem dX9_copy_172 : decode cX9_copy 172 = .ok (.iload 6, 2) := by decide +kernel
theorem dX9_copy_174 : decode cX9_copy 174 = .ok (.iadd, 1) := by decide +kernel
theorem dX9_copy_175 : decode cX9_copy 175 = .ok (.aload_n 0, 1) := by decide +kernel
theorem dX9_copy_176 : decode cX9_copy 176 = .ok (.getfield 77, 3) := by decide +kernel
theorem dX9_copy_179 : decode cX9_copy 179 = .ok (.iload 6, 2) := by decide +kernel
theorem dX9_copy_181 : decode cX9_copy 181 = .ok (.iaload, 1) := by decide +kernel
theorem dX9_copy_182 : decode cX9_copy 182 = .ok (.iastore, 1) := by decide +kernel
theorem dX9_copy_183 : decode cX9_copy 183 = .ok (.iinc 6 1, 3) := by decide +kernel
theorem dX9_copy_186 : decode cX9_copy 186 = .ok (.goto (-32), 3) := by decide +kernel
theorem dX9_copy_189 : decode cX9_copy 189 = .ok (.iload 5, 2) := by decide +kernel
theorem dX9_copy_191 : decode cX9_copy 191 = .ok (.ireturn, 1) := by decide +kernel
set_option maxRecDepth 100000 in
set_option maxHeartbeats 4000000 in
theorem e_X9_copy_0 (x1 x2 x3 x4 x5 : Int) {σ : Mem} {Q : Int → Mem → Prop} (h : HT GM M_X9_in [ml x1, ml 0, ml 3] σ (fun r6 σ6 => (r6 = 0 → Q (-1) σ6) ∧ (¬ r6 = 0 → HT GM M_X9_in [ml x3, ml 0, ml 3] σ6 (fun r18 σ18 => (¬ r18 = 0 → (0 ≤ x1 ∧ x1 < 4) ∧ ((σ18 18 x1 < 0 → Q (-11) σ18) ∧ (¬ σ18 18 x1 < 0 → (0 ≤ x3 ∧ x3 < 4) ∧ ((0 ≤ σ18 18 x3 → (0 ≤ x1 ∧ x1 < 4) ∧ ((0 ≤ x3 ∧ x3 < 4) ∧ ((σ18 18 x1 = σ18 18 x3 → (x5 < 0 → Q (-13) σ18) ∧ (¬ x5 < 0 → (0 ≤ x1 ∧ x1 < 4) ∧ (HT GM M_X9_in [ml x2, ml 0, ml (jlsub (σ18 19 x1) x5)] σ18 (fun r84 σ84 => (r84 = 0 → Q (-13) σ84) ∧ (¬ r84 = 0 → (0 ≤ x3 ∧ x3 < 4) ∧ (HT GM M_X9_in [ml x4, ml 0, ml (jlsub (σ84 19 x3) x5)] σ84 (fun r105 σ105 => (¬ r105 = 0 → WP GM M_X9_copy 117 [some (mr 0), some (mi x1), some (mi x2), some (mi x3), some (mi x4), some (mi x5), some (mi 0)] [] σ105 Q) ∧ (r105 = 0 → Q (-13) σ105)))))))) ∧ (¬ σ18 18 x1 = σ18 18 x3 → Q (-12) σ18)))) ∧ (¬ 0 ≤ σ18 18 x3 → Q (-11) σ18))))) ∧ (r18 = 0 → Q (-1) σ18))))) : HT GM M_X9_copy [mr 0, mi x1, mi x2, mi x3, mi x4, mi x5] σ Q := by
  refine HT.of pn_X9 (Nat.le_of_ble_eq_true rfl) ?_
  show WP GM M_X9_copy 0 [some (mr 0), some (mi x1), some (mi x2), some (mi x3), some (mi x4), some (mi x5), none] [] σ Q
  refine WP.iload_n dX9_copy_0 rfl ?_
  refine WP.i2l dX9_copy_1 ?_
  refine WP.lconst (x := 0) dX9_copy_2 (by decide) rfl ?_
  refine WP.ldc2 (x := 3) dX9_copy_3 ct_X9_94 (by decide) (by decide) ?_
  refine WP.callS M_X9_in [ml x1, ml 0, ml 3] cs_X9_in dX9_copy_6 lk_X9_82 ft_X9_copy__X9_in rfl (Nat.le_of_ble_eq_true rfl) (HT.mono h ?_)
  rintro r6 σ6 - - h
  refine WP.if_eq (tgt := 24) dX9_copy_9 (by decide) (fun q => ?_) (fun q => ?_)
  · have h := h.1 q
    refine WP.iconst dX9_copy_24 (by decide) ?_
    exact WP.iret rfl dX9_copy_25 h
  · have h := h.2 q
    refine WP.iload_n dX9_copy_12 rfl ?_
    refine WP.i2l dX9_copy_13 ?_
    refine WP.lconst (x := 0) dX9_copy_14 (by decide) rfl ?_
    refine WP.ldc2 (x := 3) dX9_copy_15 ct_X9_94 (by decide) (by decide) ?_
    refine WP.callS M_X9_in [ml x3, ml 0, ml 3] cs_X9_in dX9_copy_18 lk_X9_82 ft_X9_copy__X9_in rfl (Nat.le_of_ble_eq_true rfl) (HT.mono h ?_)
    rintro r18 σ18 - - h
    refine WP.if_ne (tgt := 26) dX9_copy_21 (by decide) (fun q => ?_) (fun q => ?_)
    · have h := h.1 q
      refine WP.aload_n dX9_copy_26 rfl ?_
      refine WP.getR fd_X9_65 dX9_copy_27 k0 rfl ?_
      refine WP.iload_n dX9_copy_30 rfl ?_
      obtain ⟨hi, h⟩ := h
      refine WP.iald dX9_copy_31 k18 hi ?_
      refine WP.if_lt (tgt := 44) dX9_copy_32 (by decide) (fun q => ?_) (fun q => ?_)
      · have h := h.1 q
        refine WP.bipush dX9_copy_44 (by decide) bp_m11 ?_
        exact WP.iret rfl dX9_copy_46 h
      · have h := h.2 q
        refine WP.aload_n dX9_copy_35 rfl ?_
        refine WP.getR fd_X9_65 dX9_copy_36 k0 rfl ?_
        refine WP.iload_n dX9_copy_39 rfl ?_
        obtain ⟨hi, h⟩ := h
        refine WP.iald dX9_copy_40 k18 hi ?_
        refine WP.if_ge (tgt := 47) dX9_copy_41 (by decide) (fun q => ?_) (fun q => ?_)
        · have h := h.1 q
          refine WP.aload_n dX9_copy_47 rfl ?_
          refine WP.getR fd_X9_65 dX9_copy_48 k0 rfl ?_
          refine WP.iload_n dX9_copy_51 rfl ?_
          obtain ⟨hi, h⟩ := h
          refine WP.iald dX9_copy_52 k18 hi ?_
          refine WP.aload_n dX9_copy_53 rfl ?_
          refine WP.getR fd_X9_65 dX9_copy_54 k0 rfl ?_
          refine WP.iload_n dX9_copy_57 rfl ?_
          obtain ⟨hi, h⟩ := h
          refine WP.iald dX9_copy_58 k18 hi ?_
          refine WP.icmp_eq (tgt := 65) dX9_copy_59 (by decide) (fun q => ?_) (fun q => ?_)
          · have h := h.1 q
            refine WP.iload dX9_copy_65 rfl ?_
            refine WP.if_lt (tgt := 111) dX9_copy_67 (by decide) (fun q => ?_) (fun q => ?_)
            · have h := h.1 q
              refine WP.bipush dX9_copy_111 (by decide) bp_m13 ?_
              exact WP.iret rfl dX9_copy_113 h
            · have h := h.2 q
              refine WP.iload_n dX9_copy_70 rfl ?_
              refine WP.i2l dX9_copy_71 ?_
              refine WP.lconst (x := 0) dX9_copy_72 (by decide) rfl ?_
              refine WP.aload_n dX9_copy_73 rfl ?_
              refine WP.getR fd_X9_68 dX9_copy_74 k0 rfl ?_
              refine WP.iload_n dX9_copy_77 rfl ?_
              obtain ⟨hi, h⟩ := h
              refine WP.iald dX9_copy_78 k19 hi ?_
              refine WP.i2l dX9_copy_79 ?_
              refine WP.iload dX9_copy_80 rfl ?_
              refine WP.i2l dX9_copy_82 ?_
              refine WP.lsub dX9_copy_83 ?_
              refine WP.callS M_X9_in [ml x2, ml 0, ml (jlsub (σ18 19 x1) x5)] cs_X9_in dX9_copy_84 lk_X9_82 ft_X9_copy__X9_in rfl (Nat.le_of_ble_eq_true rfl) (HT.mono h ?_)
              rintro r84 σ84 - - h
              refine WP.if_eq (tgt := 111) dX9_copy_87 (by decide) (fun q => ?_) (fun q => ?_)
              · have h := h.1 q
                refine WP.bipush dX9_copy_111 (by decide) bp_m13 ?_
                exact WP.iret rfl dX9_copy_113 h
              · have h := h.2 q
                refine WP.iload dX9_copy_90 rfl ?_
                refine WP.i2l dX9_copy_92 ?_
                refine WP.lconst (x := 0) dX9_copy_93 (by decide) rfl ?_
                refine WP.aload_n dX9_copy_94 rfl ?_
                refine WP.getR fd_X9_68 dX9_copy_95 k0 rfl ?_
                refine WP.iload_n dX9_copy_98 rfl ?_
                obtain ⟨hi, h⟩ := h
                refine WP.iald dX9_copy_99 k19 hi ?_
                refine WP.i2l dX9_copy_100 ?_
                refine WP.iload dX9_copy_101 rfl ?_
                refine WP.i2l dX9_copy_103 ?_
                refine WP.lsub dX9_copy_104 ?_
                refine WP.callS M_X9_in [ml x4, ml 0, ml (jlsub (σ84 19 x3) x5)] cs_X9_in dX9_copy_105 lk_X9_82 ft_X9_copy__X9_in rfl (Nat.le_of_ble_eq_true rfl) (HT.mono h ?_)
                rintro r105 σ105 - - h
                refine WP.if_ne (tgt := 114) dX9_copy_108 (by decide) (fun q => ?_) (fun q => ?_)
                · have h := h.1 q
                  refine WP.iconst dX9_copy_114 (by decide) ?_
                  refine WP.istore (L2 := [some (mr 0), some (mi x1), some (mi x2), some (mi x3), some (mi x4), some (mi x5), some (mi 0)]) dX9_copy_115 (by decide) rfl ?_
                  exact h
                · have h := h.2 q
                  refine WP.bipush dX9_copy_111 (by decide) bp_m13 ?_
                  exact WP.iret rfl dX9_copy_113 h
          · have h := h.2 q
            refine WP.bipush dX9_copy_62 (by decide) bp_m12 ?_
            exact WP.iret rfl dX9_copy_64 h
        · have h := h.2 q
          refine WP.bipush dX9_copy_44 (by decide) bp_m11 ?_
          exact WP.iret rfl dX9_copy_46 h
    · have h := h.2 q
      refine WP.iconst dX9_copy_24 (by decide) ?_
      exact WP.iret rfl dX9_copy_25 h
set_option maxRecDepth 100000 in
set_option maxHeartbeats 4000000 in
theorem b_X9_copy_0_117 (x1 x2 x3 x4 x5 x6 : Int) {σ : Mem} {Q : Int → Mem → Prop} (h : (x5 ≤ x6 → WP GM M_X9_copy 154 [some (mr 0), none, none, some (mi x3), some (mi x4), some (mi x5), some (mi 0)] [] σ Q) ∧ (¬ x5 ≤ x6 → (0 ≤ jadd (jadd (jmul 24 x1) x2) x6 ∧ jadd (jadd (jmul 24 x1) x2) x6 < 96) ∧ ((0 ≤ x6 ∧ x6 < 24) ∧ (WP GM M_X9_copy 117 [some (mr 0), some (mi x1), some (mi x2), some (mi x3), some (mi x4), some (mi x5), some (mi (jadd x6 1))] [] (mupd σ 22 x6 (σ 20 (jadd (jadd (jmul 24 x1) x2) x6))) Q)))) : WP GM M_X9_copy 117 [some (mr 0), some (mi x1), some (mi x2), some (mi x3), some (mi x4), some (mi x5), some (mi x6)] [] σ Q := by
  refine WP.iload dX9_copy_117 rfl ?_
  refine WP.iload dX9_copy_119 rfl ?_
  refine WP.icmp_ge (tgt := 151) dX9_copy_121 (by decide) (fun q => ?_) (fun q => ?_)
  · have h := h.1 q
    refine WP.iconst dX9_copy_151 (by decide) ?_
    refine WP.istore (L2 := [some (mr 0), some (mi x1), some (mi x2), some (mi x3), some (mi x4), some (mi x5), some (mi 0)]) dX9_copy_152 (by decide) rfl ?_
    refine WP.drop 1 (L2 := [some (mr 0), none, some (mi x2), some (mi x3), some (mi x4), some (mi x5), some (mi 0)]) rfl ?_
    refine WP.drop 2 (L2 := [some (mr 0), none, none, some (mi x3), some (mi x4), some (mi x5), some (mi 0)]) rfl ?_
    exact h
  · have h := h.2 q
    refine WP.aload_n dX9_copy_124 rfl ?_
    refine WP.getR fd_X9_77 dX9_copy_125 k0 rfl ?_
    refine WP.iload dX9_copy_128 rfl ?_
    refine WP.aload_n dX9_copy_130 rfl ?_
    refine WP.getR fd_X9_71 dX9_copy_131 k0 rfl ?_
    refine WP.bipush dX9_copy_134 (by decide) bp_24 ?_
    refine WP.iload_n dX9_copy_136 rfl ?_
    refine WP.imul dX9_copy_137 ?_
    refine WP.iload_n dX9_copy_138 rfl ?_
    refine WP.iadd dX9_copy_139 ?_
    refine WP.iload dX9_copy_140 rfl ?_
    refine WP.iadd dX9_copy_142 ?_
    obtain ⟨hi, h⟩ := h
    refine WP.iald dX9_copy_143 k20 hi ?_
    obtain ⟨hi, h⟩ := h
    refine WP.iast dX9_copy_144 k22 hi ?_
    refine WP.iinc (L2 := [some (mr 0), some (mi x1), some (mi x2), some (mi x3), some (mi x4), some (mi x5), some (mi (jadd x6 1))]) dX9_copy_145 (by decide) rfl (by decide) rfl ?_
    refine WP.goto (tgt := 117) dX9_copy_148 (by decide) ?_
    exact h
set_option maxRecDepth 100000 in
set_option maxHeartbeats 4000000 in
theorem b_X9_copy_0_154 (x3 x4 x5 x6 : Int) {σ : Mem} {Q : Int → Mem → Prop} (h : (x5 ≤ x6 → Q x5 σ) ∧ (¬ x5 ≤ x6 → (0 ≤ x6 ∧ x6 < 24) ∧ ((0 ≤ jadd (jadd (jmul 24 x3) x4) x6 ∧ jadd (jadd (jmul 24 x3) x4) x6 < 96) ∧ (WP GM M_X9_copy 154 [some (mr 0), none, none, some (mi x3), some (mi x4), some (mi x5), some (mi (jadd x6 1))] [] (mupd σ 20 (jadd (jadd (jmul 24 x3) x4) x6) (σ 22 x6)) Q)))) : WP GM M_X9_copy 154 [some (mr 0), none, none, some (mi x3), some (mi x4), some (mi x5), some (mi x6)] [] σ Q := by
  refine WP.iload dX9_copy_154 rfl ?_
  refine WP.iload dX9_copy_156 rfl ?_
  refine WP.icmp_ge (tgt := 189) dX9_copy_158 (by decide) (fun q => ?_) (fun q => ?_)
  · have h := h.1 q
    refine WP.iload dX9_copy_189 rfl ?_
    exact WP.iret rfl dX9_copy_191 h
  · have h := h.2 q
    refine WP.aload_n dX9_copy_161 rfl ?_
    refine WP.getR fd_X9_71 dX9_copy_162 k0 rfl ?_
    refine WP.bipush dX9_copy_165 (by decide) bp_24 ?_
    refine WP.iload_n dX9_copy_167 rfl ?_
    refine WP.imul dX9_copy_168 ?_
    refine WP.iload dX9_copy_169 rfl ?_
    refine WP.iadd dX9_copy_171 ?_
    refine WP.iload dX9_copy_172 rfl ?_
    refine WP.iadd dX9_copy_174 ?_
    refine WP.aload_n dX9_copy_175 rfl ?_
    refine WP.getR fd_X9_77 dX9_copy_176 k0 rfl ?_
    refine WP.iload dX9_copy_179 rfl ?_
    obtain ⟨hi, h⟩ := h
    refine WP.iald dX9_copy_181 k22 hi ?_
    obtain ⟨hi, h⟩ := h
    refine WP.iast dX9_copy_182 k20 hi ?_
    refine WP.iinc (L2 := [some (mr 0), none, none, some (mi x3), some (mi x4), some (mi x5), some (mi (jadd x6 1))]) dX9_copy_183 (by decide) rfl (by decide) rfl ?_
    refine WP.goto (tgt := 154) dX9_copy_186 (by decide) ?_
    exact h
