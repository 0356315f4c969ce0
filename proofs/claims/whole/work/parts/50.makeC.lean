/-! the constructors of the class, by program (wip/whole/gen/make.py) -/
theorem ka_I : Cond.arrayClass .int ∈ TBL := tb_in 96 (by decide +kernel) rfl
theorem ka_Z : Cond.arrayClass .boolean ∈ TBL := tb_in 263 (by decide +kernel) rfl
/-- the class's cells as they begin -/
def sz : Mem := fun k => match k with
  | 1 => fun j => if j = 4 then 1 else 0
  | 13 => fun j => if j = 4 then 1 else 0
  | _ => fun _ => 0
theorem dX0_init_0 : decode cX0_init 0 = .ok (.aload_n 0, 1) := by decide +kernel
theorem dX0_init_1 : decode cX0_init 1 = .ok (.invokespecial 3, 3) := by decide +kernel
theorem dX0_init_4 : decode cX0_init 4 = .ok (.aload_n 0, 1) := by decide +kernel
theorem dX0_init_5 : decode cX0_init 5 = .ok (.bipush 16, 2) := by decide +kernel
theorem dX0_init_7 : decode cX0_init 7 = .ok (.newarray .int, 2) := by decide +kernel
theorem dX0_init_9 : decode cX0_init 9 = .ok (.putfield 9, 3) := by decide +kernel
theorem dX0_init_12 : decode cX0_init 12 = .ok (.aload_n 0, 1) := by decide +kernel
theorem dX0_init_13 : decode cX0_init 13 = .ok (.iconst 4, 1) := by decide +kernel
theorem dX0_init_14 : decode cX0_init 14 = .ok (.newarray .int, 2) := by decide +kernel
theorem dX0_init_16 : decode cX0_init 16 = .ok (.putfield 15, 3) := by decide +kernel
theorem dX0_init_19 : decode cX0_init 19 = .ok (.aload_n 0, 1) := by decide +kernel
theorem dX0_init_20 : decode cX0_init 20 = .ok (.iconst 4, 1) := by decide +kernel
theorem dX0_init_21 : decode cX0_init 21 = .ok (.newarray .int, 2) := by decide +kernel
theorem dX0_init_23 : decode cX0_init 23 = .ok (.putfield 18, 3) := by decide +kernel
theorem dX0_init_26 : decode cX0_init 26 = .ok (.aload_n 0, 1) := by decide +kernel
theorem dX0_init_27 : decode cX0_init 27 = .ok (.iconst 4, 1) := by decide +kernel
theorem dX0_init_28 : decode cX0_init 28 = .ok (.newarray .int, 2) := by decide +kernel
theorem dX0_init_30 : decode cX0_init 30 = .ok (.putfield 21, 3) := by decide +kernel
theorem dX0_init_33 : decode cX0_init 33 = .ok (.return_, 1) := by decide +kernel
abbrev M_X0_init : MI := (yX0_init, cX0_init, 1, none, 1, 12)
theorem ko_X0 : kobj RX0 3 := ⟨tb_in 69 (by decide +kernel) rfl, tb_in 56 (by decide +kernel) rfl, tb_in 57 (by decide +kernel) rfl⟩
theorem kg_X0_9 : kpf RX0 9 0 1 (.array .int) := ⟨RX0, TX0, 5, tyX0, rfl, by decide, tbX0, tb_in 75 (by decide +kernel) rfl, rfl, tyX0_ok, nmX0, rfl, rfl, tyX0_ok 1 (by decide)⟩
theorem kg_X0_15 : kpf RX0 15 0 2 (.array .int) := ⟨RX0, TX0, 5, tyX0, rfl, by decide, tbX0, tb_in 77 (by decide +kernel) rfl, rfl, tyX0_ok, nmX0, rfl, rfl, tyX0_ok 2 (by decide)⟩
theorem kg_X0_18 : kpf RX0 18 0 3 (.array .int) := ⟨RX0, TX0, 5, tyX0, rfl, by decide, tbX0, tb_in 79 (by decide +kernel) rfl, rfl, tyX0_ok, nmX0, rfl, rfl, tyX0_ok 3 (by decide)⟩
theorem kg_X0_21 : kpf RX0 21 0 4 (.array .int) := ⟨RX0, TX0, 5, tyX0, rfl, by decide, tbX0, tb_in 81 (by decide +kernel) rfl, rfl, tyX0_ok, nmX0, rfl, rfl, tyX0_ok 4 (by decide)⟩
theorem ki_X0 : kini M_X0_init := ⟨tb_in 68 (by decide +kernel) rfl, tb_in 39 (by decide +kernel) rfl, tb_in 67 (by decide +kernel) rfl, ⟨by decide, by decide, by decide +kernel⟩, rfl, rfl⟩
set_option maxHeartbeats 4000000 in
set_option maxRecDepth 100000 in
theorem k_X0 : KT M_X0_init 4 28 0 [.int (Int32.ofInt 0), .null, .null, .null, .null] (fun cI cZ h0 w => ∃ q1 q2 q3 q4, w = [(h0, .inr (0, [.int (Int32.ofInt 0), .ref q1, .ref q2, .ref q3, .ref q4])), (q1, .inl (cI, 16, .inl (fun _ => Int32.ofInt 0))), (q2, .inl (cI, 4, .inl (fun _ => Int32.ofInt 0))), (q3, .inl (cI, 4, .inl (fun _ => Int32.ofInt 0))), (q4, .inl (cI, 4, .inl (fun _ => Int32.ofInt 0)))]) := by
  refine KT.of (by decide +kernel) rfl rfl (by decide) (fun cI cZ h0 => ?_)
  refine KP.aload0 (a := h0) dX0_init_0 (by simp) ?_
  refine KP.super ko_X0 dX0_init_1 ⟨by decide, by decide⟩ ?_
  refine KP.aload0 (a := h0) dX0_init_4 (by simp) ?_
  refine KP.bipush dX0_init_5 (by decide) ?_
  refine KP.newI 16 dX0_init_7 (by decide) (by decide) (by decide) (by decide) (by decide) ka_I (fun q1 => ?_)
  refine KP.cw [(h0, .inr (0, [.int (Int32.ofInt 0), .null, .null, .null, .null])), (q1, .inl (cI, 16, .inl (fun _ => Int32.ofInt 0)))] rfl ?_
  refine KP.putF kg_X0_9 dX0_init_9 rfl rfl rfl (Nat.le_of_ble_eq_true rfl) ?_
  refine KP.cw [(h0, .inr (0, [.int (Int32.ofInt 0), .ref q1, .null, .null, .null])), (q1, .inl (cI, 16, .inl (fun _ => Int32.ofInt 0)))] rfl ?_
  refine KP.aload0 (a := h0) dX0_init_12 (by simp) ?_
  refine KP.iconst dX0_init_13 ?_
  refine KP.newI 4 dX0_init_14 (by decide) (by decide) (by decide) (by decide) (by decide) ka_I (fun q2 => ?_)
  refine KP.cw [(h0, .inr (0, [.int (Int32.ofInt 0), .ref q1, .null, .null, .null])), (q1, .inl (cI, 16, .inl (fun _ => Int32.ofInt 0))), (q2, .inl (cI, 4, .inl (fun _ => Int32.ofInt 0)))] rfl ?_
  refine KP.putF kg_X0_15 dX0_init_16 rfl rfl rfl (Nat.le_of_ble_eq_true rfl) ?_
  refine KP.cw [(h0, .inr (0, [.int (Int32.ofInt 0), .ref q1, .ref q2, .null, .null])), (q1, .inl (cI, 16, .inl (fun _ => Int32.ofInt 0))), (q2, .inl (cI, 4, .inl (fun _ => Int32.ofInt 0)))] rfl ?_
  refine KP.aload0 (a := h0) dX0_init_19 (by simp) ?_
  refine KP.iconst dX0_init_20 ?_
  refine KP.newI 4 dX0_init_21 (by decide) (by decide) (by decide) (by decide) (by decide) ka_I (fun q3 => ?_)
  refine KP.cw [(h0, .inr (0, [.int (Int32.ofInt 0), .ref q1, .ref q2, .null, .null])), (q1, .inl (cI, 16, .inl (fun _ => Int32.ofInt 0))), (q2, .inl (cI, 4, .inl (fun _ => Int32.ofInt 0))), (q3, .inl (cI, 4, .inl (fun _ => Int32.ofInt 0)))] rfl ?_
  refine KP.putF kg_X0_18 dX0_init_23 rfl rfl rfl (Nat.le_of_ble_eq_true rfl) ?_
  refine KP.cw [(h0, .inr (0, [.int (Int32.ofInt 0), .ref q1, .ref q2, .ref q3, .null])), (q1, .inl (cI, 16, .inl (fun _ => Int32.ofInt 0))), (q2, .inl (cI, 4, .inl (fun _ => Int32.ofInt 0))), (q3, .inl (cI, 4, .inl (fun _ => Int32.ofInt 0)))] rfl ?_
  refine KP.aload0 (a := h0) dX0_init_26 (by simp) ?_
  refine KP.iconst dX0_init_27 ?_
  refine KP.newI 4 dX0_init_28 (by decide) (by decide) (by decide) (by decide) (by decide) ka_I (fun q4 => ?_)
  refine KP.cw [(h0, .inr (0, [.int (Int32.ofInt 0), .ref q1, .ref q2, .ref q3, .null])), (q1, .inl (cI, 16, .inl (fun _ => Int32.ofInt 0))), (q2, .inl (cI, 4, .inl (fun _ => Int32.ofInt 0))), (q3, .inl (cI, 4, .inl (fun _ => Int32.ofInt 0))), (q4, .inl (cI, 4, .inl (fun _ => Int32.ofInt 0)))] rfl ?_
  refine KP.putF kg_X0_21 dX0_init_30 rfl rfl rfl (Nat.le_of_ble_eq_true rfl) ?_
  refine KP.cw [(h0, .inr (0, [.int (Int32.ofInt 0), .ref q1, .ref q2, .ref q3, .ref q4])), (q1, .inl (cI, 16, .inl (fun _ => Int32.ofInt 0))), (q2, .inl (cI, 4, .inl (fun _ => Int32.ofInt 0))), (q3, .inl (cI, 4, .inl (fun _ => Int32.ofInt 0))), (q4, .inl (cI, 4, .inl (fun _ => Int32.ofInt 0)))] rfl ?_
  exact KP.vret dX0_init_33 (by decide) (by decide) [0, 1, 2, 3, 4] [(h0, .inr (0, [.int (Int32.ofInt 0), .ref q1, .ref q2, .ref q3, .ref q4])), (q1, .inl (cI, 16, .inl (fun _ => Int32.ofInt 0))), (q2, .inl (cI, 4, .inl (fun _ => Int32.ofInt 0))), (q3, .inl (cI, 4, .inl (fun _ => Int32.ofInt 0))), (q4, .inl (cI, 4, .inl (fun _ => Int32.ofInt 0)))] (by decide) rfl ⟨q1, q2, q3, q4, rfl⟩
theorem dX6_init_0 : decode cX6_init 0 = .ok (.aload_n 0, 1) := by decide +kernel
theorem dX6_init_1 : decode cX6_init 1 = .ok (.invokespecial 3, 3) := by decide +kernel
theorem dX6_init_4 : decode cX6_init 4 = .ok (.aload_n 0, 1) := by decide +kernel
theorem dX6_init_5 : decode cX6_init 5 = .ok (.bipush 8, 2) := by decide +kernel
theorem dX6_init_7 : decode cX6_init 7 = .ok (.newarray .int, 2) := by decide +kernel
theorem dX6_init_9 : decode cX6_init 9 = .ok (.putfield 9, 3) := by decide +kernel
theorem dX6_init_12 : decode cX6_init 12 = .ok (.aload_n 0, 1) := by decide +kernel
theorem dX6_init_13 : decode cX6_init 13 = .ok (.bipush 8, 2) := by decide +kernel
theorem dX6_init_15 : decode cX6_init 15 = .ok (.newarray .int, 2) := by decide +kernel
theorem dX6_init_17 : decode cX6_init 17 = .ok (.putfield 15, 3) := by decide +kernel
theorem dX6_init_20 : decode cX6_init 20 = .ok (.aload_n 0, 1) := by decide +kernel
theorem dX6_init_21 : decode cX6_init 21 = .ok (.bipush 8, 2) := by decide +kernel
theorem dX6_init_23 : decode cX6_init 23 = .ok (.newarray .int, 2) := by decide +kernel
theorem dX6_init_25 : decode cX6_init 25 = .ok (.putfield 18, 3) := by decide +kernel
theorem dX6_init_28 : decode cX6_init 28 = .ok (.aload_n 0, 1) := by decide +kernel
theorem dX6_init_29 : decode cX6_init 29 = .ok (.bipush 8, 2) := by decide +kernel
theorem dX6_init_31 : decode cX6_init 31 = .ok (.newarray .int, 2) := by decide +kernel
theorem dX6_init_33 : decode cX6_init 33 = .ok (.putfield 21, 3) := by decide +kernel
theorem dX6_init_36 : decode cX6_init 36 = .ok (.return_, 1) := by decide +kernel
abbrev M_X6_init : MI := (yX6_init, cX6_init, 1, none, 1, 12)
theorem ko_X6 : kobj RX6 3 := ⟨tb_in 102 (by decide +kernel) rfl, tb_in 56 (by decide +kernel) rfl, tb_in 57 (by decide +kernel) rfl⟩
theorem kg_X6_9 : kpf RX6 9 6 1 (.array .int) := ⟨RX6, TX6, 5, tyX6, rfl, by decide, tbX6, tb_in 107 (by decide +kernel) rfl, rfl, tyX6_ok, nmX6, rfl, rfl, tyX6_ok 1 (by decide)⟩
theorem kg_X6_15 : kpf RX6 15 6 2 (.array .int) := ⟨RX6, TX6, 5, tyX6, rfl, by decide, tbX6, tb_in 110 (by decide +kernel) rfl, rfl, tyX6_ok, nmX6, rfl, rfl, tyX6_ok 2 (by decide)⟩
theorem kg_X6_18 : kpf RX6 18 6 3 (.array .int) := ⟨RX6, TX6, 5, tyX6, rfl, by decide, tbX6, tb_in 113 (by decide +kernel) rfl, rfl, tyX6_ok, nmX6, rfl, rfl, tyX6_ok 3 (by decide)⟩
theorem kg_X6_21 : kpf RX6 21 6 4 (.array .int) := ⟨RX6, TX6, 5, tyX6, rfl, by decide, tbX6, tb_in 115 (by decide +kernel) rfl, rfl, tyX6_ok, nmX6, rfl, rfl, tyX6_ok 4 (by decide)⟩
theorem ki_X6 : kini M_X6_init := ⟨tb_in 101 (by decide +kernel) rfl, tb_in 40 (by decide +kernel) rfl, tb_in 100 (by decide +kernel) rfl, ⟨by decide, by decide, by decide +kernel⟩, rfl, rfl⟩
set_option maxHeartbeats 4000000 in
set_option maxRecDepth 100000 in
theorem k_X6 : KT M_X6_init 4 32 6 [.int (Int32.ofInt 0), .null, .null, .null, .null] (fun cI cZ h0 w => ∃ q1 q2 q3 q4, w = [(h0, .inr (6, [.int (Int32.ofInt 0), .ref q1, .ref q2, .ref q3, .ref q4])), (q1, .inl (cI, 8, .inl (fun _ => Int32.ofInt 0))), (q2, .inl (cI, 8, .inl (fun _ => Int32.ofInt 0))), (q3, .inl (cI, 8, .inl (fun _ => Int32.ofInt 0))), (q4, .inl (cI, 8, .inl (fun _ => Int32.ofInt 0)))]) := by
  refine KT.of (by decide +kernel) rfl rfl (by decide) (fun cI cZ h0 => ?_)
  refine KP.aload0 (a := h0) dX6_init_0 (by simp) ?_
  refine KP.super ko_X6 dX6_init_1 ⟨by decide, by decide⟩ ?_
  refine KP.aload0 (a := h0) dX6_init_4 (by simp) ?_
  refine KP.bipush dX6_init_5 (by decide) ?_
  refine KP.newI 8 dX6_init_7 (by decide) (by decide) (by decide) (by decide) (by decide) ka_I (fun q1 => ?_)
  refine KP.cw [(h0, .inr (6, [.int (Int32.ofInt 0), .null, .null, .null, .null])), (q1, .inl (cI, 8, .inl (fun _ => Int32.ofInt 0)))] rfl ?_
  refine KP.putF kg_X6_9 dX6_init_9 rfl rfl rfl (Nat.le_of_ble_eq_true rfl) ?_
  refine KP.cw [(h0, .inr (6, [.int (Int32.ofInt 0), .ref q1, .null, .null, .null])), (q1, .inl (cI, 8, .inl (fun _ => Int32.ofInt 0)))] rfl ?_
  refine KP.aload0 (a := h0) dX6_init_12 (by simp) ?_
  refine KP.bipush dX6_init_13 (by decide) ?_
  refine KP.newI 8 dX6_init_15 (by decide) (by decide) (by decide) (by decide) (by decide) ka_I (fun q2 => ?_)
  refine KP.cw [(h0, .inr (6, [.int (Int32.ofInt 0), .ref q1, .null, .null, .null])), (q1, .inl (cI, 8, .inl (fun _ => Int32.ofInt 0))), (q2, .inl (cI, 8, .inl (fun _ => Int32.ofInt 0)))] rfl ?_
  refine KP.putF kg_X6_15 dX6_init_17 rfl rfl rfl (Nat.le_of_ble_eq_true rfl) ?_
  refine KP.cw [(h0, .inr (6, [.int (Int32.ofInt 0), .ref q1, .ref q2, .null, .null])), (q1, .inl (cI, 8, .inl (fun _ => Int32.ofInt 0))), (q2, .inl (cI, 8, .inl (fun _ => Int32.ofInt 0)))] rfl ?_
  refine KP.aload0 (a := h0) dX6_init_20 (by simp) ?_
  refine KP.bipush dX6_init_21 (by decide) ?_
  refine KP.newI 8 dX6_init_23 (by decide) (by decide) (by decide) (by decide) (by decide) ka_I (fun q3 => ?_)
  refine KP.cw [(h0, .inr (6, [.int (Int32.ofInt 0), .ref q1, .ref q2, .null, .null])), (q1, .inl (cI, 8, .inl (fun _ => Int32.ofInt 0))), (q2, .inl (cI, 8, .inl (fun _ => Int32.ofInt 0))), (q3, .inl (cI, 8, .inl (fun _ => Int32.ofInt 0)))] rfl ?_
  refine KP.putF kg_X6_18 dX6_init_25 rfl rfl rfl (Nat.le_of_ble_eq_true rfl) ?_
  refine KP.cw [(h0, .inr (6, [.int (Int32.ofInt 0), .ref q1, .ref q2, .ref q3, .null])), (q1, .inl (cI, 8, .inl (fun _ => Int32.ofInt 0))), (q2, .inl (cI, 8, .inl (fun _ => Int32.ofInt 0))), (q3, .inl (cI, 8, .inl (fun _ => Int32.ofInt 0)))] rfl ?_
  refine KP.aload0 (a := h0) dX6_init_28 (by simp) ?_
  refine KP.bipush dX6_init_29 (by decide) ?_
  refine KP.newI 8 dX6_init_31 (by decide) (by decide) (by decide) (by decide) (by decide) ka_I (fun q4 => ?_)
  refine KP.cw [(h0, .inr (6, [.int (Int32.ofInt 0), .ref q1, .ref q2, .ref q3, .null])), (q1, .inl (cI, 8, .inl (fun _ => Int32.ofInt 0))), (q2, .inl (cI, 8, .inl (fun _ => Int32.ofInt 0))), (q3, .inl (cI, 8, .inl (fun _ => Int32.ofInt 0))), (q4, .inl (cI, 8, .inl (fun _ => Int32.ofInt 0)))] rfl ?_
  refine KP.putF kg_X6_21 dX6_init_33 rfl rfl rfl (Nat.le_of_ble_eq_true rfl) ?_
  refine KP.cw [(h0, .inr (6, [.int (Int32.ofInt 0), .ref q1, .ref q2, .ref q3, .ref q4])), (q1, .inl (cI, 8, .inl (fun _ => Int32.ofInt 0))), (q2, .inl (cI, 8, .inl (fun _ => Int32.ofInt 0))), (q3, .inl (cI, 8, .inl (fun _ => Int32.ofInt 0))), (q4, .inl (cI, 8, .inl (fun _ => Int32.ofInt 0)))] rfl ?_
  exact KP.vret dX6_init_36 (by decide) (by decide) [0, 1, 2, 3, 4] [(h0, .inr (6, [.int (Int32.ofInt 0), .ref q1, .ref q2, .ref q3, .ref q4])), (q1, .inl (cI, 8, .inl (fun _ => Int32.ofInt 0))), (q2, .inl (cI, 8, .inl (fun _ => Int32.ofInt 0))), (q3, .inl (cI, 8, .inl (fun _ => Int32.ofInt 0))), (q4, .inl (cI, 8, .inl (fun _ => Int32.ofInt 0)))] (by decide) rfl ⟨q1, q2, q3, q4, rfl⟩
theorem dX5_init_0 : decode cX5_init 0 = .ok (.aload_n 0, 1) := by decide +kernel
theorem dX5_init_1 : decode cX5_init 1 = .ok (.invokespecial 3, 3) := by decide +kernel
theorem dX5_init_4 : decode cX5_init 4 = .ok (.aload_n 0, 1) := by decide +kernel
theorem dX5_init_5 : decode cX5_init 5 = .ok (.bipush 100, 2) := by decide +kernel
theorem dX5_init_7 : decode cX5_init 7 = .ok (.newarray .int, 2) := by decide +kernel
theorem dX5_init_9 : decode cX5_init 9 = .ok (.putfield 9, 3) := by decide +kernel
theorem dX5_init_12 : decode cX5_init 12 = .ok (.return_, 1) := by decide +kernel
abbrev M_X5_init : MI := (yX5_init, cX5_init, 1, none, 1, 12)
theorem ko_X5 : kobj RX5 3 := ⟨tb_in 158 (by decide +kernel) rfl, tb_in 56 (by decide +kernel) rfl, tb_in 57 (by decide +kernel) rfl⟩
theorem kg_X5_9 : kpf RX5 9 5 0 (.array .int) := ⟨RX5, TX5, 3, tyX5, rfl, by decide, tbX5, tb_in 159 (by decide +kernel) rfl, rfl, tyX5_ok, nmX5, rfl, rfl, tyX5_ok 0 (by decide)⟩
theorem ki_X5 : kini M_X5_init := ⟨tb_in 157 (by decide +kernel) rfl, tb_in 41 (by decide +kernel) rfl, tb_in 156 (by decide +kernel) rfl, ⟨by decide, by decide, by decide +kernel⟩, rfl, rfl⟩
set_option maxHeartbeats 4000000 in
set_option maxRecDepth 100000 in
theorem k_X5 : KT M_X5_init 1 100 5 [.null, .int (Int32.ofInt 0), .int (Int32.ofInt 0)] (fun cI cZ h0 w => ∃ q1, w = [(h0, .inr (5, [.ref q1, .int (Int32.ofInt 0), .int (Int32.ofInt 0)])), (q1, .inl (cI, 100, .inl (fun _ => Int32.ofInt 0)))]) := by
  refine KT.of (by decide +kernel) rfl rfl (by decide) (fun cI cZ h0 => ?_)
  refine KP.aload0 (a := h0) dX5_init_0 (by simp) ?_
  refine KP.super ko_X5 dX5_init_1 ⟨by decide, by decide⟩ ?_
  refine KP.aload0 (a := h0) dX5_init_4 (by simp) ?_
  refine KP.bipush dX5_init_5 (by decide) ?_
  refine KP.newI 100 dX5_init_7 (by decide) (by decide) (by decide) (by decide) (by decide) ka_I (fun q1 => ?_)
  refine KP.cw [(h0, .inr (5, [.null, .int (Int32.ofInt 0), .int (Int32.ofInt 0)])), (q1, .inl (cI, 100, .inl (fun _ => Int32.ofInt 0)))] rfl ?_
  refine KP.putF kg_X5_9 dX5_init_9 rfl rfl rfl (Nat.le_of_ble_eq_true rfl) ?_
  refine KP.cw [(h0, .inr (5, [.ref q1, .int (Int32.ofInt 0), .int (Int32.ofInt 0)])), (q1, .inl (cI, 100, .inl (fun _ => Int32.ofInt 0)))] rfl ?_
  exact KP.vret dX5_init_12 (by decide) (by decide) [0, 1] [(h0, .inr (5, [.ref q1, .int (Int32.ofInt 0), .int (Int32.ofInt 0)])), (q1, .inl (cI, 100, .inl (fun _ => Int32.ofInt 0)))] (by decide) rfl ⟨q1, rfl⟩
theorem dX2_init_0 : decode cX2_init 0 = .ok (.aload_n 0, 1) := by decide +kernel
theorem dX2_init_1 : decode cX2_init 1 = .ok (.invokespecial 3, 3) := by decide +kernel
theorem dX2_init_4 : decode cX2_init 4 = .ok (.aload_n 0, 1) := by decide +kernel
theorem dX2_init_5 : decode cX2_init 5 = .ok (.new 9, 3) := by decide +kernel
theorem dX2_init_8 : decode cX2_init 8 = .ok (.dup, 1) := by decide +kernel
theorem dX2_init_9 : decode cX2_init 9 = .ok (.invokespecial 11, 3) := by decide +kernel
theorem dX2_init_12 : decode cX2_init 12 = .ok (.putfield 12, 3) := by decide +kernel
theorem dX2_init_15 : decode cX2_init 15 = .ok (.return_, 1) := by decide +kernel
abbrev M_X2_init : MI := (yX2_init, cX2_init, 1, none, 2, 32)
theorem ko_X2 : kobj RX2 3 := ⟨tb_in 176 (by decide +kernel) rfl, tb_in 56 (by decide +kernel) rfl, tb_in 57 (by decide +kernel) rfl⟩
theorem kc_X2_9 : kcl RX2 9 0 [.int (Int32.ofInt 0), .null, .null, .null, .null] := ⟨RX0, TX0, tyX0, rfl, tbX0, tyX0_ok, tb_in 177 (by decide +kernel) rfl, tb_in 65 (by decide +kernel) rfl, tb_in 39 (by decide +kernel) rfl, by decide⟩
theorem kg_X2_12 : kpf RX2 12 2 0 (.object "CoatPockets$Coats") := ⟨RX2, TX2, 4, tyX2, rfl, by decide, tbX2, tb_in 179 (by decide +kernel) rfl, rfl, tyX2_ok, nmX2, rfl, rfl, tyX2_ok 0 (by decide)⟩
theorem ki_X2 : kini M_X2_init := ⟨tb_in 175 (by decide +kernel) rfl, tb_in 42 (by decide +kernel) rfl, tb_in 174 (by decide +kernel) rfl, ⟨by decide, by decide, by decide +kernel⟩, rfl, rfl⟩
set_option maxHeartbeats 4000000 in
set_option maxRecDepth 100000 in
theorem k_X2 : KT M_X2_init 5 33 2 [.null, .int (Int32.ofInt 0), .int (Int32.ofInt 0), .int (Int32.ofInt 0)] (fun cI cZ h0 w => ∃ q1 q2 q3 q4 q5, w = [(h0, .inr (2, [.ref q1, .int (Int32.ofInt 0), .int (Int32.ofInt 0), .int (Int32.ofInt 0)])), (q1, .inr (0, [.int (Int32.ofInt 0), .ref q2, .ref q3, .ref q4, .ref q5])), (q2, .inl (cI, 16, .inl (fun _ => Int32.ofInt 0))), (q3, .inl (cI, 4, .inl (fun _ => Int32.ofInt 0))), (q4, .inl (cI, 4, .inl (fun _ => Int32.ofInt 0))), (q5, .inl (cI, 4, .inl (fun _ => Int32.ofInt 0)))]) := by
  refine KT.of (by decide +kernel) rfl rfl (by decide) (fun cI cZ h0 => ?_)
  refine KP.aload0 (a := h0) dX2_init_0 (by simp) ?_
  refine KP.super ko_X2 dX2_init_1 ⟨by decide, by decide⟩ ?_
  refine KP.aload0 (a := h0) dX2_init_4 (by simp) ?_
  refine KP.new 0 [.int (Int32.ofInt 0), .null, .null, .null, .null] kc_X2_9 dX2_init_5 (by decide) (by decide) (fun q1 => ?_)
  refine KP.dup dX2_init_8 ?_
  refine KP.init (M := M_X2_init) (mc := 5) (ms := 33) (k := 1) (n := 5) (a := q1) (S := [.ref q1, .ref h0]) (w0 := [(h0, .inr (2, [.null, .int (Int32.ofInt 0), .int (Int32.ofInt 0), .int (Int32.ofInt 0)]))]) (host := RX8) M_X0_init 4 28 k_X0 ki_X0 dX2_init_9 (List.mem_of_getElem? (i := 5) rfl) ⟨by decide, by decide⟩ (by simp [Value.category]) (by decide) (by decide) (fun w1 hw1 => ?_)
  obtain ⟨q2, q3, q4, q5, rfl⟩ := hw1
  refine KP.cw [(h0, .inr (2, [.null, .int (Int32.ofInt 0), .int (Int32.ofInt 0), .int (Int32.ofInt 0)])), (q1, .inr (0, [.int (Int32.ofInt 0), .ref q2, .ref q3, .ref q4, .ref q5])), (q2, .inl (cI, 16, .inl (fun _ => Int32.ofInt 0))), (q3, .inl (cI, 4, .inl (fun _ => Int32.ofInt 0))), (q4, .inl (cI, 4, .inl (fun _ => Int32.ofInt 0))), (q5, .inl (cI, 4, .inl (fun _ => Int32.ofInt 0)))] rfl ?_
  refine KP.putF kg_X2_12 dX2_init_12 rfl rfl rfl (Nat.le_of_ble_eq_true rfl) ?_
  refine KP.cw [(h0, .inr (2, [.ref q1, .int (Int32.ofInt 0), .int (Int32.ofInt 0), .int (Int32.ofInt 0)])), (q1, .inr (0, [.int (Int32.ofInt 0), .ref q2, .ref q3, .ref q4, .ref q5])), (q2, .inl (cI, 16, .inl (fun _ => Int32.ofInt 0))), (q3, .inl (cI, 4, .inl (fun _ => Int32.ofInt 0))), (q4, .inl (cI, 4, .inl (fun _ => Int32.ofInt 0))), (q5, .inl (cI, 4, .inl (fun _ => Int32.ofInt 0)))] rfl ?_
  exact KP.vret dX2_init_15 (by decide) (by decide) [0, 1, 2, 3, 4, 5] [(h0, .inr (2, [.ref q1, .int (Int32.ofInt 0), .int (Int32.ofInt 0), .int (Int32.ofInt 0)])), (q1, .inr (0, [.int (Int32.ofInt 0), .ref q2, .ref q3, .ref q4, .ref q5])), (q2, .inl (cI, 16, .inl (fun _ => Int32.ofInt 0))), (q3, .inl (cI, 4, .inl (fun _ => Int32.ofInt 0))), (q4, .inl (cI, 4, .inl (fun _ => Int32.ofInt 0))), (q5, .inl (cI, 4, .inl (fun _ => Int32.ofInt 0)))] (by decide) rfl ⟨q1, q2, q3, q4, q5, rfl⟩
theorem dX1_init_0 : decode cX1_init 0 = .ok (.aload_n 0, 1) := by decide +kernel
theorem dX1_init_1 : decode cX1_init 1 = .ok (.invokespecial 3, 3) := by decide +kernel
theorem dX1_init_4 : decode cX1_init 4 = .ok (.aload_n 0, 1) := by decide +kernel
theorem dX1_init_5 : decode cX1_init 5 = .ok (.bipush 64, 2) := by decide +kernel
theorem dX1_init_7 : decode cX1_init 7 = .ok (.newarray .int, 2) := by decide +kernel
theorem dX1_init_9 : decode cX1_init 9 = .ok (.putfield 9, 3) := by decide +kernel
theorem dX1_init_12 : decode cX1_init 12 = .ok (.aload_n 0, 1) := by decide +kernel
theorem dX1_init_13 : decode cX1_init 13 = .ok (.bipush 8, 2) := by decide +kernel
theorem dX1_init_15 : decode cX1_init 15 = .ok (.newarray .int, 2) := by decide +kernel
theorem dX1_init_17 : decode cX1_init 17 = .ok (.putfield 15, 3) := by decide +kernel
theorem dX1_init_20 : decode cX1_init 20 = .ok (.aload_n 0, 1) := by decide +kernel
theorem dX1_init_21 : decode cX1_init 21 = .ok (.sipush 256, 3) := by decide +kernel
theorem dX1_init_24 : decode cX1_init 24 = .ok (.newarray .int, 2) := by decide +kernel
theorem dX1_init_26 : decode cX1_init 26 = .ok (.putfield 18, 3) := by decide +kernel
theorem dX1_init_29 : decode cX1_init 29 = .ok (.aload_n 0, 1) := by decide +kernel
theorem dX1_init_30 : decode cX1_init 30 = .ok (.sipush 256, 3) := by decide +kernel
theorem dX1_init_33 : decode cX1_init 33 = .ok (.newarray .int, 2) := by decide +kernel
theorem dX1_init_35 : decode cX1_init 35 = .ok (.putfield 21, 3) := by decide +kernel
theorem dX1_init_38 : decode cX1_init 38 = .ok (.return_, 1) := by decide +kernel
abbrev M_X1_init : MI := (yX1_init, cX1_init, 1, none, 1, 12)
theorem ko_X1 : kobj RX1 3 := ⟨tb_in 226 (by decide +kernel) rfl, tb_in 56 (by decide +kernel) rfl, tb_in 57 (by decide +kernel) rfl⟩
theorem kg_X1_9 : kpf RX1 9 1 0 (.array .int) := ⟨RX1, TX1, 4, tyX1, rfl, by decide, tbX1, tb_in 227 (by decide +kernel) rfl, rfl, tyX1_ok, nmX1, rfl, rfl, tyX1_ok 0 (by decide)⟩
theorem kg_X1_15 : kpf RX1 15 1 1 (.array .int) := ⟨RX1, TX1, 4, tyX1, rfl, by decide, tbX1, tb_in 228 (by decide +kernel) rfl, rfl, tyX1_ok, nmX1, rfl, rfl, tyX1_ok 1 (by decide)⟩
theorem kg_X1_18 : kpf RX1 18 1 2 (.array .int) := ⟨RX1, TX1, 4, tyX1, rfl, by decide, tbX1, tb_in 229 (by decide +kernel) rfl, rfl, tyX1_ok, nmX1, rfl, rfl, tyX1_ok 2 (by decide)⟩
theorem kg_X1_21 : kpf RX1 21 1 3 (.array .int) := ⟨RX1, TX1, 4, tyX1, rfl, by decide, tbX1, tb_in 230 (by decide +kernel) rfl, rfl, tyX1_ok, nmX1, rfl, rfl, tyX1_ok 3 (by decide)⟩
theorem ki_X1 : kini M_X1_init := ⟨tb_in 225 (by decide +kernel) rfl, tb_in 44 (by decide +kernel) rfl, tb_in 224 (by decide +kernel) rfl, ⟨by decide, by decide, by decide +kernel⟩, rfl, rfl⟩
set_option maxHeartbeats 4000000 in
set_option maxRecDepth 100000 in
theorem k_X1 : KT M_X1_init 4 584 1 [.null, .null, .null, .null] (fun cI cZ h0 w => ∃ q1 q2 q3 q4, w = [(h0, .inr (1, [.ref q1, .ref q2, .ref q3, .ref q4])), (q1, .inl (cI, 64, .inl (fun _ => Int32.ofInt 0))), (q2, .inl (cI, 8, .inl (fun _ => Int32.ofInt 0))), (q3, .inl (cI, 256, .inl (fun _ => Int32.ofInt 0))), (q4, .inl (cI, 256, .inl (fun _ => Int32.ofInt 0)))]) := by
  refine KT.of (by decide +kernel) rfl rfl (by decide) (fun cI cZ h0 => ?_)
  refine KP.aload0 (a := h0) dX1_init_0 (by simp) ?_
  refine KP.super ko_X1 dX1_init_1 ⟨by decide, by decide⟩ ?_
  refine KP.aload0 (a := h0) dX1_init_4 (by simp) ?_
  refine KP.bipush dX1_init_5 (by decide) ?_
  refine KP.newI 64 dX1_init_7 (by decide) (by decide) (by decide) (by decide) (by decide) ka_I (fun q1 => ?_)
  refine KP.cw [(h0, .inr (1, [.null, .null, .null, .null])), (q1, .inl (cI, 64, .inl (fun _ => Int32.ofInt 0)))] rfl ?_
  refine KP.putF kg_X1_9 dX1_init_9 rfl rfl rfl (Nat.le_of_ble_eq_true rfl) ?_
  refine KP.cw [(h0, .inr (1, [.ref q1, .null, .null, .null])), (q1, .inl (cI, 64, .inl (fun _ => Int32.ofInt 0)))] rfl ?_
  refine KP.aload0 (a := h0) dX1_init_12 (by simp) ?_
  refine KP.bipush dX1_init_13 (by decide) ?_
  refine KP.newI 8 dX1_init_15 (by decide) (by decide) (by decide) (by decide) (by decide) ka_I (fun q2 => ?_)
  refine KP.cw [(h0, .inr (1, [.ref q1, .null, .null, .null])), (q1, .inl (cI, 64, .inl (fun _ => Int32.ofInt 0))), (q2, .inl (cI, 8, .inl (fun _ => Int32.ofInt 0)))] rfl ?_
  refine KP.putF kg_X1_15 dX1_init_17 rfl rfl rfl (Nat.le_of_ble_eq_true rfl) ?_
  refine KP.cw [(h0, .inr (1, [.ref q1, .ref q2, .null, .null])), (q1, .inl (cI, 64, .inl (fun _ => Int32.ofInt 0))), (q2, .inl (cI, 8, .inl (fun _ => Int32.ofInt 0)))] rfl ?_
  refine KP.aload0 (a := h0) dX1_init_20 (by simp) ?_
  refine KP.sipush dX1_init_21 (by decide) ?_
  refine KP.newI 256 dX1_init_24 (by decide) (by decide) (by decide) (by decide) (by decide) ka_I (fun q3 => ?_)
  refine KP.cw [(h0, .inr (1, [.ref q1, .ref q2, .null, .null])), (q1, .inl (cI, 64, .inl (fun _ => Int32.ofInt 0))), (q2, .inl (cI, 8, .inl (fun _ => Int32.ofInt 0))), (q3, .inl (cI, 256, .inl (fun _ => Int32.ofInt 0)))] rfl ?_
  refine KP.putF kg_X1_18 dX1_init_26 rfl rfl rfl (Nat.le_of_ble_eq_true rfl) ?_
  refine KP.cw [(h0, .inr (1, [.ref q1, .ref q2, .ref q3, .null])), (q1, .inl (cI, 64, .inl (fun _ => Int32.ofInt 0))), (q2, .inl (cI, 8, .inl (fun _ => Int32.ofInt 0))), (q3, .inl (cI, 256, .inl (fun _ => Int32.ofInt 0)))] rfl ?_
  refine KP.aload0 (a := h0) dX1_init_29 (by simp) ?_
  refine KP.sipush dX1_init_30 (by decide) ?_
  refine KP.newI 256 dX1_init_33 (by decide) (by decide) (by decide) (by decide) (by decide) ka_I (fun q4 => ?_)
  refine KP.cw [(h0, .inr (1, [.ref q1, .ref q2, .ref q3, .null])), (q1, .inl (cI, 64, .inl (fun _ => Int32.ofInt 0))), (q2, .inl (cI, 8, .inl (fun _ => Int32.ofInt 0))), (q3, .inl (cI, 256, .inl (fun _ => Int32.ofInt 0))), (q4, .inl (cI, 256, .inl (fun _ => Int32.ofInt 0)))] rfl ?_
  refine KP.putF kg_X1_21 dX1_init_35 rfl rfl rfl (Nat.le_of_ble_eq_true rfl) ?_
  refine KP.cw [(h0, .inr (1, [.ref q1, .ref q2, .ref q3, .ref q4])), (q1, .inl (cI, 64, .inl (fun _ => Int32.ofInt 0))), (q2, .inl (cI, 8, .inl (fun _ => Int32.ofInt 0))), (q3, .inl (cI, 256, .inl (fun _ => Int32.ofInt 0))), (q4, .inl (cI, 256, .inl (fun _ => Int32.ofInt 0)))] rfl ?_
  exact KP.vret dX1_init_38 (by decide) (by decide) [0, 1, 2, 3, 4] [(h0, .inr (1, [.ref q1, .ref q2, .ref q3, .ref q4])), (q1, .inl (cI, 64, .inl (fun _ => Int32.ofInt 0))), (q2, .inl (cI, 8, .inl (fun _ => Int32.ofInt 0))), (q3, .inl (cI, 256, .inl (fun _ => Int32.ofInt 0))), (q4, .inl (cI, 256, .inl (fun _ => Int32.ofInt 0)))] (by decide) rfl ⟨q1, q2, q3, q4, rfl⟩
theorem dX3_init_0 : decode cX3_init 0 = .ok (.aload_n 0, 1) := by decide +kernel
theorem dX3_init_1 : decode cX3_init 1 = .ok (.invokespecial 3, 3) := by decide +kernel
theorem dX3_init_4 : decode cX3_init 4 = .ok (.aload_n 0, 1) := by decide +kernel
theorem dX3_init_5 : decode cX3_init 5 = .ok (.iconst 4, 1) := by decide +kernel
theorem dX3_init_6 : decode cX3_init 6 = .ok (.newarray .boolean, 2) := by decide +kernel
theorem dX3_init_8 : decode cX3_init 8 = .ok (.putfield 9, 3) := by decide +kernel
theorem dX3_init_11 : decode cX3_init 11 = .ok (.aload_n 0, 1) := by decide +kernel
theorem dX3_init_12 : decode cX3_init 12 = .ok (.iconst 4, 1) := by decide +kernel
theorem dX3_init_13 : decode cX3_init 13 = .ok (.newarray .int, 2) := by decide +kernel
theorem dX3_init_15 : decode cX3_init 15 = .ok (.putfield 15, 3) := by decide +kernel
theorem dX3_init_18 : decode cX3_init 18 = .ok (.aload_n 0, 1) := by decide +kernel
theorem dX3_init_19 : decode cX3_init 19 = .ok (.iconst 4, 1) := by decide +kernel
theorem dX3_init_20 : decode cX3_init 20 = .ok (.newarray .int, 2) := by decide +kernel
theorem dX3_init_22 : decode cX3_init 22 = .ok (.putfield 19, 3) := by decide +kernel
theorem dX3_init_25 : decode cX3_init 25 = .ok (.aload_n 0, 1) := by decide +kernel
theorem dX3_init_26 : decode cX3_init 26 = .ok (.bipush 96, 2) := by decide +kernel
theorem dX3_init_28 : decode cX3_init 28 = .ok (.newarray .int, 2) := by decide +kernel
theorem dX3_init_30 : decode cX3_init 30 = .ok (.putfield 22, 3) := by decide +kernel
theorem dX3_init_33 : decode cX3_init 33 = .ok (.return_, 1) := by decide +kernel
abbrev M_X3_init : MI := (yX3_init, cX3_init, 1, none, 1, 12)
theorem ko_X3 : kobj RX3 3 := ⟨tb_in 245 (by decide +kernel) rfl, tb_in 56 (by decide +kernel) rfl, tb_in 57 (by decide +kernel) rfl⟩
theorem kg_X3_9 : kpf RX3 9 3 0 (.array .boolean) := ⟨RX3, TX3, 4, tyX3, rfl, by decide, tbX3, tb_in 246 (by decide +kernel) rfl, rfl, tyX3_ok, nmX3, rfl, rfl, tyX3_ok 0 (by decide)⟩
theorem kg_X3_15 : kpf RX3 15 3 1 (.array .int) := ⟨RX3, TX3, 4, tyX3, rfl, by decide, tbX3, tb_in 248 (by decide +kernel) rfl, rfl, tyX3_ok, nmX3, rfl, rfl, tyX3_ok 1 (by decide)⟩
theorem kg_X3_19 : kpf RX3 19 3 2 (.array .int) := ⟨RX3, TX3, 4, tyX3, rfl, by decide, tbX3, tb_in 250 (by decide +kernel) rfl, rfl, tyX3_ok, nmX3, rfl, rfl, tyX3_ok 2 (by decide)⟩
theorem kg_X3_22 : kpf RX3 22 3 3 (.array .int) := ⟨RX3, TX3, 4, tyX3, rfl, by decide, tbX3, tb_in 252 (by decide +kernel) rfl, rfl, tyX3_ok, nmX3, rfl, rfl, tyX3_ok 3 (by decide)⟩
theorem ki_X3 : kini M_X3_init := ⟨tb_in 244 (by decide +kernel) rfl, tb_in 45 (by decide +kernel) rfl, tb_in 243 (by decide +kernel) rfl, ⟨by decide, by decide, by decide +kernel⟩, rfl, rfl⟩
set_option maxHeartbeats 4000000 in
set_option maxRecDepth 100000 in
theorem k_X3 : KT M_X3_init 4 108 3 [.null, .null, .null, .null] (fun cI cZ h0 w => ∃ q1 q2 q3 q4, w = [(h0, .inr (3, [.ref q1, .ref q2, .ref q3, .ref q4])), (q1, .inl (cZ, 4, .inl (fun _ => Int32.ofInt 0))), (q2, .inl (cI, 4, .inl (fun _ => Int32.ofInt 0))), (q3, .inl (cI, 4, .inl (fun _ => Int32.ofInt 0))), (q4, .inl (cI, 96, .inl (fun _ => Int32.ofInt 0)))]) := by
  refine KT.of (by decide +kernel) rfl rfl (by decide) (fun cI cZ h0 => ?_)
  refine KP.aload0 (a := h0) dX3_init_0 (by simp) ?_
  refine KP.super ko_X3 dX3_init_1 ⟨by decide, by decide⟩ ?_
  refine KP.aload0 (a := h0) dX3_init_4 (by simp) ?_
  refine KP.iconst dX3_init_5 ?_
  refine KP.newZ 4 dX3_init_6 (by decide) (by decide) (by decide) (by decide) (by decide) ka_Z (fun q1 => ?_)
  refine KP.cw [(h0, .inr (3, [.null, .null, .null, .null])), (q1, .inl (cZ, 4, .inl (fun _ => Int32.ofInt 0)))] rfl ?_
  refine KP.putF kg_X3_9 dX3_init_8 rfl rfl rfl (Nat.le_of_ble_eq_true rfl) ?_
  refine KP.cw [(h0, .inr (3, [.ref q1, .null, .null, .null])), (q1, .inl (cZ, 4, .inl (fun _ => Int32.ofInt 0)))] rfl ?_
  refine KP.aload0 (a := h0) dX3_init_11 (by simp) ?_
  refine KP.iconst dX3_init_12 ?_
  refine KP.newI 4 dX3_init_13 (by decide) (by decide) (by decide) (by decide) (by decide) ka_I (fun q2 => ?_)
  refine KP.cw [(h0, .inr (3, [.ref q1, .null, .null, .null])), (q1, .inl (cZ, 4, .inl (fun _ => Int32.ofInt 0))), (q2, .inl (cI, 4, .inl (fun _ => Int32.ofInt 0)))] rfl ?_
  refine KP.putF kg_X3_15 dX3_init_15 rfl rfl rfl (Nat.le_of_ble_eq_true rfl) ?_
  refine KP.cw [(h0, .inr (3, [.ref q1, .ref q2, .null, .null])), (q1, .inl (cZ, 4, .inl (fun _ => Int32.ofInt 0))), (q2, .inl (cI, 4, .inl (fun _ => Int32.ofInt 0)))] rfl ?_
  refine KP.aload0 (a := h0) dX3_init_18 (by simp) ?_
  refine KP.iconst dX3_init_19 ?_
  refine KP.newI 4 dX3_init_20 (by decide) (by decide) (by decide) (by decide) (by decide) ka_I (fun q3 => ?_)
  refine KP.cw [(h0, .inr (3, [.ref q1, .ref q2, .null, .null])), (q1, .inl (cZ, 4, .inl (fun _ => Int32.ofInt 0))), (q2, .inl (cI, 4, .inl (fun _ => Int32.ofInt 0))), (q3, .inl (cI, 4, .inl (fun _ => Int32.ofInt 0)))] rfl ?_
  refine KP.putF kg_X3_19 dX3_init_22 rfl rfl rfl (Nat.le_of_ble_eq_true rfl) ?_
  refine KP.cw [(h0, .inr (3, [.ref q1, .ref q2, .ref q3, .null])), (q1, .inl (cZ, 4, .inl (fun _ => Int32.ofInt 0))), (q2, .inl (cI, 4, .inl (fun _ => Int32.ofInt 0))), (q3, .inl (cI, 4, .inl (fun _ => Int32.ofInt 0)))] rfl ?_
  refine KP.aload0 (a := h0) dX3_init_25 (by simp) ?_
  refine KP.bipush dX3_init_26 (by decide) ?_
  refine KP.newI 96 dX3_init_28 (by decide) (by decide) (by decide) (by decide) (by decide) ka_I (fun q4 => ?_)
  refine KP.cw [(h0, .inr (3, [.ref q1, .ref q2, .ref q3, .null])), (q1, .inl (cZ, 4, .inl (fun _ => Int32.ofInt 0))), (q2, .inl (cI, 4, .inl (fun _ => Int32.ofInt 0))), (q3, .inl (cI, 4, .inl (fun _ => Int32.ofInt 0))), (q4, .inl (cI, 96, .inl (fun _ => Int32.ofInt 0)))] rfl ?_
  refine KP.putF kg_X3_22 dX3_init_30 rfl rfl rfl (Nat.le_of_ble_eq_true rfl) ?_
  refine KP.cw [(h0, .inr (3, [.ref q1, .ref q2, .ref q3, .ref q4])), (q1, .inl (cZ, 4, .inl (fun _ => Int32.ofInt 0))), (q2, .inl (cI, 4, .inl (fun _ => Int32.ofInt 0))), (q3, .inl (cI, 4, .inl (fun _ => Int32.ofInt 0))), (q4, .inl (cI, 96, .inl (fun _ => Int32.ofInt 0)))] rfl ?_
  exact KP.vret dX3_init_33 (by decide) (by decide) [0, 1, 2, 3, 4] [(h0, .inr (3, [.ref q1, .ref q2, .ref q3, .ref q4])), (q1, .inl (cZ, 4, .inl (fun _ => Int32.ofInt 0))), (q2, .inl (cI, 4, .inl (fun _ => Int32.ofInt 0))), (q3, .inl (cI, 4, .inl (fun _ => Int32.ofInt 0))), (q4, .inl (cI, 96, .inl (fun _ => Int32.ofInt 0)))] (by decide) rfl ⟨q1, q2, q3, q4, rfl⟩
theorem dX7_init_0 : decode cX7_init 0 = .ok (.aload_n 0, 1) := by decide +kernel
theorem dX7_init_1 : decode cX7_init 1 = .ok (.invokespecial 3, 3) := by decide +kernel
theorem dX7_init_4 : decode cX7_init 4 = .ok (.aload_n 0, 1) := by decide +kernel
theorem dX7_init_5 : decode cX7_init 5 = .ok (.new 9, 3) := by decide +kernel
theorem dX7_init_8 : decode cX7_init 8 = .ok (.dup, 1) := by decide +kernel
theorem dX7_init_9 : decode cX7_init 9 = .ok (.invokespecial 11, 3) := by decide +kernel
theorem dX7_init_12 : decode cX7_init 12 = .ok (.putfield 12, 3) := by decide +kernel
theorem dX7_init_15 : decode cX7_init 15 = .ok (.aload_n 0, 1) := by decide +kernel
theorem dX7_init_16 : decode cX7_init 16 = .ok (.iconst 4, 1) := by decide +kernel
theorem dX7_init_17 : decode cX7_init 17 = .ok (.newarray .int, 2) := by decide +kernel
theorem dX7_init_19 : decode cX7_init 19 = .ok (.putfield 18, 3) := by decide +kernel
theorem dX7_init_22 : decode cX7_init 22 = .ok (.return_, 1) := by decide +kernel
abbrev M_X7_init : MI := (yX7_init, cX7_init, 1, none, 2, 32)
theorem ko_X7 : kobj RX7 3 := ⟨tb_in 198 (by decide +kernel) rfl, tb_in 56 (by decide +kernel) rfl, tb_in 57 (by decide +kernel) rfl⟩
theorem kc_X7_9 : kcl RX7 9 0 [.int (Int32.ofInt 0), .null, .null, .null, .null] := ⟨RX0, TX0, tyX0, rfl, tbX0, tyX0_ok, tb_in 199 (by decide +kernel) rfl, tb_in 65 (by decide +kernel) rfl, tb_in 39 (by decide +kernel) rfl, by decide⟩
theorem kg_X7_12 : kpf RX7 12 7 0 (.object "CoatPockets$Coats") := ⟨RX7, TX7, 6, tyX7, rfl, by decide, tbX7, tb_in 201 (by decide +kernel) rfl, rfl, tyX7_ok, nmX7, rfl, rfl, tyX7_ok 0 (by decide)⟩
theorem kg_X7_18 : kpf RX7 18 7 1 (.array .int) := ⟨RX7, TX7, 6, tyX7, rfl, by decide, tbX7, tb_in 202 (by decide +kernel) rfl, rfl, tyX7_ok, nmX7, rfl, rfl, tyX7_ok 1 (by decide)⟩
theorem ki_X7 : kini M_X7_init := ⟨tb_in 197 (by decide +kernel) rfl, tb_in 43 (by decide +kernel) rfl, tb_in 196 (by decide +kernel) rfl, ⟨by decide, by decide, by decide +kernel⟩, rfl, rfl⟩
set_option maxHeartbeats 4000000 in
set_option maxRecDepth 100000 in
theorem k_X7 : KT M_X7_init 6 37 7 [.null, .null, .int (Int32.ofInt 0), .int (Int32.ofInt 0), .int (Int32.ofInt 0), .int (Int32.ofInt 0)] (fun cI cZ h0 w => ∃ q1 q2 q3 q4 q5 q6, w = [(h0, .inr (7, [.ref q1, .ref q6, .int (Int32.ofInt 0), .int (Int32.ofInt 0), .int (Int32.ofInt 0), .int (Int32.ofInt 0)])), (q1, .inr (0, [.int (Int32.ofInt 0), .ref q2, .ref q3, .ref q4, .ref q5])), (q2, .inl (cI, 16, .inl (fun _ => Int32.ofInt 0))), (q3, .inl (cI, 4, .inl (fun _ => Int32.ofInt 0))), (q4, .inl (cI, 4, .inl (fun _ => Int32.ofInt 0))), (q5, .inl (cI, 4, .inl (fun _ => Int32.ofInt 0))), (q6, .inl (cI, 4, .inl (fun _ => Int32.ofInt 0)))]) := by
  refine KT.of (by decide +kernel) rfl rfl (by decide) (fun cI cZ h0 => ?_)
  refine KP.aload0 (a := h0) dX7_init_0 (by simp) ?_
  refine KP.super ko_X7 dX7_init_1 ⟨by decide, by decide⟩ ?_
  refine KP.aload0 (a := h0) dX7_init_4 (by simp) ?_
  refine KP.new 0 [.int (Int32.ofInt 0), .null, .null, .null, .null] kc_X7_9 dX7_init_5 (by decide) (by decide) (fun q1 => ?_)
  refine KP.dup dX7_init_8 ?_
  refine KP.init (M := M_X7_init) (mc := 6) (ms := 37) (k := 1) (n := 5) (a := q1) (S := [.ref q1, .ref h0]) (w0 := [(h0, .inr (7, [.null, .null, .int (Int32.ofInt 0), .int (Int32.ofInt 0), .int (Int32.ofInt 0), .int (Int32.ofInt 0)]))]) (host := RX8) M_X0_init 4 28 k_X0 ki_X0 dX7_init_9 (List.mem_of_getElem? (i := 7) rfl) ⟨by decide, by decide⟩ (by simp [Value.category]) (by decide) (by decide) (fun w1 hw1 => ?_)
  obtain ⟨q2, q3, q4, q5, rfl⟩ := hw1
  refine KP.cw [(h0, .inr (7, [.null, .null, .int (Int32.ofInt 0), .int (Int32.ofInt 0), .int (Int32.ofInt 0), .int (Int32.ofInt 0)])), (q1, .inr (0, [.int (Int32.ofInt 0), .ref q2, .ref q3, .ref q4, .ref q5])), (q2, .inl (cI, 16, .inl (fun _ => Int32.ofInt 0))), (q3, .inl (cI, 4, .inl (fun _ => Int32.ofInt 0))), (q4, .inl (cI, 4, .inl (fun _ => Int32.ofInt 0))), (q5, .inl (cI, 4, .inl (fun _ => Int32.ofInt 0)))] rfl ?_
  refine KP.putF kg_X7_12 dX7_init_12 rfl rfl rfl (Nat.le_of_ble_eq_true rfl) ?_
  refine KP.cw [(h0, .inr (7, [.ref q1, .null, .int (Int32.ofInt 0), .int (Int32.ofInt 0), .int (Int32.ofInt 0), .int (Int32.ofInt 0)])), (q1, .inr (0, [.int (Int32.ofInt 0), .ref q2, .ref q3, .ref q4, .ref q5])), (q2, .inl (cI, 16, .inl (fun _ => Int32.ofInt 0))), (q3, .inl (cI, 4, .inl (fun _ => Int32.ofInt 0))), (q4, .inl (cI, 4, .inl (fun _ => Int32.ofInt 0))), (q5, .inl (cI, 4, .inl (fun _ => Int32.ofInt 0)))] rfl ?_
  refine KP.aload0 (a := h0) dX7_init_15 (by simp) ?_
  refine KP.iconst dX7_init_16 ?_
  refine KP.newI 4 dX7_init_17 (by decide) (by decide) (by decide) (by decide) (by decide) ka_I (fun q6 => ?_)
  refine KP.cw [(h0, .inr (7, [.ref q1, .null, .int (Int32.ofInt 0), .int (Int32.ofInt 0), .int (Int32.ofInt 0), .int (Int32.ofInt 0)])), (q1, .inr (0, [.int (Int32.ofInt 0), .ref q2, .ref q3, .ref q4, .ref q5])), (q2, .inl (cI, 16, .inl (fun _ => Int32.ofInt 0))), (q3, .inl (cI, 4, .inl (fun _ => Int32.ofInt 0))), (q4, .inl (cI, 4, .inl (fun _ => Int32.ofInt 0))), (q5, .inl (cI, 4, .inl (fun _ => Int32.ofInt 0))), (q6, .inl (cI, 4, .inl (fun _ => Int32.ofInt 0)))] rfl ?_
  refine KP.putF kg_X7_18 dX7_init_19 rfl rfl rfl (Nat.le_of_ble_eq_true rfl) ?_
  refine KP.cw [(h0, .inr (7, [.ref q1, .ref q6, .int (Int32.ofInt 0), .int (Int32.ofInt 0), .int (Int32.ofInt 0), .int (Int32.ofInt 0)])), (q1, .inr (0, [.int (Int32.ofInt 0), .ref q2, .ref q3, .ref q4, .ref q5])), (q2, .inl (cI, 16, .inl (fun _ => Int32.ofInt 0))), (q3, .inl (cI, 4, .inl (fun _ => Int32.ofInt 0))), (q4, .inl (cI, 4, .inl (fun _ => Int32.ofInt 0))), (q5, .inl (cI, 4, .inl (fun _ => Int32.ofInt 0))), (q6, .inl (cI, 4, .inl (fun _ => Int32.ofInt 0)))] rfl ?_
  exact KP.vret dX7_init_22 (by decide) (by decide) [0, 1, 2, 3, 4, 5, 6] [(h0, .inr (7, [.ref q1, .ref q6, .int (Int32.ofInt 0), .int (Int32.ofInt 0), .int (Int32.ofInt 0), .int (Int32.ofInt 0)])), (q1, .inr (0, [.int (Int32.ofInt 0), .ref q2, .ref q3, .ref q4, .ref q5])), (q2, .inl (cI, 16, .inl (fun _ => Int32.ofInt 0))), (q3, .inl (cI, 4, .inl (fun _ => Int32.ofInt 0))), (q4, .inl (cI, 4, .inl (fun _ => Int32.ofInt 0))), (q5, .inl (cI, 4, .inl (fun _ => Int32.ofInt 0))), (q6, .inl (cI, 4, .inl (fun _ => Int32.ofInt 0)))] (by decide) rfl ⟨q1, q2, q3, q4, q5, q6, rfl⟩
theorem dX4_init_0 : decode cX4_init 0 = .ok (.aload_n 0, 1) := by decide +kernel
theorem dX4_init_1 : decode cX4_init 1 = .ok (.invokespecial 3, 3) := by decide +kernel
theorem dX4_init_4 : decode cX4_init 4 = .ok (.aload_n 0, 1) := by decide +kernel
theorem dX4_init_5 : decode cX4_init 5 = .ok (.new 9, 3) := by decide +kernel
theorem dX4_init_8 : decode cX4_init 8 = .ok (.dup, 1) := by decide +kernel
theorem dX4_init_9 : decode cX4_init 9 = .ok (.invokespecial 11, 3) := by decide +kernel
theorem dX4_init_12 : decode cX4_init 12 = .ok (.putfield 12, 3) := by decide +kernel
theorem dX4_init_15 : decode cX4_init 15 = .ok (.aload_n 0, 1) := by decide +kernel
theorem dX4_init_16 : decode cX4_init 16 = .ok (.new 18, 3) := by decide +kernel
theorem dX4_init_19 : decode cX4_init 19 = .ok (.dup, 1) := by decide +kernel
theorem dX4_init_20 : decode cX4_init 20 = .ok (.invokespecial 20, 3) := by decide +kernel
theorem dX4_init_23 : decode cX4_init 23 = .ok (.putfield 21, 3) := by decide +kernel
theorem dX4_init_26 : decode cX4_init 26 = .ok (.aload_n 0, 1) := by decide +kernel
theorem dX4_init_27 : decode cX4_init 27 = .ok (.bipush 64, 2) := by decide +kernel
theorem dX4_init_29 : decode cX4_init 29 = .ok (.newarray .int, 2) := by decide +kernel
theorem dX4_init_31 : decode cX4_init 31 = .ok (.putfield 25, 3) := by decide +kernel
theorem dX4_init_34 : decode cX4_init 34 = .ok (.aload_n 0, 1) := by decide +kernel
theorem dX4_init_35 : decode cX4_init 35 = .ok (.iconst 1, 1) := by decide +kernel
theorem dX4_init_36 : decode cX4_init 36 = .ok (.putfield 29, 3) := by decide +kernel
theorem dX4_init_39 : decode cX4_init 39 = .ok (.return_, 1) := by decide +kernel
abbrev M_X4_init : MI := (yX4_init, cX4_init, 1, none, 2, 32)
theorem ko_X4 : kobj RX4 3 := ⟨tb_in 63 (by decide +kernel) rfl, tb_in 56 (by decide +kernel) rfl, tb_in 57 (by decide +kernel) rfl⟩
theorem kc_X4_9 : kcl RX4 9 0 [.int (Int32.ofInt 0), .null, .null, .null, .null] := ⟨RX0, TX0, tyX0, rfl, tbX0, tyX0_ok, tb_in 64 (by decide +kernel) rfl, tb_in 65 (by decide +kernel) rfl, tb_in 39 (by decide +kernel) rfl, by decide⟩
theorem kg_X4_12 : kpf RX4 12 4 0 (.object "CoatPockets$Coats") := ⟨RX4, TX4, 5, tyX4, rfl, by decide, tbX4, tb_in 129 (by decide +kernel) rfl, rfl, tyX4_ok, nmX4, rfl, rfl, tyX4_ok 0 (by decide)⟩
theorem kc_X4_18 : kcl RX4 18 6 [.int (Int32.ofInt 0), .null, .null, .null, .null] := ⟨RX6, TX6, tyX6, rfl, tbX6, tyX6_ok, tb_in 97 (by decide +kernel) rfl, tb_in 98 (by decide +kernel) rfl, tb_in 40 (by decide +kernel) rfl, by decide⟩
theorem kg_X4_21 : kpf RX4 21 4 1 (.object "CoatPockets$Things") := ⟨RX4, TX4, 5, tyX4, rfl, by decide, tbX4, tb_in 132 (by decide +kernel) rfl, rfl, tyX4_ok, nmX4, rfl, rfl, tyX4_ok 1 (by decide)⟩
theorem kg_X4_25 : kpf RX4 25 4 2 (.array .int) := ⟨RX4, TX4, 5, tyX4, rfl, by decide, tbX4, tb_in 135 (by decide +kernel) rfl, rfl, tyX4_ok, nmX4, rfl, rfl, tyX4_ok 2 (by decide)⟩
theorem kg_X4_29 : mfp RX4 29 4 4 .int := ⟨RX4, TX4, 5, tyX4, rfl, by decide, tbX4, tb_in 140 (by decide +kernel) rfl, rfl, tyX4_ok, nmX4, rfl, tyX4_ok 4 (by decide)⟩
theorem ki_X4 : kini M_X4_init := ⟨tb_in 62 (by decide +kernel) rfl, tb_in 38 (by decide +kernel) rfl, tb_in 61 (by decide +kernel) rfl, ⟨by decide, by decide, by decide +kernel⟩, rfl, rfl⟩
set_option maxHeartbeats 4000000 in
set_option maxRecDepth 100000 in
theorem k_X4 : KT M_X4_init 11 134 4 [.null, .null, .null, .int (Int32.ofInt 0), .int (Int32.ofInt 0)] (fun cI cZ h0 w => ∃ q1 q2 q3 q4 q5 q6 q7 q8 q9 q10 q11, w = [(h0, .inr (4, [.ref q1, .ref q6, .ref q11, .int (Int32.ofInt 0), .int (Int32.ofInt 1)])), (q1, .inr (0, [.int (Int32.ofInt 0), .ref q2, .ref q3, .ref q4, .ref q5])), (q2, .inl (cI, 16, .inl (fun _ => Int32.ofInt 0))), (q3, .inl (cI, 4, .inl (fun _ => Int32.ofInt 0))), (q4, .inl (cI, 4, .inl (fun _ => Int32.ofInt 0))), (q5, .inl (cI, 4, .inl (fun _ => Int32.ofInt 0))), (q6, .inr (6, [.int (Int32.ofInt 0), .ref q7, .ref q8, .ref q9, .ref q10])), (q7, .inl (cI, 8, .inl (fun _ => Int32.ofInt 0))), (q8, .inl (cI, 8, .inl (fun _ => Int32.ofInt 0))), (q9, .inl (cI, 8, .inl (fun _ => Int32.ofInt 0))), (q10, .inl (cI, 8, .inl (fun _ => Int32.ofInt 0))), (q11, .inl (cI, 64, .inl (fun _ => Int32.ofInt 0)))]) := by
  refine KT.of (by decide +kernel) rfl rfl (by decide) (fun cI cZ h0 => ?_)
  refine KP.aload0 (a := h0) dX4_init_0 (by simp) ?_
  refine KP.super ko_X4 dX4_init_1 ⟨by decide, by decide⟩ ?_
  refine KP.aload0 (a := h0) dX4_init_4 (by simp) ?_
  refine KP.new 0 [.int (Int32.ofInt 0), .null, .null, .null, .null] kc_X4_9 dX4_init_5 (by decide) (by decide) (fun q1 => ?_)
  refine KP.dup dX4_init_8 ?_
  refine KP.init (M := M_X4_init) (mc := 11) (ms := 134) (k := 1) (n := 5) (a := q1) (S := [.ref q1, .ref h0]) (w0 := [(h0, .inr (4, [.null, .null, .null, .int (Int32.ofInt 0), .int (Int32.ofInt 0)]))]) (host := RX8) M_X0_init 4 28 k_X0 ki_X0 dX4_init_9 (List.mem_of_getElem? (i := 1) rfl) ⟨by decide, by decide⟩ (by simp [Value.category]) (by decide) (by decide) (fun w1 hw1 => ?_)
  obtain ⟨q2, q3, q4, q5, rfl⟩ := hw1
  refine KP.cw [(h0, .inr (4, [.null, .null, .null, .int (Int32.ofInt 0), .int (Int32.ofInt 0)])), (q1, .inr (0, [.int (Int32.ofInt 0), .ref q2, .ref q3, .ref q4, .ref q5])), (q2, .inl (cI, 16, .inl (fun _ => Int32.ofInt 0))), (q3, .inl (cI, 4, .inl (fun _ => Int32.ofInt 0))), (q4, .inl (cI, 4, .inl (fun _ => Int32.ofInt 0))), (q5, .inl (cI, 4, .inl (fun _ => Int32.ofInt 0)))] rfl ?_
  refine KP.putF kg_X4_12 dX4_init_12 rfl rfl rfl (Nat.le_of_ble_eq_true rfl) ?_
  refine KP.cw [(h0, .inr (4, [.ref q1, .null, .null, .int (Int32.ofInt 0), .int (Int32.ofInt 0)])), (q1, .inr (0, [.int (Int32.ofInt 0), .ref q2, .ref q3, .ref q4, .ref q5])), (q2, .inl (cI, 16, .inl (fun _ => Int32.ofInt 0))), (q3, .inl (cI, 4, .inl (fun _ => Int32.ofInt 0))), (q4, .inl (cI, 4, .inl (fun _ => Int32.ofInt 0))), (q5, .inl (cI, 4, .inl (fun _ => Int32.ofInt 0)))] rfl ?_
  refine KP.aload0 (a := h0) dX4_init_15 (by simp) ?_
  refine KP.new 6 [.int (Int32.ofInt 0), .null, .null, .null, .null] kc_X4_18 dX4_init_16 (by decide) (by decide) (fun q6 => ?_)
  refine KP.dup dX4_init_19 ?_
  refine KP.init (M := M_X4_init) (mc := 11) (ms := 134) (k := 6) (n := 38) (a := q6) (S := [.ref q6, .ref h0]) (w0 := [(h0, .inr (4, [.ref q1, .null, .null, .int (Int32.ofInt 0), .int (Int32.ofInt 0)])), (q1, .inr (0, [.int (Int32.ofInt 0), .ref q2, .ref q3, .ref q4, .ref q5])), (q2, .inl (cI, 16, .inl (fun _ => Int32.ofInt 0))), (q3, .inl (cI, 4, .inl (fun _ => Int32.ofInt 0))), (q4, .inl (cI, 4, .inl (fun _ => Int32.ofInt 0))), (q5, .inl (cI, 4, .inl (fun _ => Int32.ofInt 0)))]) (host := RX8) M_X6_init 4 32 k_X6 ki_X6 dX4_init_20 (List.mem_of_getElem? (i := 2) rfl) ⟨by decide, by decide⟩ (by simp [Value.category]) (by decide) (by decide) (fun w1 hw1 => ?_)
  obtain ⟨q7, q8, q9, q10, rfl⟩ := hw1
  refine KP.cw [(h0, .inr (4, [.ref q1, .null, .null, .int (Int32.ofInt 0), .int (Int32.ofInt 0)])), (q1, .inr (0, [.int (Int32.ofInt 0), .ref q2, .ref q3, .ref q4, .ref q5])), (q2, .inl (cI, 16, .inl (fun _ => Int32.ofInt 0))), (q3, .inl (cI, 4, .inl (fun _ => Int32.ofInt 0))), (q4, .inl (cI, 4, .inl (fun _ => Int32.ofInt 0))), (q5, .inl (cI, 4, .inl (fun _ => Int32.ofInt 0))), (q6, .inr (6, [.int (Int32.ofInt 0), .ref q7, .ref q8, .ref q9, .ref q10])), (q7, .inl (cI, 8, .inl (fun _ => Int32.ofInt 0))), (q8, .inl (cI, 8, .inl (fun _ => Int32.ofInt 0))), (q9, .inl (cI, 8, .inl (fun _ => Int32.ofInt 0))), (q10, .inl (cI, 8, .inl (fun _ => Int32.ofInt 0)))] rfl ?_
  refine KP.putF kg_X4_21 dX4_init_23 rfl rfl rfl (Nat.le_of_ble_eq_true rfl) ?_
  refine KP.cw [(h0, .inr (4, [.ref q1, .ref q6, .null, .int (Int32.ofInt 0), .int (Int32.ofInt 0)])), (q1, .inr (0, [.int (Int32.ofInt 0), .ref q2, .ref q3, .ref q4, .ref q5])), (q2, .inl (cI, 16, .inl (fun _ => Int32.ofInt 0))), (q3, .inl (cI, 4, .inl (fun _ => Int32.ofInt 0))), (q4, .inl (cI, 4, .inl (fun _ => Int32.ofInt 0))), (q5, .inl (cI, 4, .inl (fun _ => Int32.ofInt 0))), (q6, .inr (6, [.int (Int32.ofInt 0), .ref q7, .ref q8, .ref q9, .ref q10])), (q7, .inl (cI, 8, .inl (fun _ => Int32.ofInt 0))), (q8, .inl (cI, 8, .inl (fun _ => Int32.ofInt 0))), (q9, .inl (cI, 8, .inl (fun _ => Int32.ofInt 0))), (q10, .inl (cI, 8, .inl (fun _ => Int32.ofInt 0)))] rfl ?_
  refine KP.aload0 (a := h0) dX4_init_26 (by simp) ?_
  refine KP.bipush dX4_init_27 (by decide) ?_
  refine KP.newI 64 dX4_init_29 (by decide) (by decide) (by decide) (by decide) (by decide) ka_I (fun q11 => ?_)
  refine KP.cw [(h0, .inr (4, [.ref q1, .ref q6, .null, .int (Int32.ofInt 0), .int (Int32.ofInt 0)])), (q1, .inr (0, [.int (Int32.ofInt 0), .ref q2, .ref q3, .ref q4, .ref q5])), (q2, .inl (cI, 16, .inl (fun _ => Int32.ofInt 0))), (q3, .inl (cI, 4, .inl (fun _ => Int32.ofInt 0))), (q4, .inl (cI, 4, .inl (fun _ => Int32.ofInt 0))), (q5, .inl (cI, 4, .inl (fun _ => Int32.ofInt 0))), (q6, .inr (6, [.int (Int32.ofInt 0), .ref q7, .ref q8, .ref q9, .ref q10])), (q7, .inl (cI, 8, .inl (fun _ => Int32.ofInt 0))), (q8, .inl (cI, 8, .inl (fun _ => Int32.ofInt 0))), (q9, .inl (cI, 8, .inl (fun _ => Int32.ofInt 0))), (q10, .inl (cI, 8, .inl (fun _ => Int32.ofInt 0))), (q11, .inl (cI, 64, .inl (fun _ => Int32.ofInt 0)))] rfl ?_
  refine KP.putF kg_X4_25 dX4_init_31 rfl rfl rfl (Nat.le_of_ble_eq_true rfl) ?_
  refine KP.cw [(h0, .inr (4, [.ref q1, .ref q6, .ref q11, .int (Int32.ofInt 0), .int (Int32.ofInt 0)])), (q1, .inr (0, [.int (Int32.ofInt 0), .ref q2, .ref q3, .ref q4, .ref q5])), (q2, .inl (cI, 16, .inl (fun _ => Int32.ofInt 0))), (q3, .inl (cI, 4, .inl (fun _ => Int32.ofInt 0))), (q4, .inl (cI, 4, .inl (fun _ => Int32.ofInt 0))), (q5, .inl (cI, 4, .inl (fun _ => Int32.ofInt 0))), (q6, .inr (6, [.int (Int32.ofInt 0), .ref q7, .ref q8, .ref q9, .ref q10])), (q7, .inl (cI, 8, .inl (fun _ => Int32.ofInt 0))), (q8, .inl (cI, 8, .inl (fun _ => Int32.ofInt 0))), (q9, .inl (cI, 8, .inl (fun _ => Int32.ofInt 0))), (q10, .inl (cI, 8, .inl (fun _ => Int32.ofInt 0))), (q11, .inl (cI, 64, .inl (fun _ => Int32.ofInt 0)))] rfl ?_
  refine KP.aload0 (a := h0) dX4_init_34 (by simp) ?_
  refine KP.iconst dX4_init_35 ?_
  refine KP.putI kg_X4_29 dX4_init_36 rfl (Nat.le_of_ble_eq_true rfl) ?_
  refine KP.cw [(h0, .inr (4, [.ref q1, .ref q6, .ref q11, .int (Int32.ofInt 0), .int (Int32.ofInt 1)])), (q1, .inr (0, [.int (Int32.ofInt 0), .ref q2, .ref q3, .ref q4, .ref q5])), (q2, .inl (cI, 16, .inl (fun _ => Int32.ofInt 0))), (q3, .inl (cI, 4, .inl (fun _ => Int32.ofInt 0))), (q4, .inl (cI, 4, .inl (fun _ => Int32.ofInt 0))), (q5, .inl (cI, 4, .inl (fun _ => Int32.ofInt 0))), (q6, .inr (6, [.int (Int32.ofInt 0), .ref q7, .ref q8, .ref q9, .ref q10])), (q7, .inl (cI, 8, .inl (fun _ => Int32.ofInt 0))), (q8, .inl (cI, 8, .inl (fun _ => Int32.ofInt 0))), (q9, .inl (cI, 8, .inl (fun _ => Int32.ofInt 0))), (q10, .inl (cI, 8, .inl (fun _ => Int32.ofInt 0))), (q11, .inl (cI, 64, .inl (fun _ => Int32.ofInt 0)))] rfl ?_
  exact KP.vret dX4_init_39 (by decide) (by decide) [0, 1, 2, 3, 4, 5, 6, 7, 8, 9, 10, 11] [(h0, .inr (4, [.ref q1, .ref q6, .ref q11, .int (Int32.ofInt 0), .int (Int32.ofInt 1)])), (q1, .inr (0, [.int (Int32.ofInt 0), .ref q2, .ref q3, .ref q4, .ref q5])), (q2, .inl (cI, 16, .inl (fun _ => Int32.ofInt 0))), (q3, .inl (cI, 4, .inl (fun _ => Int32.ofInt 0))), (q4, .inl (cI, 4, .inl (fun _ => Int32.ofInt 0))), (q5, .inl (cI, 4, .inl (fun _ => Int32.ofInt 0))), (q6, .inr (6, [.int (Int32.ofInt 0), .ref q7, .ref q8, .ref q9, .ref q10])), (q7, .inl (cI, 8, .inl (fun _ => Int32.ofInt 0))), (q8, .inl (cI, 8, .inl (fun _ => Int32.ofInt 0))), (q9, .inl (cI, 8, .inl (fun _ => Int32.ofInt 0))), (q10, .inl (cI, 8, .inl (fun _ => Int32.ofInt 0))), (q11, .inl (cI, 64, .inl (fun _ => Int32.ofInt 0)))] (by decide) rfl ⟨q1, q2, q3, q4, q5, q6, q7, q8, q9, q10, q11, rfl⟩
