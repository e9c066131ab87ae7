theorem mj_ge0 {SH : List Sh} {K : Kx} {Y : Yx} {cs : Nat × Nat} {X : Prop} {pc : Nat} {ls : List (Nat × Value)} {st : List Value} {h : Mm} {cc : ByteArray} {own : String} {mL f lo : Nat} (C : Cx K Y cs cc own mL f lo) {x y : Int32} {off : Int} (tgt : Nat) (hd : decode cc pc = .ok (.if_icmp .ge off, 3)) (ht : (pc : Int) + off = (tgt : Int)) (hc : y ≤ x) (kk : J SH K Y cs X tgt ls st h) : J SH K Y cs X pc ls (.int y :: .int x :: st) h := by
  obtain ⟨p, e, R, s, m, args, below, meth, c, Q, nL⟩ := Y
  obtain ⟨hx, hb, hml, hown, hts, hK, hce, hcs, hfr, hlo, hnl⟩ := C
  intro hX H locs la hP hS hL
  exact lv_icmp_ge hx hb hd ht (fun _ => kk hX H locs la hP hS hL) (fun q => absurd hc q)
theorem mj_ge1 {SH : List Sh} {K : Kx} {Y : Yx} {cs : Nat × Nat} {X : Prop} {pc : Nat} {ls : List (Nat × Value)} {st : List Value} {h : Mm} {cc : ByteArray} {own : String} {mL f lo : Nat} (C : Cx K Y cs cc own mL f lo) {x y : Int32} {off : Int} (tgt : Nat) (hd : decode cc pc = .ok (.if_icmp .ge off, 3)) (ht : (pc : Int) + off = (tgt : Int)) (hc : ¬ y ≤ x) (kk : J SH K Y cs X (pc + 3) ls st h) : J SH K Y cs X pc ls (.int y :: .int x :: st) h := by
  obtain ⟨p, e, R, s, m, args, below, meth, c, Q, nL⟩ := Y
  obtain ⟨hx, hb, hml, hown, hts, hK, hce, hcs, hfr, hlo, hnl⟩ := C
  intro hX H locs la hP hS hL
  exact lv_icmp_ge hx hb hd ht (fun q => absurd q hc) (fun _ => kk hX H locs la hP hS hL)
theorem ob_i : Cond.instanceMethod objectInit ∈ lw_ok := lw_i1 18 rfl rfl
theorem ob_c : Cond.code objectInit ⟨#[0xb1]⟩ 1 none ∈ lw_ok := lw_i1 19 rfl rfl
theorem ar_I : Cond.arrayClass .int ∈ lw_ok := lw_i1 113 rfl rfl
theorem ar_Z : Cond.arrayClass .boolean ∈ lw_ok := lw_i1 206 rfl rfl
theorem df_X0 : ∀ j, j < 3 → defaultValue (tyX0 j) = vp_V [.null, .null, .int 0] j := fun j hj => match j, hj with
  | 0, _ => rfl
  | 1, _ => rfl
  | 2, _ => rfl
  | j + 3, hj => absurd hj (by omega)
theorem ins_X0 : Cond.instantiable RX0 3 ∈ lw_ok := lw_i2 3 rfl rfl
theorem mi_X0 : Cond.instanceMethod yX0_init ∈ lw_ok := lw_i2 5 rfl rfl
theorem df_X1 : ∀ j, j < 17 → defaultValue (tyX1 j) = vp_V [.int 0, .int 0, .int 0, .int 0, .null, .int 0, .null, .null, .null, .int 0, .null, .null, .null, .int 0, .int 0, .null, .null] j := fun j hj => match j, hj with
  | 0, _ => rfl
  | 1, _ => rfl
  | 2, _ => rfl
  | 3, _ => rfl
  | 4, _ => rfl
  | 5, _ => rfl
  | 6, _ => rfl
  | 7, _ => rfl
  | 8, _ => rfl
  | 9, _ => rfl
  | 10, _ => rfl
  | 11, _ => rfl
  | 12, _ => rfl
  | 13, _ => rfl
  | 14, _ => rfl
  | 15, _ => rfl
  | 16, _ => rfl
  | j + 17, hj => absurd hj (by omega)
theorem ins_X1 : Cond.instantiable RX1 17 ∈ lw_ok := lw_i1 27 rfl rfl
theorem mi_X1 : Cond.instanceMethod yX1_init ∈ lw_ok := lw_i1 29 rfl rfl
theorem df_X2 : ∀ j, j < 3 → defaultValue (tyX2 j) = vp_V [.null, .null, .null] j := fun j hj => match j, hj with
  | 0, _ => rfl
  | 1, _ => rfl
  | 2, _ => rfl
  | j + 3, hj => absurd hj (by omega)
theorem ins_X2 : Cond.instantiable RX2 3 ∈ lw_ok := lw_i1 186 rfl rfl
theorem mi_X2 : Cond.instanceMethod yX2_init ∈ lw_ok := lw_i1 188 rfl rfl
theorem df_X3 : ∀ j, j < 3 → defaultValue (tyX3 j) = vp_V [.null, .int 0, .int 0] j := fun j hj => match j, hj with
  | 0, _ => rfl
  | 1, _ => rfl
  | 2, _ => rfl
  | j + 3, hj => absurd hj (by omega)
theorem ins_X3 : Cond.instantiable RX3 3 ∈ lw_ok := lw_i1 166 rfl rfl
theorem mi_X3 : Cond.instanceMethod yX3_init ∈ lw_ok := lw_i1 168 rfl rfl
theorem df_X4 : ∀ j, j < 5 → defaultValue (tyX4 j) = vp_V [.null, .int 0, .int 0, .int 0, .int 0] j := fun j hj => match j, hj with
  | 0, _ => rfl
  | 1, _ => rfl
  | 2, _ => rfl
  | 3, _ => rfl
  | 4, _ => rfl
  | j + 5, hj => absurd hj (by omega)
theorem ins_X4 : Cond.instantiable RX4 5 ∈ lw_ok := lw_i1 140 rfl rfl
theorem mi_X4 : Cond.instanceMethod yX4_init ∈ lw_ok := lw_i1 142 rfl rfl
theorem df_X5 : ∀ j, j < 8 → defaultValue (tyX5 j) = vp_V [.null, .null, .null, .null, .int 0, .int 0, .int 0, .int 0] j := fun j hj => match j, hj with
  | 0, _ => rfl
  | 1, _ => rfl
  | 2, _ => rfl
  | 3, _ => rfl
  | 4, _ => rfl
  | 5, _ => rfl
  | 6, _ => rfl
  | 7, _ => rfl
  | j + 8, hj => absurd hj (by omega)
theorem ins_X5 : Cond.instantiable RX5 8 ∈ lw_ok := lw_i1 208 rfl rfl
theorem mi_X5 : Cond.instanceMethod yX5_init ∈ lw_ok := lw_i1 210 rfl rfl
theorem df_X6 : ∀ j, j < 7 → defaultValue (tyX6 j) = vp_V [.null, .int 0, .int 0, .int 0, .int 0, .int 0, .null] j := fun j hj => match j, hj with
  | 0, _ => rfl
  | 1, _ => rfl
  | 2, _ => rfl
  | 3, _ => rfl
  | 4, _ => rfl
  | 5, _ => rfl
  | 6, _ => rfl
  | j + 7, hj => absurd hj (by omega)
theorem ins_X6 : Cond.instantiable RX6 7 ∈ lw_ok := lw_i1 21 rfl rfl
theorem mi_X6 : Cond.instanceMethod yX6_init ∈ lw_ok := lw_i1 23 rfl rfl
theorem df_X7 : ∀ j, j < 9 → defaultValue (tyX7 j) = vp_V [.null, .null, .null, .null, .null, .null, .null, .null, .int 0] j := fun j hj => match j, hj with
  | 0, _ => rfl
  | 1, _ => rfl
  | 2, _ => rfl
  | 3, _ => rfl
  | 4, _ => rfl
  | 5, _ => rfl
  | 6, _ => rfl
  | 7, _ => rfl
  | 8, _ => rfl
  | j + 9, hj => absurd hj (by omega)
theorem ins_X7 : Cond.instantiable RX7 9 ∈ lw_ok := lw_i1 13 rfl rfl
theorem mi_X7 : Cond.instanceMethod yX7_init ∈ lw_ok := lw_i1 15 rfl rfl
theorem df_X8 : ∀ j, j < 48 → defaultValue (tyX8 j) = vp_V [.int 0, .int 0, .int 0, .null, .int 0, .null, .null, .null, .int 0, .null, .null, .null, .int 0, .null, .int 0, .null, .int 0, .int 0, .int 0, .int 0, .int 0, .null, .int 0, .null, .int 0, .null, .null, .null, .int 0, .null, .null, .null, .int 0, .int 0, .null, .int 0, .null, .null, .int 0, .null, .null, .null, .null, .int 0, .null, .null, .null, .null] j := fun j hj => match j, hj with
  | 0, _ => rfl
  | 1, _ => rfl
  | 2, _ => rfl
  | 3, _ => rfl
  | 4, _ => rfl
  | 5, _ => rfl
  | 6, _ => rfl
  | 7, _ => rfl
  | 8, _ => rfl
  | 9, _ => rfl
  | 10, _ => rfl
  | 11, _ => rfl
  | 12, _ => rfl
  | 13, _ => rfl
  | 14, _ => rfl
  | 15, _ => rfl
  | 16, _ => rfl
  | 17, _ => rfl
  | 18, _ => rfl
  | 19, _ => rfl
  | 20, _ => rfl
  | 21, _ => rfl
  | 22, _ => rfl
  | 23, _ => rfl
  | 24, _ => rfl
  | 25, _ => rfl
  | 26, _ => rfl
  | 27, _ => rfl
  | 28, _ => rfl
  | 29, _ => rfl
  | 30, _ => rfl
  | 31, _ => rfl
  | 32, _ => rfl
  | 33, _ => rfl
  | 34, _ => rfl
  | 35, _ => rfl
  | 36, _ => rfl
  | 37, _ => rfl
  | 38, _ => rfl
  | 39, _ => rfl
  | 40, _ => rfl
  | 41, _ => rfl
  | 42, _ => rfl
  | 43, _ => rfl
  | 44, _ => rfl
  | 45, _ => rfl
  | 46, _ => rfl
  | 47, _ => rfl
  | j + 48, hj => absurd hj (by omega)
theorem ins_X8 : Cond.instantiable RX8 48 ∈ lw_ok := lw_i3 216 rfl rfl
theorem mi_X8 : Cond.instanceMethod yX8_init ∈ lw_ok := lw_i3 218 rfl rfl
theorem cl_L_7 : Cond.classLink RL 7 RX7 ∈ lw_ok := lw_i1 12 rfl rfl
theorem il_L_9 : Cond.methodLink RL 9 yX7_init ∈ lw_ok := lw_i1 14 rfl rfl
theorem ol_X7_1 : Cond.methodLink RX7 1 objectInit ∈ lw_ok := lw_i1 17 rfl rfl
theorem cl_X7_7 : Cond.classLink RX7 7 RX6 ∈ lw_ok := lw_i1 20 rfl rfl
theorem ol_X6_3 : Cond.methodLink RX6 3 objectInit ∈ lw_ok := lw_i1 25 rfl rfl
theorem cl_X6_19 : Cond.classLink RX6 19 RX1 ∈ lw_ok := lw_i1 26 rfl rfl
theorem ol_X1_3 : Cond.methodLink RX1 3 objectInit ∈ lw_ok := lw_i1 31 rfl rfl
theorem cl_X7_16 : Cond.classLink RX7 16 RX4 ∈ lw_ok := lw_i1 139 rfl rfl
theorem ol_X4_3 : Cond.methodLink RX4 3 objectInit ∈ lw_ok := lw_i1 144 rfl rfl
theorem cl_X7_23 : Cond.classLink RX7 23 RX3 ∈ lw_ok := lw_i1 165 rfl rfl
theorem il_X7_25 : Cond.methodLink RX7 25 yX3_init ∈ lw_ok := lw_i1 167 rfl rfl
theorem ol_X3_3 : Cond.methodLink RX3 3 objectInit ∈ lw_ok := lw_i1 170 rfl rfl
theorem cl_X3_9 : Cond.classLink RX3 9 RX4 ∈ lw_ok := lw_i1 171 rfl rfl
theorem cl_X7_30 : Cond.classLink RX7 30 RX2 ∈ lw_ok := lw_i1 185 rfl rfl
theorem il_X7_32 : Cond.methodLink RX7 32 yX2_init ∈ lw_ok := lw_i1 187 rfl rfl
theorem ol_X2_3 : Cond.methodLink RX2 3 objectInit ∈ lw_ok := lw_i1 190 rfl rfl
theorem cl_X2_9 : Cond.classLink RX2 9 RX4 ∈ lw_ok := lw_i1 191 rfl rfl
theorem cl_X7_37 : Cond.classLink RX7 37 RX5 ∈ lw_ok := lw_i1 207 rfl rfl
theorem ol_X5_3 : Cond.methodLink RX5 3 objectInit ∈ lw_ok := lw_i1 212 rfl rfl
theorem cl_X7_44 : Cond.classLink RX7 44 RX0 ∈ lw_ok := lw_i2 2 rfl rfl
theorem ol_X0_3 : Cond.methodLink RX0 3 objectInit ∈ lw_ok := lw_i2 7 rfl rfl
theorem cl_X7_55 : Cond.classLink RX7 55 RX1 ∈ lw_ok := lw_i2 19 rfl rfl
theorem cl_L_10 : Cond.classLink RL 10 RX8 ∈ lw_ok := lw_i3 215 rfl rfl
theorem il_L_12 : Cond.methodLink RL 12 yX8_init ∈ lw_ok := lw_i3 217 rfl rfl
theorem ol_X8_1 : Cond.methodLink RX8 1 objectInit ∈ lw_ok := lw_i3 220 rfl rfl
theorem fn_X0_9 : FFn RX0 9 0 0 (.array .int) := ⟨_, _, _, tyX0, rfl, by decide, okX0, fl_X0_9, tyX0_ok, nmX0, rfl, rfl, by decide +kernel⟩
theorem fn_X0_15 : FFn RX0 15 0 1 (.array .int) := ⟨_, _, _, tyX0, rfl, by decide, okX0, fl_X0_15, tyX0_ok, nmX0, rfl, rfl, by decide +kernel⟩
theorem fn_X1_9 : FFn RX1 9 1 4 (.array .int) := ⟨_, _, _, tyX1, rfl, by decide, okX1, fl_X1_9, tyX1_ok, nmX1, rfl, rfl, by decide +kernel⟩
theorem fn_X1_15 : FFn RX1 15 1 6 (.array .int) := ⟨_, _, _, tyX1, rfl, by decide, okX1, fl_X1_15, tyX1_ok, nmX1, rfl, rfl, by decide +kernel⟩
theorem fn_X1_18 : FFn RX1 18 1 7 (.array .int) := ⟨_, _, _, tyX1, rfl, by decide, okX1, fl_X1_18, tyX1_ok, nmX1, rfl, rfl, by decide +kernel⟩
theorem fn_X1_21 : FFn RX1 21 1 8 (.array .int) := ⟨_, _, _, tyX1, rfl, by decide, okX1, fl_X1_21, tyX1_ok, nmX1, rfl, rfl, by decide +kernel⟩
theorem fn_X1_24 : FFn RX1 24 1 10 (.array .int) := ⟨_, _, _, tyX1, rfl, by decide, okX1, fl_X1_24, tyX1_ok, nmX1, rfl, rfl, by decide +kernel⟩
theorem fn_X1_27 : FFn RX1 27 1 11 (.array .int) := ⟨_, _, _, tyX1, rfl, by decide, okX1, fl_X1_27, tyX1_ok, nmX1, rfl, rfl, by decide +kernel⟩
theorem fn_X1_30 : FFn RX1 30 1 12 (.array .int) := ⟨_, _, _, tyX1, rfl, by decide, okX1, fl_X1_30, tyX1_ok, nmX1, rfl, rfl, by decide +kernel⟩
theorem fn_X1_33 : FFn RX1 33 1 15 (.array .int) := ⟨_, _, _, tyX1, rfl, by decide, okX1, fl_X1_33, tyX1_ok, nmX1, rfl, rfl, by decide +kernel⟩
theorem fn_X1_36 : FFn RX1 36 1 16 (.array .int) := ⟨_, _, _, tyX1, rfl, by decide, okX1, fl_X1_36, tyX1_ok, nmX1, rfl, rfl, by decide +kernel⟩
theorem fn_X2_11 : FFn RX2 11 2 0 (.array (.object "MindDuty$Post")) := ⟨_, _, _, tyX2, rfl, by decide, okX2, fl_X2_11, tyX2_ok, nmX2, rfl, rfl, by decide +kernel⟩
theorem fn_X2_17 : FFn RX2 17 2 1 (.array .int) := ⟨_, _, _, tyX2, rfl, by decide, okX2, fl_X2_17, tyX2_ok, nmX2, rfl, rfl, by decide +kernel⟩
theorem fn_X2_21 : FFn RX2 21 2 2 (.array .boolean) := ⟨_, _, _, tyX2, rfl, by decide, okX2, fl_X2_21, tyX2_ok, nmX2, rfl, rfl, by decide +kernel⟩
theorem fn_X3_11 : FFn RX3 11 3 0 (.array (.object "MindDuty$Post")) := ⟨_, _, _, tyX3, rfl, by decide, okX3, fl_X3_11, tyX3_ok, nmX3, rfl, rfl, by decide +kernel⟩
theorem fn_X4_9 : FFn RX4 9 4 0 (.array .int) := ⟨_, _, _, tyX4, rfl, by decide, okX4, fl_X4_9, tyX4_ok, nmX4, rfl, rfl, by decide +kernel⟩
theorem fn_X5_9 : FFn RX5 9 5 0 (.array .int) := ⟨_, _, _, tyX5, rfl, by decide, okX5, fl_X5_9, tyX5_ok, nmX5, rfl, rfl, by decide +kernel⟩
theorem fn_X5_15 : FFn RX5 15 5 1 (.array .int) := ⟨_, _, _, tyX5, rfl, by decide, okX5, fl_X5_15, tyX5_ok, nmX5, rfl, rfl, by decide +kernel⟩
theorem fn_X5_18 : FFn RX5 18 5 2 (.array .boolean) := ⟨_, _, _, tyX5, rfl, by decide, okX5, fl_X5_18, tyX5_ok, nmX5, rfl, rfl, by decide +kernel⟩
theorem fn_X5_22 : FFn RX5 22 5 3 (.array .int) := ⟨_, _, _, tyX5, rfl, by decide, okX5, fl_X5_22, tyX5_ok, nmX5, rfl, rfl, by decide +kernel⟩
theorem fn_X6_9 : FFn RX6 9 6 0 (.array .int) := ⟨_, _, _, tyX6, rfl, by decide, okX6, fl_X6_9, tyX6_ok, nmX6, rfl, rfl, by decide +kernel⟩
theorem fn_X7_10 : FFn RX7 10 7 0 (.object "MindDuty$Reader") := ⟨_, _, _, tyX7, rfl, by decide, okX7, fl_X7_10, tyX7_ok, nmX7, rfl, rfl, by decide +kernel⟩
theorem fn_X7_19 : FFn RX7 19 7 1 (.object "MindDuty$Post") := ⟨_, _, _, tyX7, rfl, by decide, okX7, fl_X7_19, tyX7_ok, nmX7, rfl, rfl, by decide +kernel⟩
theorem fn_X7_26 : FFn RX7 26 7 2 (.object "MindDuty$Past") := ⟨_, _, _, tyX7, rfl, by decide, okX7, fl_X7_26, tyX7_ok, nmX7, rfl, rfl, by decide +kernel⟩
theorem fn_X7_33 : FFn RX7 33 7 3 (.object "MindDuty$Images") := ⟨_, _, _, tyX7, rfl, by decide, okX7, fl_X7_33, tyX7_ok, nmX7, rfl, rfl, by decide +kernel⟩
theorem fn_X7_40 : FFn RX7 40 7 4 (.object "MindDuty$Questions") := ⟨_, _, _, tyX7, rfl, by decide, okX7, fl_X7_40, tyX7_ok, nmX7, rfl, rfl, by decide +kernel⟩
theorem fn_X7_47 : FFn RX7 47 7 5 (.object "MindDuty$Book") := ⟨_, _, _, tyX7, rfl, by decide, okX7, fl_X7_47, tyX7_ok, nmX7, rfl, rfl, by decide +kernel⟩
theorem fn_X7_51 : FFn RX7 51 7 6 (.array .int) := ⟨_, _, _, tyX7, rfl, by decide, okX7, fl_X7_51, tyX7_ok, nmX7, rfl, rfl, by decide +kernel⟩
theorem fn_X8_7 : FFn RX8 7 8 3 (.array .int) := ⟨_, _, _, tyX8, rfl, by decide, okX8, fl_X8_7, tyX8_ok, nmX8, rfl, rfl, by decide +kernel⟩
theorem fn_X8_13 : FFn RX8 13 8 5 (.array .int) := ⟨_, _, _, tyX8, rfl, by decide, okX8, fl_X8_13, tyX8_ok, nmX8, rfl, rfl, by decide +kernel⟩
theorem fn_X8_16 : FFn RX8 16 8 6 (.array .int) := ⟨_, _, _, tyX8, rfl, by decide, okX8, fl_X8_16, tyX8_ok, nmX8, rfl, rfl, by decide +kernel⟩
theorem fn_X8_19 : FFn RX8 19 8 7 (.array .int) := ⟨_, _, _, tyX8, rfl, by decide, okX8, fl_X8_19, tyX8_ok, nmX8, rfl, rfl, by decide +kernel⟩
theorem fn_X8_22 : FFn RX8 22 8 9 (.array .int) := ⟨_, _, _, tyX8, rfl, by decide, okX8, fl_X8_22, tyX8_ok, nmX8, rfl, rfl, by decide +kernel⟩
theorem fn_X8_25 : FFn RX8 25 8 10 (.array .int) := ⟨_, _, _, tyX8, rfl, by decide, okX8, fl_X8_25, tyX8_ok, nmX8, rfl, rfl, by decide +kernel⟩
theorem fn_X8_28 : FFn RX8 28 8 11 (.array .int) := ⟨_, _, _, tyX8, rfl, by decide, okX8, fl_X8_28, tyX8_ok, nmX8, rfl, rfl, by decide +kernel⟩
theorem fn_X8_31 : FFn RX8 31 8 13 (.array .int) := ⟨_, _, _, tyX8, rfl, by decide, okX8, fl_X8_31, tyX8_ok, nmX8, rfl, rfl, by decide +kernel⟩
theorem fn_X8_34 : FFn RX8 34 8 15 (.array .int) := ⟨_, _, _, tyX8, rfl, by decide, okX8, fl_X8_34, tyX8_ok, nmX8, rfl, rfl, by decide +kernel⟩
theorem fn_X8_41 : FFn RX8 41 8 21 (.array .int) := ⟨_, _, _, tyX8, rfl, by decide, okX8, fl_X8_41, tyX8_ok, nmX8, rfl, rfl, by decide +kernel⟩
theorem fn_X8_44 : FFn RX8 44 8 23 (.array .int) := ⟨_, _, _, tyX8, rfl, by decide, okX8, fl_X8_44, tyX8_ok, nmX8, rfl, rfl, by decide +kernel⟩
theorem fn_X8_47 : FFn RX8 47 8 25 (.array .int) := ⟨_, _, _, tyX8, rfl, by decide, okX8, fl_X8_47, tyX8_ok, nmX8, rfl, rfl, by decide +kernel⟩
theorem fn_X8_50 : FFn RX8 50 8 26 (.array .int) := ⟨_, _, _, tyX8, rfl, by decide, okX8, fl_X8_50, tyX8_ok, nmX8, rfl, rfl, by decide +kernel⟩
theorem fn_X8_53 : FFn RX8 53 8 27 (.array .int) := ⟨_, _, _, tyX8, rfl, by decide, okX8, fl_X8_53, tyX8_ok, nmX8, rfl, rfl, by decide +kernel⟩
theorem fn_X8_56 : FFn RX8 56 8 29 (.array .int) := ⟨_, _, _, tyX8, rfl, by decide, okX8, fl_X8_56, tyX8_ok, nmX8, rfl, rfl, by decide +kernel⟩
theorem fn_X8_59 : FFn RX8 59 8 30 (.array .int) := ⟨_, _, _, tyX8, rfl, by decide, okX8, fl_X8_59, tyX8_ok, nmX8, rfl, rfl, by decide +kernel⟩
theorem fn_X8_62 : FFn RX8 62 8 31 (.array .int) := ⟨_, _, _, tyX8, rfl, by decide, okX8, fl_X8_62, tyX8_ok, nmX8, rfl, rfl, by decide +kernel⟩
theorem fn_X8_65 : FFn RX8 65 8 34 (.array .int) := ⟨_, _, _, tyX8, rfl, by decide, okX8, fl_X8_65, tyX8_ok, nmX8, rfl, rfl, by decide +kernel⟩
theorem fn_X8_68 : FFn RX8 68 8 36 (.array .int) := ⟨_, _, _, tyX8, rfl, by decide, okX8, fl_X8_68, tyX8_ok, nmX8, rfl, rfl, by decide +kernel⟩
theorem fn_X8_71 : FFn RX8 71 8 37 (.array .int) := ⟨_, _, _, tyX8, rfl, by decide, okX8, fl_X8_71, tyX8_ok, nmX8, rfl, rfl, by decide +kernel⟩
theorem fn_X8_74 : FFn RX8 74 8 39 (.array .int) := ⟨_, _, _, tyX8, rfl, by decide, okX8, fl_X8_74, tyX8_ok, nmX8, rfl, rfl, by decide +kernel⟩
theorem fn_X8_77 : FFn RX8 77 8 40 (.array .int) := ⟨_, _, _, tyX8, rfl, by decide, okX8, fl_X8_77, tyX8_ok, nmX8, rfl, rfl, by decide +kernel⟩
theorem fn_X8_80 : FFn RX8 80 8 41 (.array .boolean) := ⟨_, _, _, tyX8, rfl, by decide, okX8, fl_X8_80, tyX8_ok, nmX8, rfl, rfl, by decide +kernel⟩
theorem fn_X8_84 : FFn RX8 84 8 42 (.array .int) := ⟨_, _, _, tyX8, rfl, by decide, okX8, fl_X8_84, tyX8_ok, nmX8, rfl, rfl, by decide +kernel⟩
theorem fn_X8_87 : FFn RX8 87 8 44 (.array .int) := ⟨_, _, _, tyX8, rfl, by decide, okX8, fl_X8_87, tyX8_ok, nmX8, rfl, rfl, by decide +kernel⟩
theorem fn_X8_90 : FFn RX8 90 8 45 (.array .int) := ⟨_, _, _, tyX8, rfl, by decide, okX8, fl_X8_90, tyX8_ok, nmX8, rfl, rfl, by decide +kernel⟩
theorem fn_X8_93 : FFn RX8 93 8 46 (.array .int) := ⟨_, _, _, tyX8, rfl, by decide, okX8, fl_X8_93, tyX8_ok, nmX8, rfl, rfl, by decide +kernel⟩
theorem fn_X8_96 : FFn RX8 96 8 47 (.array .boolean) := ⟨_, _, _, tyX8, rfl, by decide, okX8, fl_X8_96, tyX8_ok, nmX8, rfl, rfl, by decide +kernel⟩
set_option maxRecDepth 100000 in
set_option maxHeartbeats 4000000 in
theorem cn_X4 (K : Kx) (pre : List Sh) (n : Nat) (hn : pre.length = n) (h : Mm) (hz : ∀ k, n ≤ k → h k = fun _ => 0) : Mn K yX4_init cX4_init 1 1 12 1 5 (pre ++ [.inl (4, [(3, 0), (0, 0), (0, 0), (0, 0), (0, 0)])]) (n + 0) h (pre ++ [.inl (4, [(1, n + 1), (0, 0), (0, 0), (0, 0), (0, 0)]), .inr (0, 5, 0, 0)]) h := by
  refine Mn.of (by decide) rfl (by decide) (fun Y C N I E => ?_)
  have C : Cx K Y (0, 0) cX4_init RX4 1 1 12 := C
  refine mj_aload_n C 0 dX4_init_0 (i := 0) rfl rfl ?_
  refine mj_obj C ol_X4_3 ob_i ob_c (by decide) (Nat.le_of_ble_eq_true rfl) dX4_init_1 ?_
  refine mj_aload_n C 0 dX4_init_4 (i := 0) rfl rfl ?_
  refine mj_iconst C (v := 5) dX4_init_5 rfl ?_
  refine mj_newI (SH' := pre ++ [.inl (4, [(3, 0), (0, 0), (0, 0), (0, 0), (0, 0)]), .inr (0, 5, 0, 0)]) C N 5 (n + 1) (ap_len hn rfl) (ap_app rfl) (hz _ (by omega)) (by decide) (by decide) (by decide) ar_I (by decide) (by decide) dX4_init_6 (1, 5) rfl (fun C N => ?_)
  refine mj_putF (SH' := pre ++ [.inl (4, [(1, n + 1), (0, 0), (0, 0), (0, 0), (0, 0)]), .inr (0, 5, 0, 0)]) C N I fn_X4_9 dX4_init_8 (ap_get hn rfl) (Nat.le_of_ble_eq_true rfl) rfl (ap_set hn rfl) (fun _ => rfl) (fun _ => rfl) (fun N => ?_)
  exact mj_rN C N E dX4_init_11
set_option maxRecDepth 100000 in
set_option maxHeartbeats 4000000 in
theorem cn_X1 (K : Kx) (pre : List Sh) (n : Nat) (hn : pre.length = n) (h : Mm) (hz : ∀ k, n ≤ k → h k = fun _ => 0) : Mn K yX1_init cX1_init 1 1 12 9 329 (pre ++ [.inl (1, [(0, 0), (0, 0), (0, 0), (0, 0), (3, 0), (0, 0), (3, 0), (3, 0), (3, 0), (0, 0), (3, 0), (3, 0), (3, 0), (0, 0), (0, 0), (3, 0), (3, 0)])]) (n + 0) h (pre ++ [.inl (1, [(0, 0), (0, 0), (0, 0), (0, 0), (1, n + 1), (0, 0), (1, n + 2), (1, n + 3), (1, n + 4), (0, 0), (1, n + 5), (1, n + 6), (1, n + 7), (0, 0), (0, 0), (1, n + 8), (1, n + 9)]), .inr (0, 8, 0, 0), .inr (0, 10, 0, 0), .inr (0, 10, 0, 0), .inr (0, 10, 0, 0), .inr (0, 10, 0, 0), .inr (0, 10, 0, 0), .inr (0, 10, 0, 0), .inr (0, 5, 0, 0), .inr (0, 256, 0, 0)]) h := by
  refine Mn.of (by decide) rfl (by decide) (fun Y C N I E => ?_)
  have C : Cx K Y (0, 0) cX1_init RX1 1 1 12 := C
  refine mj_aload_n C 0 dX1_init_0 (i := 0) rfl rfl ?_
  refine mj_obj C ol_X1_3 ob_i ob_c (by decide) (Nat.le_of_ble_eq_true rfl) dX1_init_1 ?_
  refine mj_aload_n C 0 dX1_init_4 (i := 0) rfl rfl ?_
  refine mj_bipush C (v := 8) dX1_init_5 rfl ?_
  refine mj_newI (SH' := pre ++ [.inl (1, [(0, 0), (0, 0), (0, 0), (0, 0), (3, 0), (0, 0), (3, 0), (3, 0), (3, 0), (0, 0), (3, 0), (3, 0), (3, 0), (0, 0), (0, 0), (3, 0), (3, 0)]), .inr (0, 8, 0, 0)]) C N 8 (n + 1) (ap_len hn rfl) (ap_app rfl) (hz _ (by omega)) (by decide) (by decide) (by decide) ar_I (by decide) (by decide) dX1_init_7 (1, 8) rfl (fun C N => ?_)
  refine mj_putF (SH' := pre ++ [.inl (1, [(0, 0), (0, 0), (0, 0), (0, 0), (1, n + 1), (0, 0), (3, 0), (3, 0), (3, 0), (0, 0), (3, 0), (3, 0), (3, 0), (0, 0), (0, 0), (3, 0), (3, 0)]), .inr (0, 8, 0, 0)]) C N I fn_X1_9 dX1_init_9 (ap_get hn rfl) (Nat.le_of_ble_eq_true rfl) rfl (ap_set hn rfl) (fun _ => rfl) (fun _ => rfl) (fun N => ?_)
  refine mj_aload_n C 0 dX1_init_12 (i := 0) rfl rfl ?_
  refine mj_bipush C (v := 10) dX1_init_13 rfl ?_
  refine mj_newI (SH' := pre ++ [.inl (1, [(0, 0), (0, 0), (0, 0), (0, 0), (1, n + 1), (0, 0), (3, 0), (3, 0), (3, 0), (0, 0), (3, 0), (3, 0), (3, 0), (0, 0), (0, 0), (3, 0), (3, 0)]), .inr (0, 8, 0, 0), .inr (0, 10, 0, 0)]) C N 10 (n + 2) (ap_len hn rfl) (ap_app rfl) (hz _ (by omega)) (by decide) (by decide) (by decide) ar_I (by decide) (by decide) dX1_init_15 (2, 18) rfl (fun C N => ?_)
  refine mj_putF (SH' := pre ++ [.inl (1, [(0, 0), (0, 0), (0, 0), (0, 0), (1, n + 1), (0, 0), (1, n + 2), (3, 0), (3, 0), (0, 0), (3, 0), (3, 0), (3, 0), (0, 0), (0, 0), (3, 0), (3, 0)]), .inr (0, 8, 0, 0), .inr (0, 10, 0, 0)]) C N I fn_X1_15 dX1_init_17 (ap_get hn rfl) (Nat.le_of_ble_eq_true rfl) rfl (ap_set hn rfl) (fun _ => rfl) (fun _ => rfl) (fun N => ?_)
  refine mj_aload_n C 0 dX1_init_20 (i := 0) rfl rfl ?_
  refine mj_bipush C (v := 10) dX1_init_21 rfl ?_
  refine mj_newI (SH' := pre ++ [.inl (1, [(0, 0), (0, 0), (0, 0), (0, 0), (1, n + 1), (0, 0), (1, n + 2), (3, 0), (3, 0), (0, 0), (3, 0), (3, 0), (3, 0), (0, 0), (0, 0), (3, 0), (3, 0)]), .inr (0, 8, 0, 0), .inr (0, 10, 0, 0), .inr (0, 10, 0, 0)]) C N 10 (n + 3) (ap_len hn rfl) (ap_app rfl) (hz _ (by omega)) (by decide) (by decide) (by decide) ar_I (by decide) (by decide) dX1_init_23 (3, 28) rfl (fun C N => ?_)
  refine mj_putF (SH' := pre ++ [.inl (1, [(0, 0), (0, 0), (0, 0), (0, 0), (1, n + 1), (0, 0), (1, n + 2), (1, n + 3), (3, 0), (0, 0), (3, 0), (3, 0), (3, 0), (0, 0), (0, 0), (3, 0), (3, 0)]), .inr (0, 8, 0, 0), .inr (0, 10, 0, 0), .inr (0, 10, 0, 0)]) C N I fn_X1_18 dX1_init_25 (ap_get hn rfl) (Nat.le_of_ble_eq_true rfl) rfl (ap_set hn rfl) (fun _ => rfl) (fun _ => rfl) (fun N => ?_)
  refine mj_aload_n C 0 dX1_init_28 (i := 0) rfl rfl ?_
  refine mj_bipush C (v := 10) dX1_init_29 rfl ?_
  refine mj_newI (SH' := pre ++ [.inl (1, [(0, 0), (0, 0), (0, 0), (0, 0), (1, n + 1), (0, 0), (1, n + 2), (1, n + 3), (3, 0), (0, 0), (3, 0), (3, 0), (3, 0), (0, 0), (0, 0), (3, 0), (3, 0)]), .inr (0, 8, 0, 0), .inr (0, 10, 0, 0), .inr (0, 10, 0, 0), .inr (0, 10, 0, 0)]) C N 10 (n + 4) (ap_len hn rfl) (ap_app rfl) (hz _ (by omega)) (by decide) (by decide) (by decide) ar_I (by decide) (by decide) dX1_init_31 (4, 38) rfl (fun C N => ?_)
  refine mj_putF (SH' := pre ++ [.inl (1, [(0, 0), (0, 0), (0, 0), (0, 0), (1, n + 1), (0, 0), (1, n + 2), (1, n + 3), (1, n + 4), (0, 0), (3, 0), (3, 0), (3, 0), (0, 0), (0, 0), (3, 0), (3, 0)]), .inr (0, 8, 0, 0), .inr (0, 10, 0, 0), .inr (0, 10, 0, 0), .inr (0, 10, 0, 0)]) C N I fn_X1_21 dX1_init_33 (ap_get hn rfl) (Nat.le_of_ble_eq_true rfl) rfl (ap_set hn rfl) (fun _ => rfl) (fun _ => rfl) (fun N => ?_)
  refine mj_aload_n C 0 dX1_init_36 (i := 0) rfl rfl ?_
  refine mj_bipush C (v := 10) dX1_init_37 rfl ?_
  refine mj_newI (SH' := pre ++ [.inl (1, [(0, 0), (0, 0), (0, 0), (0, 0), (1, n + 1), (0, 0), (1, n + 2), (1, n + 3), (1, n + 4), (0, 0), (3, 0), (3, 0), (3, 0), (0, 0), (0, 0), (3, 0), (3, 0)]), .inr (0, 8, 0, 0), .inr (0, 10, 0, 0), .inr (0, 10, 0, 0), .inr (0, 10, 0, 0), .inr (0, 10, 0, 0)]) C N 10 (n + 5) (ap_len hn rfl) (ap_app rfl) (hz _ (by omega)) (by decide) (by decide) (by decide) ar_I (by decide) (by decide) dX1_init_39 (5, 48) rfl (fun C N => ?_)
  refine mj_putF (SH' := pre ++ [.inl (1, [(0, 0), (0, 0), (0, 0), (0, 0), (1, n + 1), (0, 0), (1, n + 2), (1, n + 3), (1, n + 4), (0, 0), (1, n + 5), (3, 0), (3, 0), (0, 0), (0, 0), (3, 0), (3, 0)]), .inr (0, 8, 0, 0), .inr (0, 10, 0, 0), .inr (0, 10, 0, 0), .inr (0, 10, 0, 0), .inr (0, 10, 0, 0)]) C N I fn_X1_24 dX1_init_41 (ap_get hn rfl) (Nat.le_of_ble_eq_true rfl) rfl (ap_set hn rfl) (fun _ => rfl) (fun _ => rfl) (fun N => ?_)
  refine mj_aload_n C 0 dX1_init_44 (i := 0) rfl rfl ?_
  refine mj_bipush C (v := 10) dX1_init_45 rfl ?_
  refine mj_newI (SH' := pre ++ [.inl (1, [(0, 0), (0, 0), (0, 0), (0, 0), (1, n + 1), (0, 0), (1, n + 2), (1, n + 3), (1, n + 4), (0, 0), (1, n + 5), (3, 0), (3, 0), (0, 0), (0, 0), (3, 0), (3, 0)]), .inr (0, 8, 0, 0), .inr (0, 10, 0, 0), .inr (0, 10, 0, 0), .inr (0, 10, 0, 0), .inr (0, 10, 0, 0), .inr (0, 10, 0, 0)]) C N 10 (n + 6) (ap_len hn rfl) (ap_app rfl) (hz _ (by omega)) (by decide) (by decide) (by decide) ar_I (by decide) (by decide) dX1_init_47 (6, 58) rfl (fun C N => ?_)
  refine mj_putF (SH' := pre ++ [.inl (1, [(0, 0), (0, 0), (0, 0), (0, 0), (1, n + 1), (0, 0), (1, n + 2), (1, n + 3), (1, n + 4), (0, 0), (1, n + 5), (1, n + 6), (3, 0), (0, 0), (0, 0), (3, 0), (3, 0)]), .inr (0, 8, 0, 0), .inr (0, 10, 0, 0), .inr (0, 10, 0, 0), .inr (0, 10, 0, 0), .inr (0, 10, 0, 0), .inr (0, 10, 0, 0)]) C N I fn_X1_27 dX1_init_49 (ap_get hn rfl) (Nat.le_of_ble_eq_true rfl) rfl (ap_set hn rfl) (fun _ => rfl) (fun _ => rfl) (fun N => ?_)
  refine mj_aload_n C 0 dX1_init_52 (i := 0) rfl rfl ?_
  refine mj_bipush C (v := 10) dX1_init_53 rfl ?_
  refine mj_newI (SH' := pre ++ [.inl (1, [(0, 0), (0, 0), (0, 0), (0, 0), (1, n + 1), (0, 0), (1, n + 2), (1, n + 3), (1, n + 4), (0, 0), (1, n + 5), (1, n + 6), (3, 0), (0, 0), (0, 0), (3, 0), (3, 0)]), .inr (0, 8, 0, 0), .inr (0, 10, 0, 0), .inr (0, 10, 0, 0), .inr (0, 10, 0, 0), .inr (0, 10, 0, 0), .inr (0, 10, 0, 0), .inr (0, 10, 0, 0)]) C N 10 (n + 7) (ap_len hn rfl) (ap_app rfl) (hz _ (by omega)) (by decide) (by decide) (by decide) ar_I (by decide) (by decide) dX1_init_55 (7, 68) rfl (fun C N => ?_)
  refine mj_putF (SH' := pre ++ [.inl (1, [(0, 0), (0, 0), (0, 0), (0, 0), (1, n + 1), (0, 0), (1, n + 2), (1, n + 3), (1, n + 4), (0, 0), (1, n + 5), (1, n + 6), (1, n + 7), (0, 0), (0, 0), (3, 0), (3, 0)]), .inr (0, 8, 0, 0), .inr (0, 10, 0, 0), .inr (0, 10, 0, 0), .inr (0, 10, 0, 0), .inr (0, 10, 0, 0), .inr (0, 10, 0, 0), .inr (0, 10, 0, 0)]) C N I fn_X1_30 dX1_init_57 (ap_get hn rfl) (Nat.le_of_ble_eq_true rfl) rfl (ap_set hn rfl) (fun _ => rfl) (fun _ => rfl) (fun N => ?_)
  refine mj_aload_n C 0 dX1_init_60 (i := 0) rfl rfl ?_
  refine mj_iconst C (v := 5) dX1_init_61 rfl ?_
  refine mj_newI (SH' := pre ++ [.inl (1, [(0, 0), (0, 0), (0, 0), (0, 0), (1, n + 1), (0, 0), (1, n + 2), (1, n + 3), (1, n + 4), (0, 0), (1, n + 5), (1, n + 6), (1, n + 7), (0, 0), (0, 0), (3, 0), (3, 0)]), .inr (0, 8, 0, 0), .inr (0, 10, 0, 0), .inr (0, 10, 0, 0), .inr (0, 10, 0, 0), .inr (0, 10, 0, 0), .inr (0, 10, 0, 0), .inr (0, 10, 0, 0), .inr (0, 5, 0, 0)]) C N 5 (n + 8) (ap_len hn rfl) (ap_app rfl) (hz _ (by omega)) (by decide) (by decide) (by decide) ar_I (by decide) (by decide) dX1_init_62 (8, 73) rfl (fun C N => ?_)
  refine mj_putF (SH' := pre ++ [.inl (1, [(0, 0), (0, 0), (0, 0), (0, 0), (1, n + 1), (0, 0), (1, n + 2), (1, n + 3), (1, n + 4), (0, 0), (1, n + 5), (1, n + 6), (1, n + 7), (0, 0), (0, 0), (1, n + 8), (3, 0)]), .inr (0, 8, 0, 0), .inr (0, 10, 0, 0), .inr (0, 10, 0, 0), .inr (0, 10, 0, 0), .inr (0, 10, 0, 0), .inr (0, 10, 0, 0), .inr (0, 10, 0, 0), .inr (0, 5, 0, 0)]) C N I fn_X1_33 dX1_init_64 (ap_get hn rfl) (Nat.le_of_ble_eq_true rfl) rfl (ap_set hn rfl) (fun _ => rfl) (fun _ => rfl) (fun N => ?_)
  refine mj_aload_n C 0 dX1_init_67 (i := 0) rfl rfl ?_
  refine mj_sipush C (v := 256) dX1_init_68 rfl ?_
  refine mj_newI (SH' := pre ++ [.inl (1, [(0, 0), (0, 0), (0, 0), (0, 0), (1, n + 1), (0, 0), (1, n + 2), (1, n + 3), (1, n + 4), (0, 0), (1, n + 5), (1, n + 6), (1, n + 7), (0, 0), (0, 0), (1, n + 8), (3, 0)]), .inr (0, 8, 0, 0), .inr (0, 10, 0, 0), .inr (0, 10, 0, 0), .inr (0, 10, 0, 0), .inr (0, 10, 0, 0), .inr (0, 10, 0, 0), .inr (0, 10, 0, 0), .inr (0, 5, 0, 0), .inr (0, 256, 0, 0)]) C N 256 (n + 9) (ap_len hn rfl) (ap_app rfl) (hz _ (by omega)) (by decide) (by decide) (by decide) ar_I (by decide) (by decide) dX1_init_71 (9, 329) rfl (fun C N => ?_)
  refine mj_putF (SH' := pre ++ [.inl (1, [(0, 0), (0, 0), (0, 0), (0, 0), (1, n + 1), (0, 0), (1, n + 2), (1, n + 3), (1, n + 4), (0, 0), (1, n + 5), (1, n + 6), (1, n + 7), (0, 0), (0, 0), (1, n + 8), (1, n + 9)]), .inr (0, 8, 0, 0), .inr (0, 10, 0, 0), .inr (0, 10, 0, 0), .inr (0, 10, 0, 0), .inr (0, 10, 0, 0), .inr (0, 10, 0, 0), .inr (0, 10, 0, 0), .inr (0, 5, 0, 0), .inr (0, 256, 0, 0)]) C N I fn_X1_36 dX1_init_73 (ap_get hn rfl) (Nat.le_of_ble_eq_true rfl) rfl (ap_set hn rfl) (fun _ => rfl) (fun _ => rfl) (fun N => ?_)
  exact mj_rN C N E dX1_init_76
set_option maxRecDepth 100000 in
set_option maxHeartbeats 4000000 in
theorem cn_X0 (K : Kx) (pre : List Sh) (n : Nat) (hn : pre.length = n) (h : Mm) (hz : ∀ k, n ≤ k → h k = fun _ => 0) : Mn K yX0_init cX0_init 1 1 12 2 30 (pre ++ [.inl (0, [(3, 0), (3, 0), (0, 0)])]) (n + 0) h (pre ++ [.inl (0, [(1, n + 1), (1, n + 2), (0, 0)]), .inr (0, 15, 0, 0), .inr (0, 15, 0, 0)]) h := by
  refine Mn.of (by decide) rfl (by decide) (fun Y C N I E => ?_)
  have C : Cx K Y (0, 0) cX0_init RX0 1 1 12 := C
  refine mj_aload_n C 0 dX0_init_0 (i := 0) rfl rfl ?_
  refine mj_obj C ol_X0_3 ob_i ob_c (by decide) (Nat.le_of_ble_eq_true rfl) dX0_init_1 ?_
  refine mj_aload_n C 0 dX0_init_4 (i := 0) rfl rfl ?_
  refine mj_bipush C (v := 15) dX0_init_5 rfl ?_
  refine mj_newI (SH' := pre ++ [.inl (0, [(3, 0), (3, 0), (0, 0)]), .inr (0, 15, 0, 0)]) C N 15 (n + 1) (ap_len hn rfl) (ap_app rfl) (hz _ (by omega)) (by decide) (by decide) (by decide) ar_I (by decide) (by decide) dX0_init_7 (1, 15) rfl (fun C N => ?_)
  refine mj_putF (SH' := pre ++ [.inl (0, [(1, n + 1), (3, 0), (0, 0)]), .inr (0, 15, 0, 0)]) C N I fn_X0_9 dX0_init_9 (ap_get hn rfl) (Nat.le_of_ble_eq_true rfl) rfl (ap_set hn rfl) (fun _ => rfl) (fun _ => rfl) (fun N => ?_)
  refine mj_aload_n C 0 dX0_init_12 (i := 0) rfl rfl ?_
  refine mj_bipush C (v := 15) dX0_init_13 rfl ?_
  refine mj_newI (SH' := pre ++ [.inl (0, [(1, n + 1), (3, 0), (0, 0)]), .inr (0, 15, 0, 0), .inr (0, 15, 0, 0)]) C N 15 (n + 2) (ap_len hn rfl) (ap_app rfl) (hz _ (by omega)) (by decide) (by decide) (by decide) ar_I (by decide) (by decide) dX0_init_15 (2, 30) rfl (fun C N => ?_)
  refine mj_putF (SH' := pre ++ [.inl (0, [(1, n + 1), (1, n + 2), (0, 0)]), .inr (0, 15, 0, 0), .inr (0, 15, 0, 0)]) C N I fn_X0_15 dX0_init_17 (ap_get hn rfl) (Nat.le_of_ble_eq_true rfl) rfl (ap_set hn rfl) (fun _ => rfl) (fun _ => rfl) (fun N => ?_)
  exact mj_rN C N E dX0_init_20
set_option maxRecDepth 100000 in
set_option maxHeartbeats 4000000 in
theorem cn_X5 (K : Kx) (pre : List Sh) (n : Nat) (hn : pre.length = n) (h : Mm) (hz : ∀ k, n ≤ k → h k = fun _ => 0) : Mn K yX5_init cX5_init 1 1 12 4 26 (pre ++ [.inl (5, [(3, 0), (3, 0), (3, 0), (3, 0), (0, 0), (0, 0), (0, 0), (0, 0)])]) (n + 0) h (pre ++ [.inl (5, [(1, n + 1), (1, n + 2), (1, n + 3), (1, n + 4), (0, 0), (0, 0), (0, 0), (0, 0)]), .inr (0, 6, 0, 0), .inr (0, 6, 0, 0), .inr (1, 6, 0, 0), .inr (0, 8, 0, 0)]) h := by
  refine Mn.of (by decide) rfl (by decide) (fun Y C N I E => ?_)
  have C : Cx K Y (0, 0) cX5_init RX5 1 1 12 := C
  refine mj_aload_n C 0 dX5_init_0 (i := 0) rfl rfl ?_
  refine mj_obj C ol_X5_3 ob_i ob_c (by decide) (Nat.le_of_ble_eq_true rfl) dX5_init_1 ?_
  refine mj_aload_n C 0 dX5_init_4 (i := 0) rfl rfl ?_
  refine mj_bipush C (v := 6) dX5_init_5 rfl ?_
  refine mj_newI (SH' := pre ++ [.inl (5, [(3, 0), (3, 0), (3, 0), (3, 0), (0, 0), (0, 0), (0, 0), (0, 0)]), .inr (0, 6, 0, 0)]) C N 6 (n + 1) (ap_len hn rfl) (ap_app rfl) (hz _ (by omega)) (by decide) (by decide) (by decide) ar_I (by decide) (by decide) dX5_init_7 (1, 6) rfl (fun C N => ?_)
  refine mj_putF (SH' := pre ++ [.inl (5, [(1, n + 1), (3, 0), (3, 0), (3, 0), (0, 0), (0, 0), (0, 0), (0, 0)]), .inr (0, 6, 0, 0)]) C N I fn_X5_9 dX5_init_9 (ap_get hn rfl) (Nat.le_of_ble_eq_true rfl) rfl (ap_set hn rfl) (fun _ => rfl) (fun _ => rfl) (fun N => ?_)
  refine mj_aload_n C 0 dX5_init_12 (i := 0) rfl rfl ?_
  refine mj_bipush C (v := 6) dX5_init_13 rfl ?_
  refine mj_newI (SH' := pre ++ [.inl (5, [(1, n + 1), (3, 0), (3, 0), (3, 0), (0, 0), (0, 0), (0, 0), (0, 0)]), .inr (0, 6, 0, 0), .inr (0, 6, 0, 0)]) C N 6 (n + 2) (ap_len hn rfl) (ap_app rfl) (hz _ (by omega)) (by decide) (by decide) (by decide) ar_I (by decide) (by decide) dX5_init_15 (2, 12) rfl (fun C N => ?_)
  refine mj_putF (SH' := pre ++ [.inl (5, [(1, n + 1), (1, n + 2), (3, 0), (3, 0), (0, 0), (0, 0), (0, 0), (0, 0)]), .inr (0, 6, 0, 0), .inr (0, 6, 0, 0)]) C N I fn_X5_15 dX5_init_17 (ap_get hn rfl) (Nat.le_of_ble_eq_true rfl) rfl (ap_set hn rfl) (fun _ => rfl) (fun _ => rfl) (fun N => ?_)
  refine mj_aload_n C 0 dX5_init_20 (i := 0) rfl rfl ?_
  refine mj_bipush C (v := 6) dX5_init_21 rfl ?_
  refine mj_newZ (SH' := pre ++ [.inl (5, [(1, n + 1), (1, n + 2), (3, 0), (3, 0), (0, 0), (0, 0), (0, 0), (0, 0)]), .inr (0, 6, 0, 0), .inr (0, 6, 0, 0), .inr (1, 6, 0, 0)]) C N 6 (n + 3) (ap_len hn rfl) (ap_app rfl) (hz _ (by omega)) (by decide) (by decide) (by decide) ar_Z (by decide) (by decide) dX5_init_23 (3, 18) rfl (fun C N => ?_)
  refine mj_putF (SH' := pre ++ [.inl (5, [(1, n + 1), (1, n + 2), (1, n + 3), (3, 0), (0, 0), (0, 0), (0, 0), (0, 0)]), .inr (0, 6, 0, 0), .inr (0, 6, 0, 0), .inr (1, 6, 0, 0)]) C N I fn_X5_18 dX5_init_25 (ap_get hn rfl) (Nat.le_of_ble_eq_true rfl) rfl (ap_set hn rfl) (fun _ => rfl) (fun _ => rfl) (fun N => ?_)
  refine mj_aload_n C 0 dX5_init_28 (i := 0) rfl rfl ?_
  refine mj_bipush C (v := 8) dX5_init_29 rfl ?_
  refine mj_newI (SH' := pre ++ [.inl (5, [(1, n + 1), (1, n + 2), (1, n + 3), (3, 0), (0, 0), (0, 0), (0, 0), (0, 0)]), .inr (0, 6, 0, 0), .inr (0, 6, 0, 0), .inr (1, 6, 0, 0), .inr (0, 8, 0, 0)]) C N 8 (n + 4) (ap_len hn rfl) (ap_app rfl) (hz _ (by omega)) (by decide) (by decide) (by decide) ar_I (by decide) (by decide) dX5_init_31 (4, 26) rfl (fun C N => ?_)
  refine mj_putF (SH' := pre ++ [.inl (5, [(1, n + 1), (1, n + 2), (1, n + 3), (1, n + 4), (0, 0), (0, 0), (0, 0), (0, 0)]), .inr (0, 6, 0, 0), .inr (0, 6, 0, 0), .inr (1, 6, 0, 0), .inr (0, 8, 0, 0)]) C N I fn_X5_22 dX5_init_33 (ap_get hn rfl) (Nat.le_of_ble_eq_true rfl) rfl (ap_set hn rfl) (fun _ => rfl) (fun _ => rfl) (fun N => ?_)
  exact mj_rN C N E dX5_init_36
