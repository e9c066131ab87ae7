noncomputable def fX7_feed (h : Mm) (l1 : Int32) : Option (Int32 × Mm) := (if l1 < 0 then some ((-1000000002 : Int32), h) else (if l1 ≤ (255 : Int32) then md_b2 (fX6_append h l1) (fun r_1 h_2 => md_bd ((if r_1 = true then some (h_2 1 1) else some (-1000000004 : Int32))) (fun (v_3 : Int32) => some (v_3, h_2))) else some ((-1000000002 : Int32), h)))
set_option maxRecDepth 100000 in
set_option maxHeartbeats 4000000 in
theorem ctX7_feed (K : Kx) (h : Mm) (l1 : Int32) {a : Int32 × Mm} (hF : fX7_feed h l1 = some a) : Mt K yX7_feed cX7_feed 2 (some .int) 1 21 SHc [rf K 0, .int l1] h (some (.int a.1)) a.2 := by
  refine Mt.of hF [(0, rf K 0), (1, .int l1)] (by decide) (Nat.le_of_ble_eq_true rfl) rfl (fun Y C N => ?_)
  have C : Cx K Y (0, 0) cX7_feed RX7 2 1 21 := C
  unfold fX7_feed
  refine mj_iload_n C 1 dX7_feed_0 (i := 1) rfl rfl ?_
  refine mj_if_lt C 11 dX7_feed_1 (by decide) ?_ ?_
  · refine mj_ldc C kc_X7_62 dX7_feed_11 ?_
    exact mj_rIM C N dX7_feed_13
  · refine mj_iload_n C 1 dX7_feed_4 (i := 1) rfl rfl ?_
    refine mj_sipush C (v := 255) dX7_feed_5 rfl ?_
    refine mj_icmp_le C 14 dX7_feed_8 (by decide) ?_ ?_
    · refine mj_aload_n C 0 dX7_feed_14 (i := 0) rfl rfl ?_
      refine mj_getR C ff_X7_10 dX7_feed_15 sh_0 rfl ?_
      refine mj_iload_n C 1 dX7_feed_18 (i := 1) rfl rfl ?_
      refine mj_vBM C my_X6_append mv_X7_63 dX7_feed_19 sh_1 rfl (fun a hF => ctX6_append K h l1  hF) (by decide) (by decide) rfl rfl (Nat.le_of_ble_eq_true rfl) (fun r_1 h_2 => ?_)
      refine mj_phi1 37 (fun (v_3 : Int32) => []) (fun (v_3 : Int32) => [.int v_3]) (fun (v_3 : Int32) => h_2) (fun P' kj_4 => ?_) (fun v_3 => ?_)
      · refine mj_b_eq C 35 dX7_feed_22 (by decide) ?_ ?_
        · refine mj_ldc C kc_X7_71 dX7_feed_35 ?_
          exact mj_sub [] rfl (mj_some (kj_4 (-1000000004 : Int32)))
        · refine mj_aload_n C 0 dX7_feed_25 (i := 0) rfl rfl ?_
          refine mj_getR C ff_X7_10 dX7_feed_26 sh_0 rfl ?_
          refine mj_getI C ff_X7_67 dX7_feed_29 sh_1 rfl ?_
          refine mj_goto C 37 dX7_feed_32 (by decide) ?_
          exact mj_sub [] rfl (mj_some (kj_4 (h_2 1 1)))
      · exact mj_rIM C N dX7_feed_37
    · refine mj_ldc C kc_X7_62 dX7_feed_11 ?_
      exact mj_rIM C N dX7_feed_13
noncomputable def fX7_thePass (h : Mm) : Option (Int32 × Mm) := md_b2 (fX6_read h) (fun r_1 h_2 => md_lt (md_up h_2 1 1 (0 : Int32)) (fun h_3 : Mm => (if r_1 = true then md_b2 (fX6_exchange h_3 (md_dx (h_3 0 7))) (fun r_4 h_5 => md_ck (md_cb r_4) (md_lt (md_up h_5 0 7 (md_ex r_4)) (fun h_7 : Mm => md_bd (fX1_findAllFrom h_7 (md_dx (h_7 0 7))) (fun h_8 => md_bd (fX4_begin h_8 13 (md_dx (h_8 0 7))) (fun h_9 => md_lt (md_up h_9 15 2 (0 : Int32)) (fun h_10 : Mm => md_bd (fX2_forget h_10) (fun h_11 => md_lt (md_up h_11 65 4 (0 : Int32)) (fun h_12 : Mm => md_lt (md_up h_12 70 2 (0 : Int32)) (fun h_13 : Mm => some ((h_13 (md_dx (h_13 0 7)) 3), h_13)))))))))) else some (((-10 : Int32) - (h_3 1 3)), h_3))))
set_option maxRecDepth 100000 in
set_option maxHeartbeats 4000000 in
theorem ctX7_thePass (K : Kx) (h : Mm) {a : Int32 × Mm} (hF : fX7_thePass h = some a) : Mt K yX7_thePass cX7_thePass 2 (some .int) 6 131 SHc [rf K 0] h (some (.int a.1)) a.2 := by
  refine Mt.of hF [(0, rf K 0)] (by decide) (Nat.le_of_ble_eq_true rfl) rfl (fun Y C N => ?_)
  have C : Cx K Y (0, 0) cX7_thePass RX7 2 6 131 := C
  unfold fX7_thePass
  refine mj_aload_n C 0 dX7_thePass_0 (i := 0) rfl rfl ?_
  refine mj_getR C ff_X7_10 dX7_thePass_1 sh_0 rfl ?_
  refine mj_vBM C my_X6_read mv_X7_72 dX7_thePass_4 sh_1 rfl (fun a hF => ctX6_read K h   hF) (by decide) (by decide) rfl rfl (Nat.le_of_ble_eq_true rfl) (fun r_1 h_2 => ?_)
  refine mj_istore_n C [(1, .int (md_bi r_1)), (0, rf K 0)] dX7_thePass_7 (i := 1) rfl (by decide) rfl ?_
  refine mj_aload_n C 1 dX7_thePass_8 (i := 0) rfl rfl ?_
  refine mj_getR C ff_X7_10 dX7_thePass_9 sh_0 rfl ?_
  refine mj_iconst C (v := 0) dX7_thePass_12 rfl ?_
  refine mj_putL C fp_X7_67 dX7_thePass_13 sh_1 rfl rfl rfl (fun h_3 => ?_)
  refine mj_iload_n C 0 dX7_thePass_16 (i := 1) rfl rfl ?_
  refine mj_b_ne C 31 dX7_thePass_17 (by decide) ?_ ?_
  · refine mj_aload_n C 1 dX7_thePass_31 (i := 0) rfl rfl ?_
    refine mj_aload_n C 1 dX7_thePass_32 (i := 0) rfl rfl ?_
    refine mj_getR C ff_X7_10 dX7_thePass_33 sh_0 rfl ?_
    refine mj_aload_n C 1 dX7_thePass_36 (i := 0) rfl rfl ?_
    refine mj_getM C ff_X7_58 dX7_thePass_37 sh_0 rfl ?_
    refine mj_vRM C my_X6_exchange mv_X7_79 dX7_thePass_40 sh_1 rfl (fun a hF => ctX6_exchange K h_3 (md_dx (h_3 0 7)) (cnt_dx (h_3 0 7)) hF) (by decide) (by decide) rfl rfl (Nat.le_of_ble_eq_true rfl) (fun r_4 h_5 => ?_)
    refine mj_ckU (fun hr_6 => ?_)
    refine mj_putM C fp_X7_58 dX7_thePass_43 sh_0 rfl (cnt_ex (cnt_b hr_6)) (fun _ => rfl) (fun _ => rfl) (fun h_7 => ?_)
    refine mj_aload_n C 1 dX7_thePass_46 (i := 0) rfl rfl ?_
    refine mj_getM C ff_X7_58 dX7_thePass_47 sh_0 rfl ?_
    refine mj_vM C my_X1_findAllFrom mv_X7_83 dX7_thePass_50 (cn_o (cnt_dx (h_7 0 7))) rfl (fun a hF => ctX1_findAllFrom K h_7 (md_dx (h_7 0 7)) (cnt_dx (h_7 0 7)) hF) (by decide) (by decide) rfl rfl (Nat.le_of_ble_eq_true rfl) (fun h_8 => ?_)
    refine mj_aload_n C 1 dX7_thePass_53 (i := 0) rfl rfl ?_
    refine mj_getR C ff_X7_19 dX7_thePass_54 sh_0 rfl ?_
    refine mj_aload_n C 1 dX7_thePass_57 (i := 0) rfl rfl ?_
    refine mj_getM C ff_X7_58 dX7_thePass_58 sh_0 rfl ?_
    refine mj_vM C my_X4_begin mv_X7_86 dX7_thePass_61 (ps_o ps_13) rfl (fun a hF => ctX4_begin K h_8 13 (md_dx (h_8 0 7)) ps_13 (cnt_dx (h_8 0 7)) hF) (by decide) (by decide) rfl rfl (Nat.le_of_ble_eq_true rfl) (fun h_9 => ?_)
    refine mj_aload_n C 1 dX7_thePass_64 (i := 0) rfl rfl ?_
    refine mj_getR C ff_X7_26 dX7_thePass_65 sh_0 rfl ?_
    refine mj_iconst C (v := 0) dX7_thePass_68 rfl ?_
    refine mj_putL C fp_X7_90 dX7_thePass_69 sh_15 rfl rfl rfl (fun h_10 => ?_)
    refine mj_aload_n C 1 dX7_thePass_72 (i := 0) rfl rfl ?_
    refine mj_getR C ff_X7_33 dX7_thePass_73 sh_0 rfl ?_
    refine mj_vM C my_X2_forget mv_X7_93 dX7_thePass_76 sh_57 rfl (fun a hF => ctX2_forget K h_10   hF) (by decide) (by decide) rfl rfl (Nat.le_of_ble_eq_true rfl) (fun h_11 => ?_)
    refine mj_aload_n C 1 dX7_thePass_79 (i := 0) rfl rfl ?_
    refine mj_getR C ff_X7_40 dX7_thePass_80 sh_0 rfl ?_
    refine mj_iconst C (v := 0) dX7_thePass_83 rfl ?_
    refine mj_putL C fp_X7_96 dX7_thePass_84 sh_65 rfl rfl rfl (fun h_12 => ?_)
    refine mj_aload_n C 1 dX7_thePass_87 (i := 0) rfl rfl ?_
    refine mj_getR C ff_X7_47 dX7_thePass_88 sh_0 rfl ?_
    refine mj_iconst C (v := 0) dX7_thePass_91 rfl ?_
    refine mj_putL C fp_X7_97 dX7_thePass_92 sh_70 rfl rfl rfl (fun h_13 => ?_)
    refine mj_aload_n C 1 dX7_thePass_95 (i := 0) rfl rfl ?_
    refine mj_getM C ff_X7_58 dX7_thePass_96 sh_0 rfl ?_
    refine mj_getI C ff_X7_98 dX7_thePass_99 (cn_o (cnt_dx (h_13 0 7))) rfl ?_
    exact mj_rIM C N dX7_thePass_102
  · refine mj_bipush C (v := -10) dX7_thePass_20 rfl ?_
    refine mj_aload_n C 1 dX7_thePass_22 (i := 0) rfl rfl ?_
    refine mj_getR C ff_X7_10 dX7_thePass_23 sh_0 rfl ?_
    refine mj_getI C ff_X7_76 dX7_thePass_26 sh_1 rfl ?_
    refine mj_isub C dX7_thePass_29 ?_
    exact mj_rIM C N dX7_thePass_30
noncomputable def fX7_fault (h : Mm) : Option (Int32) := some (h 1 2)
set_option maxRecDepth 100000 in
set_option maxHeartbeats 4000000 in
theorem ctX7_fault (K : Kx) (h : Mm) {a : Int32} (hF : fX7_fault h = some a) : Mt K yX7_fault cX7_fault 1 (some .int) 0 0 SHc [rf K 0] h (some (.int a)) h := by
  refine Mt.of hF [(0, rf K 0)] (by decide) (Nat.le_of_ble_eq_true rfl) rfl (fun Y C N => ?_)
  have C : Cx K Y (0, 0) cX7_fault RX7 1 0 0 := C
  unfold fX7_fault
  refine mj_aload_n C 0 dX7_fault_0 (i := 0) rfl rfl ?_
  refine mj_getR C ff_X7_10 dX7_fault_1 sh_0 rfl ?_
  refine mj_getI C ff_X7_101 dX7_fault_4 sh_1 rfl ?_
  exact mj_rI C N dX7_fault_7
noncomputable def fX7_inTheCountry (h : Mm) : Option (Int32) := md_bd (fX1_allFrom h (md_dx (h 0 7)) (h 13 1)) (fun r_1 => some r_1)
set_option maxRecDepth 100000 in
set_option maxHeartbeats 4000000 in
theorem ctX7_inTheCountry (K : Kx) (h : Mm) {a : Int32} (hF : fX7_inTheCountry h = some a) : Mt K yX7_inTheCountry cX7_inTheCountry 1 (some .int) 2 42 SHc [rf K 0] h (some (.int a)) h := by
  refine Mt.of hF [(0, rf K 0)] (by decide) (Nat.le_of_ble_eq_true rfl) rfl (fun Y C N => ?_)
  have C : Cx K Y (0, 0) cX7_inTheCountry RX7 1 2 42 := C
  unfold fX7_inTheCountry
  refine mj_aload_n C 0 dX7_inTheCountry_0 (i := 0) rfl rfl ?_
  refine mj_getM C ff_X7_58 dX7_inTheCountry_1 sh_0 rfl ?_
  refine mj_aload_n C 0 dX7_inTheCountry_4 (i := 0) rfl rfl ?_
  refine mj_getR C ff_X7_19 dX7_inTheCountry_5 sh_0 rfl ?_
  refine mj_getI C ff_X7_119 dX7_inTheCountry_8 (ps_o ps_13) rfl ?_
  refine mj_vI C my_X1_allFrom mv_X7_210 dX7_inTheCountry_11 (cn_o (cnt_dx (h 0 7))) rfl (fun a hF => ctX1_allFrom K h (md_dx (h 0 7)) (h 13 1) (cnt_dx (h 0 7)) hF) (by decide) (by decide) rfl rfl (Nat.le_of_ble_eq_true rfl) (fun r_1 => ?_)
  exact mj_rI C N dX7_inTheCountry_14
noncomputable def fX7_stuckOnes_4 : Nat → Mm → Int32 → Int32 → Option (Int32)
  | 0, _, _, _ => none
  | n + 1, h, l1, l2 => (if (h (md_dx (h 0 7)) 14) ≤ l2 then some l1 else md_bd (fX4_isGone h 13 l2) (fun r_1 => md_bd ((if r_1 = true then some l1 else md_bd (fX4_mindOf h 13 l2) (fun r_4 => md_bd (fX1_isStuck h (md_dx (h 0 7)) r_4) (fun r_5 => (if r_5 = true then md_lt (l1 ||| ((1 : Int32) <<< (l2 &&& 31))) (fun l1_6 : Int32 => some l1_6) else some l1))))) (fun (v_2 : Int32) => fX7_stuckOnes_4 n h v_2 (l2 + 1))))
set_option maxRecDepth 100000 in
set_option maxHeartbeats 4000000 in
theorem lX7_stuckOnes_4 {K : Kx} {Y : Yx} {cs : Nat × Nat} (C : Cx K Y cs cX7_stuckOnes RX7 3 2 44) {P : Int32 → Prop} : ∀ (n : Nat) (h : Mm) (l1 : Int32) (l2 : Int32), (∀ (w1 : Int32), J SHc K Y cs (P w1) 56 [(1, .int w1)] [] h) → J SHc K Y cs (mj_O (fX7_stuckOnes_4 n h l1 l2) P) 4 [(0, rf K 0), (1, .int l1), (2, .int l2)] [] h := by
  intro n
  induction n with
  | zero => intro h l1 l2 kk0; exact mj_none
  | succ n ih =>
    intro h l1 l2 kk0
    rw [fX7_stuckOnes_4]
    refine mj_iload_n C 2 dX7_stuckOnes_4 (i := 2) rfl rfl ?_
    refine mj_aload_n C 0 dX7_stuckOnes_5 (i := 0) rfl rfl ?_
    refine mj_getM C ff_X7_58 dX7_stuckOnes_6 sh_0 rfl ?_
    refine mj_getI C ff_X7_116 dX7_stuckOnes_9 (cn_o (cnt_dx (h 0 7))) rfl ?_
    refine mj_icmp_ge C 56 dX7_stuckOnes_12 (by decide) ?_ ?_
    · exact mj_sub [1] rfl (mj_some (kk0 l1))
    · refine mj_aload_n C 0 dX7_stuckOnes_15 (i := 0) rfl rfl ?_
      refine mj_getR C ff_X7_19 dX7_stuckOnes_16 sh_0 rfl ?_
      refine mj_iload_n C 2 dX7_stuckOnes_19 (i := 2) rfl rfl ?_
      refine mj_vB C my_X4_isGone mv_X7_158 dX7_stuckOnes_20 (ps_o ps_13) rfl (fun a hF => ctX4_isGone K h 13 l2 ps_13 hF) (by decide) (by decide) rfl rfl (Nat.le_of_ble_eq_true rfl) (fun r_1 => ?_)
      refine mj_phi1 50 (fun (v_2 : Int32) => [(0, rf K 0), (1, .int v_2), (2, .int l2)]) (fun (v_2 : Int32) => []) (fun (v_2 : Int32) => h) (fun P' kj_3 => ?_) (fun v_2 => ?_)
      · refine mj_b_ne C 50 dX7_stuckOnes_23 (by decide) ?_ ?_
        · exact mj_sub [0, 1, 2] rfl (mj_some (kj_3 l1))
        · refine mj_aload_n C 0 dX7_stuckOnes_26 (i := 0) rfl rfl ?_
          refine mj_getM C ff_X7_58 dX7_stuckOnes_27 sh_0 rfl ?_
          refine mj_aload_n C 0 dX7_stuckOnes_30 (i := 0) rfl rfl ?_
          refine mj_getR C ff_X7_19 dX7_stuckOnes_31 sh_0 rfl ?_
          refine mj_iload_n C 2 dX7_stuckOnes_34 (i := 2) rfl rfl ?_
          refine mj_vI C my_X4_mindOf mv_X7_148 dX7_stuckOnes_35 (ps_o ps_13) rfl (fun a hF => ctX4_mindOf K h 13 l2 ps_13 hF) (by decide) (by decide) rfl rfl (Nat.le_of_ble_eq_true rfl) (fun r_4 => ?_)
          refine mj_vB C my_X1_isStuck mv_X7_161 dX7_stuckOnes_38 (cn_o (cnt_dx (h 0 7))) rfl (fun a hF => ctX1_isStuck K h (md_dx (h 0 7)) r_4 (cnt_dx (h 0 7)) hF) (by decide) (by decide) rfl rfl (Nat.le_of_ble_eq_true rfl) (fun r_5 => ?_)
          refine mj_b_eq C 50 dX7_stuckOnes_41 (by decide) ?_ ?_
          · exact mj_sub [0, 1, 2] rfl (mj_some (kj_3 l1))
          · refine mj_iload_n C 1 dX7_stuckOnes_44 (i := 1) rfl rfl ?_
            refine mj_iconst C (v := 1) dX7_stuckOnes_45 rfl ?_
            refine mj_iload_n C 2 dX7_stuckOnes_46 (i := 2) rfl rfl ?_
            refine mj_ishl C dX7_stuckOnes_47 ?_
            refine mj_ior C dX7_stuckOnes_48 ?_
            refine mj_istore_nL C (fun l1_6 => [(1, .int l1_6), (0, rf K 0), (2, .int l2)]) dX7_stuckOnes_49 (i := 1) rfl (by decide) rfl (fun l1_6 => ?_)
            exact mj_sub [1, 0, 2] rfl (mj_some (kj_3 l1_6))
      · refine mj_iinc C (l2 + 1) 2 [(2, .int (l2 + 1)), (0, rf K 0), (1, .int v_2)] dX7_stuckOnes_50 rfl rfl (by decide) rfl ?_
        refine mj_goto C 4 dX7_stuckOnes_53 (by decide) ?_
        exact mj_sub [1, 2, 0] rfl (ih h v_2 (l2 + 1) kk0)
noncomputable def fX7_stuckOnes (h : Mm) : Option (Int32) := md_bd (fX7_stuckOnes_4 md_N h (0 : Int32) (0 : Int32)) (fun (v_7 : Int32) => some v_7)
set_option maxRecDepth 100000 in
set_option maxHeartbeats 4000000 in
theorem ctX7_stuckOnes (K : Kx) (h : Mm) {a : Int32} (hF : fX7_stuckOnes h = some a) : Mt K yX7_stuckOnes cX7_stuckOnes 3 (some .int) 2 44 SHc [rf K 0] h (some (.int a)) h := by
  refine Mt.of hF [(0, rf K 0)] (by decide) (Nat.le_of_ble_eq_true rfl) rfl (fun Y C N => ?_)
  have C : Cx K Y (0, 0) cX7_stuckOnes RX7 3 2 44 := C
  unfold fX7_stuckOnes
  refine mj_iconst C (v := 0) dX7_stuckOnes_0 rfl ?_
  refine mj_istore_n C [(1, .int (0 : Int32)), (0, rf K 0)] dX7_stuckOnes_1 (i := 1) rfl (by decide) rfl ?_
  refine mj_iconst C (v := 0) dX7_stuckOnes_2 rfl ?_
  refine mj_istore_n C [(2, .int (0 : Int32)), (1, .int (0 : Int32)), (0, rf K 0)] dX7_stuckOnes_3 (i := 2) rfl (by decide) rfl ?_
  refine mj_phi1 56 (fun (v_7 : Int32) => [(1, .int v_7)]) (fun (v_7 : Int32) => []) (fun (v_7 : Int32) => h) (fun P' kj_8 => mj_sub [2, 1, 0] rfl (lX7_stuckOnes_4 C md_N h (0 : Int32) (0 : Int32) kj_8)) (fun v_7 => ?_)
  refine mj_iload_n C 0 dX7_stuckOnes_56 (i := 1) rfl rfl ?_
  exact mj_rI C N dX7_stuckOnes_57
noncomputable def fX7_told (h : Mm) (l1 : Int32) : Option (Int32) := (if l1 = 0 then some (h (md_dx (h 0 7)) 1) else if l1 = 1 then some (h (md_dx (h 0 7)) 2) else if l1 = 2 then some (h (md_dx (h 0 7)) 3) else if l1 = 3 then some (h (md_dx (h 0 7)) 5) else if l1 = 4 then some (h (md_dx (h 0 7)) 9) else if l1 = 5 then some (h (md_dx (h 0 7)) 14) else if l1 = 6 then some (h 1 1) else if l1 = 7 then some (h 13 1) else if l1 = 8 then md_bd (fX7_inTheCountry h) (fun r_1 => some r_1) else if l1 = 9 then some (h 13 2) else if l1 = 10 then md_bd (fX7_stuckOnes h) (fun r_2 => some r_2) else if l1 = 11 then some (h 13 3) else if l1 = 12 then some (h 13 4) else if l1 = 13 then some (h 65 4) else if l1 = 14 then some (h 70 2) else if l1 = 15 then some (h 15 2) else some (-1000000002 : Int32))
set_option maxRecDepth 100000 in
set_option maxHeartbeats 4000000 in
theorem ctX7_told (K : Kx) (h : Mm) (l1 : Int32) {a : Int32} (hF : fX7_told h l1 = some a) : Mt K yX7_told cX7_told 2 (some .int) 3 66 SHc [rf K 0, .int l1] h (some (.int a)) h := by
  refine Mt.of hF [(0, rf K 0), (1, .int l1)] (by decide) (Nat.le_of_ble_eq_true rfl) rfl (fun Y C N => ?_)
  have C : Cx K Y (0, 0) cX7_told RX7 2 3 66 := C
  unfold fX7_told
  refine mj_iload_n C 1 dX7_told_0 (i := 1) rfl rfl ?_
  refine mj_sw0 ?_
  refine mj_tcase C 0 80 dX7_told_1 (by decide) (by decide) rfl (by decide) ?_ ?_
  · refine mj_aload_n C 0 dX7_told_80 (i := 0) rfl rfl ?_
    refine mj_getM C ff_X7_58 dX7_told_81 sh_0 rfl ?_
    refine mj_getI C ff_X7_104 dX7_told_84 (cn_o (cnt_dx (h 0 7))) rfl ?_
    exact mj_rI C N dX7_told_87
  refine mj_tcase C 1 88 dX7_told_1 (by decide) (by decide) rfl (by decide) ?_ ?_
  · refine mj_aload_n C 0 dX7_told_88 (i := 0) rfl rfl ?_
    refine mj_getM C ff_X7_58 dX7_told_89 sh_0 rfl ?_
    refine mj_getI C ff_X7_107 dX7_told_92 (cn_o (cnt_dx (h 0 7))) rfl ?_
    exact mj_rI C N dX7_told_95
  refine mj_tcase C 2 96 dX7_told_1 (by decide) (by decide) rfl (by decide) ?_ ?_
  · refine mj_aload_n C 0 dX7_told_96 (i := 0) rfl rfl ?_
    refine mj_getM C ff_X7_58 dX7_told_97 sh_0 rfl ?_
    refine mj_getI C ff_X7_98 dX7_told_100 (cn_o (cnt_dx (h 0 7))) rfl ?_
    exact mj_rI C N dX7_told_103
  refine mj_tcase C 3 104 dX7_told_1 (by decide) (by decide) rfl (by decide) ?_ ?_
  · refine mj_aload_n C 0 dX7_told_104 (i := 0) rfl rfl ?_
    refine mj_getM C ff_X7_58 dX7_told_105 sh_0 rfl ?_
    refine mj_getI C ff_X7_110 dX7_told_108 (cn_o (cnt_dx (h 0 7))) rfl ?_
    exact mj_rI C N dX7_told_111
  refine mj_tcase C 4 112 dX7_told_1 (by decide) (by decide) rfl (by decide) ?_ ?_
  · refine mj_aload_n C 0 dX7_told_112 (i := 0) rfl rfl ?_
    refine mj_getM C ff_X7_58 dX7_told_113 sh_0 rfl ?_
    refine mj_getI C ff_X7_113 dX7_told_116 (cn_o (cnt_dx (h 0 7))) rfl ?_
    exact mj_rI C N dX7_told_119
  refine mj_tcase C 5 120 dX7_told_1 (by decide) (by decide) rfl (by decide) ?_ ?_
  · refine mj_aload_n C 0 dX7_told_120 (i := 0) rfl rfl ?_
    refine mj_getM C ff_X7_58 dX7_told_121 sh_0 rfl ?_
    refine mj_getI C ff_X7_116 dX7_told_124 (cn_o (cnt_dx (h 0 7))) rfl ?_
    exact mj_rI C N dX7_told_127
  refine mj_tcase C 6 128 dX7_told_1 (by decide) (by decide) rfl (by decide) ?_ ?_
  · refine mj_aload_n C 0 dX7_told_128 (i := 0) rfl rfl ?_
    refine mj_getR C ff_X7_10 dX7_told_129 sh_0 rfl ?_
    refine mj_getI C ff_X7_67 dX7_told_132 sh_1 rfl ?_
    exact mj_rI C N dX7_told_135
  refine mj_tcase C 7 136 dX7_told_1 (by decide) (by decide) rfl (by decide) ?_ ?_
  · refine mj_aload_n C 0 dX7_told_136 (i := 0) rfl rfl ?_
    refine mj_getR C ff_X7_19 dX7_told_137 sh_0 rfl ?_
    refine mj_getI C ff_X7_119 dX7_told_140 (ps_o ps_13) rfl ?_
    exact mj_rI C N dX7_told_143
  refine mj_tcase C 8 144 dX7_told_1 (by decide) (by decide) rfl (by decide) ?_ ?_
  · refine mj_aload_n C 0 dX7_told_144 (i := 0) rfl rfl ?_
    refine mj_vI C my_X7_inTheCountry mv_X7_122 dX7_told_145 sh_0 rfl (fun a hF => ctX7_inTheCountry K h   hF) (by decide) (by decide) rfl rfl (Nat.le_of_ble_eq_true rfl) (fun r_1 => ?_)
    exact mj_rI C N dX7_told_148
  refine mj_tcase C 9 149 dX7_told_1 (by decide) (by decide) rfl (by decide) ?_ ?_
  · refine mj_aload_n C 0 dX7_told_149 (i := 0) rfl rfl ?_
    refine mj_getR C ff_X7_19 dX7_told_150 sh_0 rfl ?_
    refine mj_getI C ff_X7_126 dX7_told_153 (ps_o ps_13) rfl ?_
    exact mj_rI C N dX7_told_156
  refine mj_tcase C 10 157 dX7_told_1 (by decide) (by decide) rfl (by decide) ?_ ?_
  · refine mj_aload_n C 0 dX7_told_157 (i := 0) rfl rfl ?_
    refine mj_vI C my_X7_stuckOnes mv_X7_129 dX7_told_158 sh_0 rfl (fun a hF => ctX7_stuckOnes K h   hF) (by decide) (by decide) rfl rfl (Nat.le_of_ble_eq_true rfl) (fun r_2 => ?_)
    exact mj_rI C N dX7_told_161
  refine mj_tcase C 11 162 dX7_told_1 (by decide) (by decide) rfl (by decide) ?_ ?_
  · refine mj_aload_n C 0 dX7_told_162 (i := 0) rfl rfl ?_
    refine mj_getR C ff_X7_19 dX7_told_163 sh_0 rfl ?_
    refine mj_getI C ff_X7_132 dX7_told_166 (ps_o ps_13) rfl ?_
    exact mj_rI C N dX7_told_169
  refine mj_tcase C 12 170 dX7_told_1 (by decide) (by decide) rfl (by decide) ?_ ?_
  · refine mj_aload_n C 0 dX7_told_170 (i := 0) rfl rfl ?_
    refine mj_getR C ff_X7_19 dX7_told_171 sh_0 rfl ?_
    refine mj_getI C ff_X7_135 dX7_told_174 (ps_o ps_13) rfl ?_
    exact mj_rI C N dX7_told_177
  refine mj_tcase C 13 178 dX7_told_1 (by decide) (by decide) rfl (by decide) ?_ ?_
  · refine mj_aload_n C 0 dX7_told_178 (i := 0) rfl rfl ?_
    refine mj_getR C ff_X7_40 dX7_told_179 sh_0 rfl ?_
    refine mj_getI C ff_X7_96 dX7_told_182 sh_65 rfl ?_
    exact mj_rI C N dX7_told_185
  refine mj_tcase C 14 186 dX7_told_1 (by decide) (by decide) rfl (by decide) ?_ ?_
  · refine mj_aload_n C 0 dX7_told_186 (i := 0) rfl rfl ?_
    refine mj_getR C ff_X7_47 dX7_told_187 sh_0 rfl ?_
    refine mj_getI C ff_X7_97 dX7_told_190 sh_70 rfl ?_
    exact mj_rI C N dX7_told_193
  refine mj_tcase C 15 194 dX7_told_1 (by decide) (by decide) rfl (by decide) ?_ ?_
  · refine mj_aload_n C 0 dX7_told_194 (i := 0) rfl rfl ?_
    refine mj_getR C ff_X7_26 dX7_told_195 sh_0 rfl ?_
    refine mj_getI C ff_X7_90 dX7_told_198 sh_15 rfl ?_
    exact mj_rI C N dX7_told_201
  refine mj_tdflt2 C 202 16 dX7_told_1 (by decide) (by decide) (by decide) ?_
  refine mj_ldc C kc_X7_62 dX7_told_202 ?_
  exact mj_rI C N dX7_told_204
noncomputable def fX7_size (h : Mm) (l1 : Int32) : Option (Int32) := md_bd (fX1_isIdea h (md_dx (h 0 7)) l1) (fun r_1 => md_bd ((if r_1 = true then md_ck (md_in l1 8) (some (h ((md_dx (h 0 7)) + 1) (l1).toNatClampNeg)) else some (-1000000001 : Int32))) (fun (v_2 : Int32) => some v_2))
set_option maxRecDepth 100000 in
set_option maxHeartbeats 4000000 in
theorem ctX7_size (K : Kx) (h : Mm) (l1 : Int32) {a : Int32} (hF : fX7_size h l1 = some a) : Mt K yX7_size cX7_size 2 (some .int) 1 21 SHc [rf K 0, .int l1] h (some (.int a)) h := by
  refine Mt.of hF [(0, rf K 0), (1, .int l1)] (by decide) (Nat.le_of_ble_eq_true rfl) rfl (fun Y C N => ?_)
  have C : Cx K Y (0, 0) cX7_size RX7 2 1 21 := C
  unfold fX7_size
  refine mj_aload_n C 0 dX7_size_0 (i := 0) rfl rfl ?_
  refine mj_getM C ff_X7_58 dX7_size_1 sh_0 rfl ?_
  refine mj_iload_n C 1 dX7_size_4 (i := 1) rfl rfl ?_
  refine mj_vB C my_X1_isIdea mv_X7_138 dX7_size_5 (cn_o (cnt_dx (h 0 7))) rfl (fun a hF => ctX1_isIdea K h (md_dx (h 0 7)) l1 (cnt_dx (h 0 7)) hF) (by decide) (by decide) rfl rfl (Nat.le_of_ble_eq_true rfl) (fun r_1 => ?_)
  refine mj_phi1 25 (fun (v_2 : Int32) => []) (fun (v_2 : Int32) => [.int v_2]) (fun (v_2 : Int32) => h) (fun P' kj_3 => ?_) (fun v_2 => ?_)
  · refine mj_b_eq C 23 dX7_size_8 (by decide) ?_ ?_
    · refine mj_ldc C kc_X7_144 dX7_size_23 ?_
      exact mj_sub [] rfl (mj_some (kj_3 (-1000000001 : Int32)))
    · refine mj_aload_n C 0 dX7_size_11 (i := 0) rfl rfl ?_
      refine mj_getM C ff_X7_58 dX7_size_12 sh_0 rfl ?_
      refine mj_getR C ff_X7_141 dX7_size_15 (cn_o (cnt_dx (h 0 7))) rfl ?_
      refine mj_iload_n C 1 dX7_size_18 (i := 1) rfl rfl ?_
      refine mj_iald C dX7_size_19 (cn_4 (cnt_dx (h 0 7))) ?_
      refine mj_goto C 25 dX7_size_20 (by decide) ?_
      exact mj_sub [] rfl (mj_some (kj_3 (h ((md_dx (h 0 7)) + 1) (l1).toNatClampNeg)))
  · exact mj_rI C N dX7_size_25
noncomputable def fX7_dutyOf (h : Mm) (l1 : Int32) : Option (Int32) := md_bd (fX4_mindOf h 13 l1) (fun r_1 => md_bd (fX7_inTheCountry h) (fun r_2 => md_bd (fX1_duty h (md_dx (h 0 7)) r_1 r_2) (fun r_3 => some r_3)))
set_option maxRecDepth 100000 in
set_option maxHeartbeats 4000000 in
theorem ctX7_dutyOf (K : Kx) (h : Mm) (l1 : Int32) {a : Int32} (hF : fX7_dutyOf h l1 = some a) : Mt K yX7_dutyOf cX7_dutyOf 2 (some .int) 3 68 SHc [rf K 0, .int l1] h (some (.int a)) h := by
  refine Mt.of hF [(0, rf K 0), (1, .int l1)] (by decide) (Nat.le_of_ble_eq_true rfl) rfl (fun Y C N => ?_)
  have C : Cx K Y (0, 0) cX7_dutyOf RX7 2 3 68 := C
  unfold fX7_dutyOf
  refine mj_aload_n C 0 dX7_dutyOf_0 (i := 0) rfl rfl ?_
  refine mj_getM C ff_X7_58 dX7_dutyOf_1 sh_0 rfl ?_
  refine mj_aload_n C 0 dX7_dutyOf_4 (i := 0) rfl rfl ?_
  refine mj_getR C ff_X7_19 dX7_dutyOf_5 sh_0 rfl ?_
  refine mj_iload_n C 1 dX7_dutyOf_8 (i := 1) rfl rfl ?_
  refine mj_vI C my_X4_mindOf mv_X7_148 dX7_dutyOf_9 (ps_o ps_13) rfl (fun a hF => ctX4_mindOf K h 13 l1 ps_13 hF) (by decide) (by decide) rfl rfl (Nat.le_of_ble_eq_true rfl) (fun r_1 => ?_)
  refine mj_aload_n C 0 dX7_dutyOf_12 (i := 0) rfl rfl ?_
  refine mj_vI C my_X7_inTheCountry mv_X7_122 dX7_dutyOf_13 sh_0 rfl (fun a hF => ctX7_inTheCountry K h   hF) (by decide) (by decide) rfl rfl (Nat.le_of_ble_eq_true rfl) (fun r_2 => ?_)
  refine mj_vI C my_X1_duty mv_X7_213 dX7_dutyOf_16 (cn_o (cnt_dx (h 0 7))) rfl (fun a hF => ctX1_duty K h (md_dx (h 0 7)) r_1 r_2 (cnt_dx (h 0 7)) hF) (by decide) (by decide) rfl rfl (Nat.le_of_ble_eq_true rfl) (fun r_3 => ?_)
  exact mj_rI C N dX7_dutyOf_19
noncomputable def fX7_traveller (h : Mm) (l1 : Int32) (l2 : Int32) : Option (Int32) := md_bd (fX1_isTraveller h (md_dx (h 0 7)) l1) (fun r_1 => (if r_1 = true then (if l2 = 0 then md_bd (fX4_mindOf h 13 l1) (fun r_2 => some r_2) else if l2 = 1 then md_bd (fX4_mindOf h 13 l1) (fun r_3 => md_bd (fX1_sizeOf h (md_dx (h 0 7)) r_3) (fun r_4 => some r_4)) else if l2 = 2 then md_bd (fX7_dutyOf h l1) (fun r_5 => some r_5) else if l2 = 3 then md_bd (fX4_isGone h 13 l1) (fun r_6 => md_bd ((if r_6 = true then some true else some false)) (fun (v_7 : Bool) => some (md_bi v_7))) else some (-1000000002 : Int32)) else some (-1000000001 : Int32)))
set_option maxRecDepth 100000 in
set_option maxHeartbeats 4000000 in
theorem ctX7_traveller (K : Kx) (h : Mm) (l1 : Int32) (l2 : Int32) {a : Int32} (hF : fX7_traveller h l1 l2 = some a) : Mt K yX7_traveller cX7_traveller 3 (some .int) 4 89 SHc [rf K 0, .int l1, .int l2] h (some (.int a)) h := by
  refine Mt.of hF [(0, rf K 0), (1, .int l1), (2, .int l2)] (by decide) (Nat.le_of_ble_eq_true rfl) rfl (fun Y C N => ?_)
  have C : Cx K Y (0, 0) cX7_traveller RX7 3 4 89 := C
  unfold fX7_traveller
  refine mj_aload_n C 0 dX7_traveller_0 (i := 0) rfl rfl ?_
  refine mj_getM C ff_X7_58 dX7_traveller_1 sh_0 rfl ?_
  refine mj_iload_n C 1 dX7_traveller_4 (i := 1) rfl rfl ?_
  refine mj_vB C my_X1_isTraveller mv_X7_145 dX7_traveller_5 (cn_o (cnt_dx (h 0 7))) rfl (fun a hF => ctX1_isTraveller K h (md_dx (h 0 7)) l1 (cnt_dx (h 0 7)) hF) (by decide) (by decide) rfl rfl (Nat.le_of_ble_eq_true rfl) (fun r_1 => ?_)
  refine mj_b_ne C 14 dX7_traveller_8 (by decide) ?_ ?_
  · refine mj_iload_n C 2 dX7_traveller_14 (i := 2) rfl rfl ?_
    refine mj_sw0 ?_
    refine mj_tcase C 0 44 dX7_traveller_15 (by decide) (by decide) rfl (by decide) ?_ ?_
    · refine mj_aload_n C 0 dX7_traveller_44 (i := 0) rfl rfl ?_
      refine mj_getR C ff_X7_19 dX7_traveller_45 sh_0 rfl ?_
      refine mj_iload_n C 1 dX7_traveller_48 (i := 1) rfl rfl ?_
      refine mj_vI C my_X4_mindOf mv_X7_148 dX7_traveller_49 (ps_o ps_13) rfl (fun a hF => ctX4_mindOf K h 13 l1 ps_13 hF) (by decide) (by decide) rfl rfl (Nat.le_of_ble_eq_true rfl) (fun r_2 => ?_)
      exact mj_rI C N dX7_traveller_52
    refine mj_tcase C 1 53 dX7_traveller_15 (by decide) (by decide) rfl (by decide) ?_ ?_
    · refine mj_aload_n C 0 dX7_traveller_53 (i := 0) rfl rfl ?_
      refine mj_getM C ff_X7_58 dX7_traveller_54 sh_0 rfl ?_
      refine mj_aload_n C 0 dX7_traveller_57 (i := 0) rfl rfl ?_
      refine mj_getR C ff_X7_19 dX7_traveller_58 sh_0 rfl ?_
      refine mj_iload_n C 1 dX7_traveller_61 (i := 1) rfl rfl ?_
      refine mj_vI C my_X4_mindOf mv_X7_148 dX7_traveller_62 (ps_o ps_13) rfl (fun a hF => ctX4_mindOf K h 13 l1 ps_13 hF) (by decide) (by decide) rfl rfl (Nat.le_of_ble_eq_true rfl) (fun r_3 => ?_)
      refine mj_vI C my_X1_sizeOf mv_X7_152 dX7_traveller_65 (cn_o (cnt_dx (h 0 7))) rfl (fun a hF => ctX1_sizeOf K h (md_dx (h 0 7)) r_3 (cnt_dx (h 0 7)) hF) (by decide) (by decide) rfl rfl (Nat.le_of_ble_eq_true rfl) (fun r_4 => ?_)
      exact mj_rI C N dX7_traveller_68
    refine mj_tcase C 2 69 dX7_traveller_15 (by decide) (by decide) rfl (by decide) ?_ ?_
    · refine mj_aload_n C 0 dX7_traveller_69 (i := 0) rfl rfl ?_
      refine mj_iload_n C 1 dX7_traveller_70 (i := 1) rfl rfl ?_
      refine mj_vI C my_X7_dutyOf mv_X7_155 dX7_traveller_71 sh_0 rfl (fun a hF => ctX7_dutyOf K h l1  hF) (by decide) (by decide) rfl rfl (Nat.le_of_ble_eq_true rfl) (fun r_5 => ?_)
      exact mj_rI C N dX7_traveller_74
    refine mj_tcase C 3 75 dX7_traveller_15 (by decide) (by decide) rfl (by decide) ?_ ?_
    · refine mj_aload_n C 0 dX7_traveller_75 (i := 0) rfl rfl ?_
      refine mj_getR C ff_X7_19 dX7_traveller_76 sh_0 rfl ?_
      refine mj_iload_n C 1 dX7_traveller_79 (i := 1) rfl rfl ?_
      refine mj_vB C my_X4_isGone mv_X7_158 dX7_traveller_80 (ps_o ps_13) rfl (fun a hF => ctX4_isGone K h 13 l1 ps_13 hF) (by decide) (by decide) rfl rfl (Nat.le_of_ble_eq_true rfl) (fun r_6 => ?_)
      refine mj_phi1 91 (fun (v_7 : Bool) => []) (fun (v_7 : Bool) => [.int (md_bi v_7)]) (fun (v_7 : Bool) => h) (fun P' kj_8 => ?_) (fun v_7 => ?_)
      · refine mj_b_eq C 90 dX7_traveller_83 (by decide) ?_ ?_
        · refine mj_iconst C (v := 0) dX7_traveller_90 rfl ?_
          exact mj_sub [] rfl (mj_some (kj_8 false))
        · refine mj_iconst C (v := 1) dX7_traveller_86 rfl ?_
          refine mj_goto C 91 dX7_traveller_87 (by decide) ?_
          exact mj_sub [] rfl (mj_some (kj_8 true))
      · exact mj_rI C N dX7_traveller_91
    refine mj_tdflt2 C 92 4 dX7_traveller_15 (by decide) (by decide) (by decide) ?_
    refine mj_ldc C kc_X7_62 dX7_traveller_92 ?_
    exact mj_rI C N dX7_traveller_94
  · refine mj_ldc C kc_X7_144 dX7_traveller_11 ?_
    exact mj_rI C N dX7_traveller_13
noncomputable def fX7_letPass (h : Mm) (l1 : Int32) : Option (Int32 × Mm) := md_bd (fX7_dutyOf h l1) (fun r_1 => md_lt (md_up h 13 3 (if (999999 : Int32) < ((h 13 3) + r_1) then (999999 : Int32) else ((h 13 3) + r_1))) (fun h_2 : Mm => md_bd (fX4_leaves h_2 13 l1 true) (fun h_3 => some (r_1, h_3))))
set_option maxRecDepth 100000 in
set_option maxHeartbeats 4000000 in
theorem ctX7_letPass (K : Kx) (h : Mm) (l1 : Int32) {a : Int32 × Mm} (hF : fX7_letPass h l1 = some a) : Mt K yX7_letPass cX7_letPass 3 (some .int) 4 89 SHc [rf K 0, .int l1] h (some (.int a.1)) a.2 := by
  refine Mt.of hF [(0, rf K 0), (1, .int l1)] (by decide) (Nat.le_of_ble_eq_true rfl) rfl (fun Y C N => ?_)
  have C : Cx K Y (0, 0) cX7_letPass RX7 3 4 89 := C
  unfold fX7_letPass
  refine mj_aload_n C 0 dX7_letPass_0 (i := 0) rfl rfl ?_
  refine mj_iload_n C 1 dX7_letPass_1 (i := 1) rfl rfl ?_
  refine mj_vI C my_X7_dutyOf mv_X7_155 dX7_letPass_2 sh_0 rfl (fun a hF => ctX7_dutyOf K h l1  hF) (by decide) (by decide) rfl rfl (Nat.le_of_ble_eq_true rfl) (fun r_1 => ?_)
  refine mj_istore_n C [(2, .int r_1), (0, rf K 0), (1, .int l1)] dX7_letPass_5 (i := 2) rfl (by decide) rfl ?_
  refine mj_aload_n C 1 dX7_letPass_6 (i := 0) rfl rfl ?_
  refine mj_getR C ff_X7_19 dX7_letPass_7 sh_0 rfl ?_
  refine mj_aload_n C 1 dX7_letPass_10 (i := 0) rfl rfl ?_
  refine mj_getR C ff_X7_19 dX7_letPass_11 sh_0 rfl ?_
  refine mj_getI C ff_X7_132 dX7_letPass_14 (ps_o ps_13) rfl ?_
  refine mj_iload_n C 0 dX7_letPass_17 (i := 2) rfl rfl ?_
  refine mj_iadd C dX7_letPass_18 ?_
  refine mj_ldc C kc_X7_188 dX7_letPass_19 ?_
  refine mj_mmin C ml_X7_189 mm_min.1 mm_min.2.1 mm_min.2.2 (by decide) (Nat.le_of_ble_eq_true rfl) dX7_letPass_21 ?_
  refine mj_putL C fp_X7_132 dX7_letPass_24 (ps_o ps_13) rfl rfl rfl (fun h_2 => ?_)
  refine mj_aload_n C 1 dX7_letPass_27 (i := 0) rfl rfl ?_
  refine mj_getR C ff_X7_19 dX7_letPass_28 sh_0 rfl ?_
  refine mj_iload_n C 2 dX7_letPass_31 (i := 1) rfl rfl ?_
  refine mj_iconst C (v := 1) dX7_letPass_32 rfl ?_
  refine mj_vM C my_X4_leaves mv_X7_172 dX7_letPass_33 (ps_o ps_13) rfl (fun a hF => ctX4_leaves K h_2 13 l1 true ps_13 hF) (by decide) (by decide) rfl rfl (Nat.le_of_ble_eq_true rfl) (fun h_3 => ?_)
  refine mj_iload_n C 0 dX7_letPass_36 (i := 2) rfl rfl ?_
  exact mj_rIM C N dX7_letPass_37
noncomputable def fX7_pass (h : Mm) (l1 : Int32) : Option (Int32 × Mm) := md_bd (fX1_isTraveller h (md_dx (h 0 7)) l1) (fun r_1 => (if r_1 = true then md_bd (fX4_isGone h 13 l1) (fun r_2 => (if r_2 = true then some ((-1000000003 : Int32), h) else md_bd (fX4_mindOf h 13 l1) (fun r_3 => md_bd (fX1_isStuck h (md_dx (h 0 7)) r_3) (fun r_4 => (if r_4 = true then some ((-1000000003 : Int32), h) else md_bd (fX3_remember h 13) (fun h_5 => md_b2 (fX7_letPass h_5 l1) (fun r_6 h_7 => some (r_6, h_7)))))))) else some ((-1000000001 : Int32), h)))
set_option maxRecDepth 100000 in
set_option maxHeartbeats 4000000 in
theorem ctX7_pass (K : Kx) (h : Mm) (l1 : Int32) {a : Int32 × Mm} (hF : fX7_pass h l1 = some a) : Mt K yX7_pass cX7_pass 2 (some .int) 5 111 SHc [rf K 0, .int l1] h (some (.int a.1)) a.2 := by
  refine Mt.of hF [(0, rf K 0), (1, .int l1)] (by decide) (Nat.le_of_ble_eq_true rfl) rfl (fun Y C N => ?_)
  have C : Cx K Y (0, 0) cX7_pass RX7 2 5 111 := C
  unfold fX7_pass
  refine mj_aload_n C 0 dX7_pass_0 (i := 0) rfl rfl ?_
  refine mj_getM C ff_X7_58 dX7_pass_1 sh_0 rfl ?_
  refine mj_iload_n C 1 dX7_pass_4 (i := 1) rfl rfl ?_
  refine mj_vB C my_X1_isTraveller mv_X7_145 dX7_pass_5 (cn_o (cnt_dx (h 0 7))) rfl (fun a hF => ctX1_isTraveller K h (md_dx (h 0 7)) l1 (cnt_dx (h 0 7)) hF) (by decide) (by decide) rfl rfl (Nat.le_of_ble_eq_true rfl) (fun r_1 => ?_)
  refine mj_b_ne C 14 dX7_pass_8 (by decide) ?_ ?_
  · refine mj_aload_n C 0 dX7_pass_14 (i := 0) rfl rfl ?_
    refine mj_getR C ff_X7_19 dX7_pass_15 sh_0 rfl ?_
    refine mj_iload_n C 1 dX7_pass_18 (i := 1) rfl rfl ?_
    refine mj_vB C my_X4_isGone mv_X7_158 dX7_pass_19 (ps_o ps_13) rfl (fun a hF => ctX4_isGone K h 13 l1 ps_13 hF) (by decide) (by decide) rfl rfl (Nat.le_of_ble_eq_true rfl) (fun r_2 => ?_)
    refine mj_b_ne C 43 dX7_pass_22 (by decide) ?_ ?_
    · refine mj_ldc C kc_X7_164 dX7_pass_43 ?_
      exact mj_rIM C N dX7_pass_45
    · refine mj_aload_n C 0 dX7_pass_25 (i := 0) rfl rfl ?_
      refine mj_getM C ff_X7_58 dX7_pass_26 sh_0 rfl ?_
      refine mj_aload_n C 0 dX7_pass_29 (i := 0) rfl rfl ?_
      refine mj_getR C ff_X7_19 dX7_pass_30 sh_0 rfl ?_
      refine mj_iload_n C 1 dX7_pass_33 (i := 1) rfl rfl ?_
      refine mj_vI C my_X4_mindOf mv_X7_148 dX7_pass_34 (ps_o ps_13) rfl (fun a hF => ctX4_mindOf K h 13 l1 ps_13 hF) (by decide) (by decide) rfl rfl (Nat.le_of_ble_eq_true rfl) (fun r_3 => ?_)
      refine mj_vB C my_X1_isStuck mv_X7_161 dX7_pass_37 (cn_o (cnt_dx (h 0 7))) rfl (fun a hF => ctX1_isStuck K h (md_dx (h 0 7)) r_3 (cnt_dx (h 0 7)) hF) (by decide) (by decide) rfl rfl (Nat.le_of_ble_eq_true rfl) (fun r_4 => ?_)
      refine mj_b_eq C 46 dX7_pass_40 (by decide) ?_ ?_
      · refine mj_aload_n C 0 dX7_pass_46 (i := 0) rfl rfl ?_
        refine mj_getR C ff_X7_26 dX7_pass_47 sh_0 rfl ?_
        refine mj_aload_n C 0 dX7_pass_50 (i := 0) rfl rfl ?_
        refine mj_getR C ff_X7_19 dX7_pass_51 sh_0 rfl ?_
        refine mj_vM C my_X3_remember mv_X7_165 dX7_pass_54 sh_15 rfl (fun a hF => ctX3_remember K h 13 ps_13 hF) (by decide) (by decide) rfl rfl (Nat.le_of_ble_eq_true rfl) (fun h_5 => ?_)
        refine mj_aload_n C 0 dX7_pass_57 (i := 0) rfl rfl ?_
        refine mj_iload_n C 1 dX7_pass_58 (i := 1) rfl rfl ?_
        refine mj_vIM C my_X7_letPass mv_X7_169 dX7_pass_59 sh_0 rfl (fun a hF => ctX7_letPass K h_5 l1  hF) (by decide) (by decide) rfl rfl (Nat.le_of_ble_eq_true rfl) (fun r_6 h_7 => ?_)
        exact mj_rIM C N dX7_pass_62
      · refine mj_ldc C kc_X7_164 dX7_pass_43 ?_
        exact mj_rIM C N dX7_pass_45
  · refine mj_ldc C kc_X7_144 dX7_pass_11 ?_
    exact mj_rIM C N dX7_pass_13
noncomputable def fX7_goRound (h : Mm) (l1 : Int32) (l2 : Bool) : Option (Int32 × Mm) := md_bd (fX1_isTraveller h (md_dx (h 0 7)) l1) (fun r_1 => (if r_1 = true then md_bd (fX4_isGone h 13 l1) (fun r_2 => (if r_2 = true then some ((-1000000003 : Int32), h) else md_bd ((if l2 = true then md_bd (fX4_mindOf h 13 l1) (fun r_5 => md_bd (fX7_inTheCountry h) (fun r_6 => (if (r_5 &&& (r_6 ^^^ (-1 : Int32))) = 0 then some false else some true))) else some false)) (fun (v_3 : Bool) => md_bd (fX3_remember h 13) (fun h_7 => md_bd (fX4_leaves h_7 13 l1 l2) (fun h_8 => md_bd ((if v_3 = true then some true else some false)) (fun (v_9 : Bool) => some ((md_bi v_9), h_8))))))) else some ((-1000000001 : Int32), h)))
set_option maxRecDepth 100000 in
set_option maxHeartbeats 4000000 in
theorem ctX7_goRound (K : Kx) (h : Mm) (l1 : Int32) (l2 : Bool) {a : Int32 × Mm} (hF : fX7_goRound h l1 l2 = some a) : Mt K yX7_goRound cX7_goRound 4 (some .int) 3 62 SHc [rf K 0, .int l1, .int (md_bi l2)] h (some (.int a.1)) a.2 := by
  refine Mt.of hF [(0, rf K 0), (1, .int l1), (2, .int (md_bi l2))] (by decide) (Nat.le_of_ble_eq_true rfl) rfl (fun Y C N => ?_)
  have C : Cx K Y (0, 0) cX7_goRound RX7 4 3 62 := C
  unfold fX7_goRound
  refine mj_aload_n C 0 dX7_goRound_0 (i := 0) rfl rfl ?_
  refine mj_getM C ff_X7_58 dX7_goRound_1 sh_0 rfl ?_
  refine mj_iload_n C 1 dX7_goRound_4 (i := 1) rfl rfl ?_
  refine mj_vB C my_X1_isTraveller mv_X7_145 dX7_goRound_5 (cn_o (cnt_dx (h 0 7))) rfl (fun a hF => ctX1_isTraveller K h (md_dx (h 0 7)) l1 (cnt_dx (h 0 7)) hF) (by decide) (by decide) rfl rfl (Nat.le_of_ble_eq_true rfl) (fun r_1 => ?_)
  refine mj_b_ne C 14 dX7_goRound_8 (by decide) ?_ ?_
  · refine mj_aload_n C 0 dX7_goRound_14 (i := 0) rfl rfl ?_
    refine mj_getR C ff_X7_19 dX7_goRound_15 sh_0 rfl ?_
    refine mj_iload_n C 1 dX7_goRound_18 (i := 1) rfl rfl ?_
    refine mj_vB C my_X4_isGone mv_X7_158 dX7_goRound_19 (ps_o ps_13) rfl (fun a hF => ctX4_isGone K h 13 l1 ps_13 hF) (by decide) (by decide) rfl rfl (Nat.le_of_ble_eq_true rfl) (fun r_2 => ?_)
    refine mj_b_eq C 28 dX7_goRound_22 (by decide) ?_ ?_
    · refine mj_iload_n C 2 dX7_goRound_28 (i := 2) rfl rfl ?_
      refine mj_phi1 55 (fun (v_3 : Bool) => [(0, rf K 0), (1, .int l1), (2, .int (md_bi l2))]) (fun (v_3 : Bool) => [.int (md_bi v_3)]) (fun (v_3 : Bool) => h) (fun P' kj_4 => ?_) (fun v_3 => ?_)
      · refine mj_b_eq C 54 dX7_goRound_29 (by decide) ?_ ?_
        · refine mj_iconst C (v := 0) dX7_goRound_54 rfl ?_
          exact mj_sub [0, 1, 2] rfl (mj_some (kj_4 false))
        · refine mj_aload_n C 0 dX7_goRound_32 (i := 0) rfl rfl ?_
          refine mj_getR C ff_X7_19 dX7_goRound_33 sh_0 rfl ?_
          refine mj_iload_n C 1 dX7_goRound_36 (i := 1) rfl rfl ?_
          refine mj_vI C my_X4_mindOf mv_X7_148 dX7_goRound_37 (ps_o ps_13) rfl (fun a hF => ctX4_mindOf K h 13 l1 ps_13 hF) (by decide) (by decide) rfl rfl (Nat.le_of_ble_eq_true rfl) (fun r_5 => ?_)
          refine mj_aload_n C 0 dX7_goRound_40 (i := 0) rfl rfl ?_
          refine mj_vI C my_X7_inTheCountry mv_X7_122 dX7_goRound_41 sh_0 rfl (fun a hF => ctX7_inTheCountry K h   hF) (by decide) (by decide) rfl rfl (Nat.le_of_ble_eq_true rfl) (fun r_6 => ?_)
          refine mj_iconst C (v := -1) dX7_goRound_44 rfl ?_
          refine mj_ixor C dX7_goRound_45 ?_
          refine mj_iand C dX7_goRound_46 ?_
          refine mj_if_eq C 54 dX7_goRound_47 (by decide) ?_ ?_
          · refine mj_iconst C (v := 0) dX7_goRound_54 rfl ?_
            exact mj_sub [0, 1, 2] rfl (mj_some (kj_4 false))
          · refine mj_iconst C (v := 1) dX7_goRound_50 rfl ?_
            refine mj_goto C 55 dX7_goRound_51 (by decide) ?_
            exact mj_sub [0, 1, 2] rfl (mj_some (kj_4 true))
      · refine mj_istore_n C [(3, .int (md_bi v_3)), (0, rf K 0), (1, .int l1), (2, .int (md_bi l2))] dX7_goRound_55 (i := 3) rfl (by decide) rfl ?_
        refine mj_aload_n C 1 dX7_goRound_56 (i := 0) rfl rfl ?_
        refine mj_getR C ff_X7_26 dX7_goRound_57 sh_0 rfl ?_
        refine mj_aload_n C 1 dX7_goRound_60 (i := 0) rfl rfl ?_
        refine mj_getR C ff_X7_19 dX7_goRound_61 sh_0 rfl ?_
        refine mj_vM C my_X3_remember mv_X7_165 dX7_goRound_64 sh_15 rfl (fun a hF => ctX3_remember K h 13 ps_13 hF) (by decide) (by decide) rfl rfl (Nat.le_of_ble_eq_true rfl) (fun h_7 => ?_)
        refine mj_aload_n C 1 dX7_goRound_67 (i := 0) rfl rfl ?_
        refine mj_getR C ff_X7_19 dX7_goRound_68 sh_0 rfl ?_
        refine mj_iload_n C 2 dX7_goRound_71 (i := 1) rfl rfl ?_
        refine mj_iload_n C 3 dX7_goRound_72 (i := 2) rfl rfl ?_
        refine mj_vM C my_X4_leaves mv_X7_172 dX7_goRound_73 (ps_o ps_13) rfl (fun a hF => ctX4_leaves K h_7 13 l1 l2 ps_13 hF) (by decide) (by decide) rfl rfl (Nat.le_of_ble_eq_true rfl) (fun h_8 => ?_)
        refine mj_iload_n C 0 dX7_goRound_76 (i := 3) rfl rfl ?_
        refine mj_phi1 85 (fun (v_9 : Bool) => []) (fun (v_9 : Bool) => [.int (md_bi v_9)]) (fun (v_9 : Bool) => h_8) (fun P' kj_10 => ?_) (fun v_9 => ?_)
        · refine mj_b_eq C 84 dX7_goRound_77 (by decide) ?_ ?_
          · refine mj_iconst C (v := 0) dX7_goRound_84 rfl ?_
            exact mj_sub [] rfl (mj_some (kj_10 false))
          · refine mj_iconst C (v := 1) dX7_goRound_80 rfl ?_
            refine mj_goto C 85 dX7_goRound_81 (by decide) ?_
            exact mj_sub [] rfl (mj_some (kj_10 true))
        · exact mj_rIM C N dX7_goRound_85
    · refine mj_ldc C kc_X7_164 dX7_goRound_25 ?_
      exact mj_rIM C N dX7_goRound_27
  · refine mj_ldc C kc_X7_144 dX7_goRound_11 ?_
    exact mj_rIM C N dX7_goRound_13
noncomputable def fX7_afterTalk (h : Mm) (l0 : Int32) (l1 : Int32) (l2 : Int32) : Option (Int32) := some ((l0 &&& (((1 : Int32) <<< (l1 &&& 31)) ^^^ (-1 : Int32))) ||| ((1 : Int32) <<< (l2 &&& 31)))
set_option maxRecDepth 100000 in
set_option maxHeartbeats 4000000 in
theorem ctX7_afterTalk (K : Kx) (h : Mm) (l0 : Int32) (l1 : Int32) (l2 : Int32) {a : Int32} (hF : fX7_afterTalk h l0 l1 l2 = some a) : Mt K yX7_afterTalk cX7_afterTalk 3 (some .int) 0 0 SHc [.int l0, .int l1, .int l2] h (some (.int a)) h := by
  refine Mt.of hF [(0, .int l0), (1, .int l1), (2, .int l2)] (by decide) (Nat.le_of_ble_eq_true rfl) rfl (fun Y C N => ?_)
  have C : Cx K Y (0, 0) cX7_afterTalk RX7 3 0 0 := C
  unfold fX7_afterTalk
  refine mj_iload_n C 0 dX7_afterTalk_0 (i := 0) rfl rfl ?_
  refine mj_iconst C (v := 1) dX7_afterTalk_1 rfl ?_
  refine mj_iload_n C 1 dX7_afterTalk_2 (i := 1) rfl rfl ?_
  refine mj_ishl C dX7_afterTalk_3 ?_
  refine mj_iconst C (v := -1) dX7_afterTalk_4 rfl ?_
  refine mj_ixor C dX7_afterTalk_5 ?_
  refine mj_iand C dX7_afterTalk_6 ?_
  refine mj_iconst C (v := 1) dX7_afterTalk_7 rfl ?_
  refine mj_iload_n C 2 dX7_afterTalk_8 (i := 2) rfl rfl ?_
  refine mj_ishl C dX7_afterTalk_9 ?_
  refine mj_ior C dX7_afterTalk_10 ?_
  exact mj_rI C N dX7_afterTalk_11
noncomputable def fX7_talk (h : Mm) (l1 : Int32) (l2 : Int32) (l3 : Int32) : Option (Int32 × Mm) := md_bd (fX1_isTraveller h (md_dx (h 0 7)) l1) (fun r_1 => (if r_1 = true then md_bd (fX1_isIdea h (md_dx (h 0 7)) l2) (fun r_2 => (if r_2 = true then md_bd (fX1_isIdea h (md_dx (h 0 7)) l3) (fun r_3 => (if r_3 = true then md_bd (fX1_quickest h (md_dx (h 0 7)) l2 l3) (fun r_4 => md_bd (fX4_isGone h 13 l1) (fun r_5 => (if r_5 = true then some ((-1000000003 : Int32), h) else md_bd (fX4_mindOf h 13 l1) (fun r_6 => (if (r_6 &&& ((1 : Int32) <<< (l2 &&& 31))) = 0 then some ((-1000000003 : Int32), h) else (if r_4 = (-1 : Int32) then some ((-1000000003 : Int32), h) else md_bd (fX3_remember h 13) (fun h_7 => md_bd (fX4_mindOf h_7 13 l1) (fun r_8 => md_bd (fX7_afterTalk h_7 r_8 l2 l3) (fun r_9 => md_bd (fX4_setMind h_7 13 l1 r_9) (fun h_10 => md_lt (md_up h_10 13 4 (if (999999 : Int32) < ((h_10 13 4) + r_4) then (999999 : Int32) else ((h_10 13 4) + r_4))) (fun h_11 : Mm => some (r_4, h_11)))))))))))) else some ((-1000000001 : Int32), h))) else some ((-1000000001 : Int32), h))) else some ((-1000000001 : Int32), h)))
set_option maxRecDepth 100000 in
set_option maxHeartbeats 4000000 in
theorem ctX7_talk (K : Kx) (h : Mm) (l1 : Int32) (l2 : Int32) (l3 : Int32) {a : Int32 × Mm} (hF : fX7_talk h l1 l2 l3 = some a) : Mt K yX7_talk cX7_talk 5 (some .int) 2 43 SHc [rf K 0, .int l1, .int l2, .int l3] h (some (.int a.1)) a.2 := by
  refine Mt.of hF [(0, rf K 0), (1, .int l1), (2, .int l2), (3, .int l3)] (by decide) (Nat.le_of_ble_eq_true rfl) rfl (fun Y C N => ?_)
  have C : Cx K Y (0, 0) cX7_talk RX7 5 2 43 := C
  unfold fX7_talk
  refine mj_aload_n C 0 dX7_talk_0 (i := 0) rfl rfl ?_
  refine mj_getM C ff_X7_58 dX7_talk_1 sh_0 rfl ?_
  refine mj_iload_n C 1 dX7_talk_4 (i := 1) rfl rfl ?_
  refine mj_vB C my_X1_isTraveller mv_X7_145 dX7_talk_5 (cn_o (cnt_dx (h 0 7))) rfl (fun a hF => ctX1_isTraveller K h (md_dx (h 0 7)) l1 (cnt_dx (h 0 7)) hF) (by decide) (by decide) rfl rfl (Nat.le_of_ble_eq_true rfl) (fun r_1 => ?_)
  refine mj_b_eq C 33 dX7_talk_8 (by decide) ?_ ?_
  · refine mj_ldc C kc_X7_144 dX7_talk_33 ?_
    exact mj_rIM C N dX7_talk_35
  · refine mj_aload_n C 0 dX7_talk_11 (i := 0) rfl rfl ?_
    refine mj_getM C ff_X7_58 dX7_talk_12 sh_0 rfl ?_
    refine mj_iload_n C 2 dX7_talk_15 (i := 2) rfl rfl ?_
    refine mj_vB C my_X1_isIdea mv_X7_138 dX7_talk_16 (cn_o (cnt_dx (h 0 7))) rfl (fun a hF => ctX1_isIdea K h (md_dx (h 0 7)) l2 (cnt_dx (h 0 7)) hF) (by decide) (by decide) rfl rfl (Nat.le_of_ble_eq_true rfl) (fun r_2 => ?_)
    refine mj_b_eq C 33 dX7_talk_19 (by decide) ?_ ?_
    · refine mj_ldc C kc_X7_144 dX7_talk_33 ?_
      exact mj_rIM C N dX7_talk_35
    · refine mj_aload_n C 0 dX7_talk_22 (i := 0) rfl rfl ?_
      refine mj_getM C ff_X7_58 dX7_talk_23 sh_0 rfl ?_
      refine mj_iload_n C 3 dX7_talk_26 (i := 3) rfl rfl ?_
      refine mj_vB C my_X1_isIdea mv_X7_138 dX7_talk_27 (cn_o (cnt_dx (h 0 7))) rfl (fun a hF => ctX1_isIdea K h (md_dx (h 0 7)) l3 (cnt_dx (h 0 7)) hF) (by decide) (by decide) rfl rfl (Nat.le_of_ble_eq_true rfl) (fun r_3 => ?_)
      refine mj_b_ne C 36 dX7_talk_30 (by decide) ?_ ?_
      · refine mj_aload_n C 0 dX7_talk_36 (i := 0) rfl rfl ?_
        refine mj_getM C ff_X7_58 dX7_talk_37 sh_0 rfl ?_
        refine mj_iload_n C 2 dX7_talk_40 (i := 2) rfl rfl ?_
        refine mj_iload_n C 3 dX7_talk_41 (i := 3) rfl rfl ?_
        refine mj_vI C my_X1_quickest mv_X7_176 dX7_talk_42 (cn_o (cnt_dx (h 0 7))) rfl (fun a hF => ctX1_quickest K h (md_dx (h 0 7)) l2 l3 (cnt_dx (h 0 7)) hF) (by decide) (by decide) rfl rfl (Nat.le_of_ble_eq_true rfl) (fun r_4 => ?_)
        refine mj_istore C [(4, .int r_4), (0, rf K 0), (1, .int l1), (2, .int l2), (3, .int l3)] dX7_talk_45 (by decide) rfl ?_
        refine mj_aload_n C 1 dX7_talk_47 (i := 0) rfl rfl ?_
        refine mj_getR C ff_X7_19 dX7_talk_48 sh_0 rfl ?_
        refine mj_iload_n C 2 dX7_talk_51 (i := 1) rfl rfl ?_
        refine mj_vB C my_X4_isGone mv_X7_158 dX7_talk_52 (ps_o ps_13) rfl (fun a hF => ctX4_isGone K h 13 l1 ps_13 hF) (by decide) (by decide) rfl rfl (Nat.le_of_ble_eq_true rfl) (fun r_5 => ?_)
        refine mj_b_ne C 79 dX7_talk_55 (by decide) ?_ ?_
        · refine mj_ldc C kc_X7_164 dX7_talk_79 ?_
          exact mj_rIM C N dX7_talk_81
        · refine mj_aload_n C 1 dX7_talk_58 (i := 0) rfl rfl ?_
          refine mj_getR C ff_X7_19 dX7_talk_59 sh_0 rfl ?_
          refine mj_iload_n C 2 dX7_talk_62 (i := 1) rfl rfl ?_
          refine mj_vI C my_X4_mindOf mv_X7_148 dX7_talk_63 (ps_o ps_13) rfl (fun a hF => ctX4_mindOf K h 13 l1 ps_13 hF) (by decide) (by decide) rfl rfl (Nat.le_of_ble_eq_true rfl) (fun r_6 => ?_)
          refine mj_iconst C (v := 1) dX7_talk_66 rfl ?_
          refine mj_iload_n C 3 dX7_talk_67 (i := 2) rfl rfl ?_
          refine mj_ishl C dX7_talk_68 ?_
          refine mj_iand C dX7_talk_69 ?_
          refine mj_if_eq C 79 dX7_talk_70 (by decide) ?_ ?_
          · refine mj_ldc C kc_X7_164 dX7_talk_79 ?_
            exact mj_rIM C N dX7_talk_81
          · refine mj_iload C 0 dX7_talk_73 rfl ?_
            refine mj_iconst C (v := -1) dX7_talk_75 rfl ?_
            refine mj_icmp_ne C 82 dX7_talk_76 (by decide) ?_ ?_
            · refine mj_aload_n C 1 dX7_talk_82 (i := 0) rfl rfl ?_
              refine mj_getR C ff_X7_26 dX7_talk_83 sh_0 rfl ?_
              refine mj_aload_n C 1 dX7_talk_86 (i := 0) rfl rfl ?_
              refine mj_getR C ff_X7_19 dX7_talk_87 sh_0 rfl ?_
              refine mj_vM C my_X3_remember mv_X7_165 dX7_talk_90 sh_15 rfl (fun a hF => ctX3_remember K h 13 ps_13 hF) (by decide) (by decide) rfl rfl (Nat.le_of_ble_eq_true rfl) (fun h_7 => ?_)
              refine mj_aload_n C 1 dX7_talk_93 (i := 0) rfl rfl ?_
              refine mj_getR C ff_X7_19 dX7_talk_94 sh_0 rfl ?_
              refine mj_iload_n C 2 dX7_talk_97 (i := 1) rfl rfl ?_
              refine mj_aload_n C 1 dX7_talk_98 (i := 0) rfl rfl ?_
              refine mj_getR C ff_X7_19 dX7_talk_99 sh_0 rfl ?_
              refine mj_iload_n C 2 dX7_talk_102 (i := 1) rfl rfl ?_
              refine mj_vI C my_X4_mindOf mv_X7_148 dX7_talk_103 (ps_o ps_13) rfl (fun a hF => ctX4_mindOf K h_7 13 l1 ps_13 hF) (by decide) (by decide) rfl rfl (Nat.le_of_ble_eq_true rfl) (fun r_8 => ?_)
              refine mj_iload_n C 3 dX7_talk_106 (i := 2) rfl rfl ?_
              refine mj_iload_n C 4 dX7_talk_107 (i := 3) rfl rfl ?_
              refine mj_sI C my_X7_afterTalk ms_X7_180 dX7_talk_108 (fun a hF => ctX7_afterTalk K h_7 r_8 l2 l3  hF) (by decide) (by decide) rfl rfl (Nat.le_of_ble_eq_true rfl) (fun r_9 => ?_)
              refine mj_vM C my_X4_setMind mv_X7_184 dX7_talk_111 (ps_o ps_13) rfl (fun a hF => ctX4_setMind K h_7 13 l1 r_9 ps_13 hF) (by decide) (by decide) rfl rfl (Nat.le_of_ble_eq_true rfl) (fun h_10 => ?_)
              refine mj_aload_n C 1 dX7_talk_114 (i := 0) rfl rfl ?_
              refine mj_getR C ff_X7_19 dX7_talk_115 sh_0 rfl ?_
              refine mj_aload_n C 1 dX7_talk_118 (i := 0) rfl rfl ?_
              refine mj_getR C ff_X7_19 dX7_talk_119 sh_0 rfl ?_
              refine mj_getI C ff_X7_135 dX7_talk_122 (ps_o ps_13) rfl ?_
              refine mj_iload C 0 dX7_talk_125 rfl ?_
              refine mj_iadd C dX7_talk_127 ?_
              refine mj_ldc C kc_X7_188 dX7_talk_128 ?_
              refine mj_mmin C ml_X7_189 mm_min.1 mm_min.2.1 mm_min.2.2 (by decide) (Nat.le_of_ble_eq_true rfl) dX7_talk_130 ?_
              refine mj_putL C fp_X7_135 dX7_talk_133 (ps_o ps_13) rfl rfl rfl (fun h_11 => ?_)
              refine mj_iload C 0 dX7_talk_136 rfl ?_
              exact mj_rIM C N dX7_talk_138
            · refine mj_ldc C kc_X7_164 dX7_talk_79 ?_
              exact mj_rIM C N dX7_talk_81
      · refine mj_ldc C kc_X7_144 dX7_talk_33 ?_
        exact mj_rIM C N dX7_talk_35
noncomputable def fX7_come (h : Mm) (l1 : Int32) (l2 : Int32) : Option (Int32 × Mm) := md_bd (fX1_isTraveller h (md_dx (h 0 7)) l1) (fun r_1 => (if r_1 = true then md_bd (fX1_isSet h (md_dx (h 0 7)) l2) (fun r_2 => (if r_2 = true then md_bd (fX4_isGone h 13 l1) (fun r_3 => (if r_3 = true then md_bd (fX3_remember h 13) (fun h_4 => md_bd (fX4_comes h_4 13 l1 l2) (fun h_5 => md_bd (fX7_dutyOf h_5 l1) (fun r_6 => some (r_6, h_5)))) else some ((-1000000003 : Int32), h))) else some ((-1000000001 : Int32), h))) else some ((-1000000001 : Int32), h)))
set_option maxRecDepth 100000 in
set_option maxHeartbeats 4000000 in
theorem ctX7_come (K : Kx) (h : Mm) (l1 : Int32) (l2 : Int32) {a : Int32 × Mm} (hF : fX7_come h l1 l2 = some a) : Mt K yX7_come cX7_come 3 (some .int) 4 89 SHc [rf K 0, .int l1, .int l2] h (some (.int a.1)) a.2 := by
  refine Mt.of hF [(0, rf K 0), (1, .int l1), (2, .int l2)] (by decide) (Nat.le_of_ble_eq_true rfl) rfl (fun Y C N => ?_)
  have C : Cx K Y (0, 0) cX7_come RX7 3 4 89 := C
  unfold fX7_come
  refine mj_aload_n C 0 dX7_come_0 (i := 0) rfl rfl ?_
  refine mj_getM C ff_X7_58 dX7_come_1 sh_0 rfl ?_
  refine mj_iload_n C 1 dX7_come_4 (i := 1) rfl rfl ?_
  refine mj_vB C my_X1_isTraveller mv_X7_145 dX7_come_5 (cn_o (cnt_dx (h 0 7))) rfl (fun a hF => ctX1_isTraveller K h (md_dx (h 0 7)) l1 (cnt_dx (h 0 7)) hF) (by decide) (by decide) rfl rfl (Nat.le_of_ble_eq_true rfl) (fun r_1 => ?_)
  refine mj_b_eq C 22 dX7_come_8 (by decide) ?_ ?_
  · refine mj_ldc C kc_X7_144 dX7_come_22 ?_
    exact mj_rIM C N dX7_come_24
  · refine mj_aload_n C 0 dX7_come_11 (i := 0) rfl rfl ?_
    refine mj_getM C ff_X7_58 dX7_come_12 sh_0 rfl ?_
    refine mj_iload_n C 2 dX7_come_15 (i := 2) rfl rfl ?_
    refine mj_vB C my_X1_isSet mv_X7_194 dX7_come_16 (cn_o (cnt_dx (h 0 7))) rfl (fun a hF => ctX1_isSet K h (md_dx (h 0 7)) l2 (cnt_dx (h 0 7)) hF) (by decide) (by decide) rfl rfl (Nat.le_of_ble_eq_true rfl) (fun r_2 => ?_)
    refine mj_b_ne C 25 dX7_come_19 (by decide) ?_ ?_
    · refine mj_aload_n C 0 dX7_come_25 (i := 0) rfl rfl ?_
      refine mj_getR C ff_X7_19 dX7_come_26 sh_0 rfl ?_
      refine mj_iload_n C 1 dX7_come_29 (i := 1) rfl rfl ?_
      refine mj_vB C my_X4_isGone mv_X7_158 dX7_come_30 (ps_o ps_13) rfl (fun a hF => ctX4_isGone K h 13 l1 ps_13 hF) (by decide) (by decide) rfl rfl (Nat.le_of_ble_eq_true rfl) (fun r_3 => ?_)
      refine mj_b_ne C 39 dX7_come_33 (by decide) ?_ ?_
      · refine mj_aload_n C 0 dX7_come_39 (i := 0) rfl rfl ?_
        refine mj_getR C ff_X7_26 dX7_come_40 sh_0 rfl ?_
        refine mj_aload_n C 0 dX7_come_43 (i := 0) rfl rfl ?_
        refine mj_getR C ff_X7_19 dX7_come_44 sh_0 rfl ?_
        refine mj_vM C my_X3_remember mv_X7_165 dX7_come_47 sh_15 rfl (fun a hF => ctX3_remember K h 13 ps_13 hF) (by decide) (by decide) rfl rfl (Nat.le_of_ble_eq_true rfl) (fun h_4 => ?_)
        refine mj_aload_n C 0 dX7_come_50 (i := 0) rfl rfl ?_
        refine mj_getR C ff_X7_19 dX7_come_51 sh_0 rfl ?_
        refine mj_iload_n C 1 dX7_come_54 (i := 1) rfl rfl ?_
        refine mj_iload_n C 2 dX7_come_55 (i := 2) rfl rfl ?_
        refine mj_vM C my_X4_comes mv_X7_197 dX7_come_56 (ps_o ps_13) rfl (fun a hF => ctX4_comes K h_4 13 l1 l2 ps_13 hF) (by decide) (by decide) rfl rfl (Nat.le_of_ble_eq_true rfl) (fun h_5 => ?_)
        refine mj_aload_n C 0 dX7_come_59 (i := 0) rfl rfl ?_
        refine mj_iload_n C 1 dX7_come_60 (i := 1) rfl rfl ?_
        refine mj_vI C my_X7_dutyOf mv_X7_155 dX7_come_61 sh_0 rfl (fun a hF => ctX7_dutyOf K h_5 l1  hF) (by decide) (by decide) rfl rfl (Nat.le_of_ble_eq_true rfl) (fun r_6 => ?_)
        exact mj_rIM C N dX7_come_64
      · refine mj_ldc C kc_X7_164 dX7_come_36 ?_
        exact mj_rIM C N dX7_come_38
    · refine mj_ldc C kc_X7_144 dX7_come_22 ?_
      exact mj_rIM C N dX7_come_24
noncomputable def fX7_register (h : Mm) (l1 : Int32) (l2 : Bool) : Option (Int32 × Mm) := md_bd (fX1_isIdea h (md_dx (h 0 7)) l1) (fun r_1 => (if r_1 = true then md_lt (((h 13 1) >>> (l1 &&& 31)) &&& (1 : Int32)) (fun l3_2 : Int32 => md_bd (fX3_remember h 13) (fun h_3 => md_bd ((if l2 = true then md_lt (md_up h_3 13 1 ((h_3 13 1) ||| ((1 : Int32) <<< (l1 &&& 31)))) (fun h_7 : Mm => some h_7) else md_lt (md_up h_3 13 1 ((h_3 13 1) &&& (((1 : Int32) <<< (l1 &&& 31)) ^^^ (-1 : Int32)))) (fun h_6 : Mm => some h_6))) (fun (h_4 : Mm) => some (l3_2, h_4)))) else some ((-1000000001 : Int32), h)))
set_option maxRecDepth 100000 in
set_option maxHeartbeats 4000000 in
theorem ctX7_register (K : Kx) (h : Mm) (l1 : Int32) (l2 : Bool) {a : Int32 × Mm} (hF : fX7_register h l1 l2 = some a) : Mt K yX7_register cX7_register 4 (some .int) 2 43 SHc [rf K 0, .int l1, .int (md_bi l2)] h (some (.int a.1)) a.2 := by
  refine Mt.of hF [(0, rf K 0), (1, .int l1), (2, .int (md_bi l2))] (by decide) (Nat.le_of_ble_eq_true rfl) rfl (fun Y C N => ?_)
  have C : Cx K Y (0, 0) cX7_register RX7 4 2 43 := C
  unfold fX7_register
  refine mj_aload_n C 0 dX7_register_0 (i := 0) rfl rfl ?_
  refine mj_getM C ff_X7_58 dX7_register_1 sh_0 rfl ?_
  refine mj_iload_n C 1 dX7_register_4 (i := 1) rfl rfl ?_
  refine mj_vB C my_X1_isIdea mv_X7_138 dX7_register_5 (cn_o (cnt_dx (h 0 7))) rfl (fun a hF => ctX1_isIdea K h (md_dx (h 0 7)) l1 (cnt_dx (h 0 7)) hF) (by decide) (by decide) rfl rfl (Nat.le_of_ble_eq_true rfl) (fun r_1 => ?_)
  refine mj_b_ne C 14 dX7_register_8 (by decide) ?_ ?_
  · refine mj_aload_n C 0 dX7_register_14 (i := 0) rfl rfl ?_
    refine mj_getR C ff_X7_19 dX7_register_15 sh_0 rfl ?_
    refine mj_getI C ff_X7_119 dX7_register_18 (ps_o ps_13) rfl ?_
    refine mj_iload_n C 1 dX7_register_21 (i := 1) rfl rfl ?_
    refine mj_ishr C dX7_register_22 ?_
    refine mj_iconst C (v := 1) dX7_register_23 rfl ?_
    refine mj_iand C dX7_register_24 ?_
    refine mj_istore_nL C (fun l3_2 => [(3, .int l3_2), (0, rf K 0), (1, .int l1), (2, .int (md_bi l2))]) dX7_register_25 (i := 3) rfl (by decide) rfl (fun l3_2 => ?_)
    refine mj_aload_n C 1 dX7_register_26 (i := 0) rfl rfl ?_
    refine mj_getR C ff_X7_26 dX7_register_27 sh_0 rfl ?_
    refine mj_aload_n C 1 dX7_register_30 (i := 0) rfl rfl ?_
    refine mj_getR C ff_X7_19 dX7_register_31 sh_0 rfl ?_
    refine mj_vM C my_X3_remember mv_X7_165 dX7_register_34 sh_15 rfl (fun a hF => ctX3_remember K h 13 ps_13 hF) (by decide) (by decide) rfl rfl (Nat.le_of_ble_eq_true rfl) (fun h_3 => ?_)
    refine mj_iload_n C 3 dX7_register_37 (i := 2) rfl rfl ?_
    refine mj_phi1 76 (fun (h_4 : Mm) => [(3, .int l3_2)]) (fun (h_4 : Mm) => []) (fun (h_4 : Mm) => h_4) (fun P' kj_5 => ?_) (fun h_4 => ?_)
    · refine mj_b_eq C 59 dX7_register_38 (by decide) ?_ ?_
      · refine mj_aload_n C 1 dX7_register_59 (i := 0) rfl rfl ?_
        refine mj_getR C ff_X7_19 dX7_register_60 sh_0 rfl ?_
        refine mj_dup C dX7_register_63 rfl ?_
        refine mj_getI C ff_X7_119 dX7_register_64 (ps_o ps_13) rfl ?_
        refine mj_iconst C (v := 1) dX7_register_67 rfl ?_
        refine mj_iload_n C 2 dX7_register_68 (i := 1) rfl rfl ?_
        refine mj_ishl C dX7_register_69 ?_
        refine mj_iconst C (v := -1) dX7_register_70 rfl ?_
        refine mj_ixor C dX7_register_71 ?_
        refine mj_iand C dX7_register_72 ?_
        refine mj_putL C fp_X7_119 dX7_register_73 (ps_o ps_13) rfl rfl rfl (fun h_6 => ?_)
        exact mj_sub [0] rfl (mj_some (kj_5 h_6))
      · refine mj_aload_n C 1 dX7_register_41 (i := 0) rfl rfl ?_
        refine mj_getR C ff_X7_19 dX7_register_42 sh_0 rfl ?_
        refine mj_dup C dX7_register_45 rfl ?_
        refine mj_getI C ff_X7_119 dX7_register_46 (ps_o ps_13) rfl ?_
        refine mj_iconst C (v := 1) dX7_register_49 rfl ?_
        refine mj_iload_n C 2 dX7_register_50 (i := 1) rfl rfl ?_
        refine mj_ishl C dX7_register_51 ?_
        refine mj_ior C dX7_register_52 ?_
        refine mj_putL C fp_X7_119 dX7_register_53 (ps_o ps_13) rfl rfl rfl (fun h_7 => ?_)
        refine mj_goto C 76 dX7_register_56 (by decide) ?_
        exact mj_sub [0] rfl (mj_some (kj_5 h_7))
    · refine mj_iload_n C 0 dX7_register_76 (i := 3) rfl rfl ?_
      exact mj_rIM C N dX7_register_77
  · refine mj_ldc C kc_X7_144 dX7_register_11 ?_
    exact mj_rIM C N dX7_register_13
noncomputable def fX7_draw (h : Mm) (l1 : Int32) : Option (Int32 × Mm) := md_lt (md_up h 0 8 ((((((h 0 8)).toInt64 * (1103515245 : Int64)) + (12345 : Int64)) &&& (2147483647 : Int64))).toInt32) (fun h_1 : Mm => md_bd ((if (1 : Int32) ≤ l1 then md_ck (decide (¬ l1 = 0)) (some (((h_1 0 8) / (65536 : Int32)) - ((h_1 0 8) / (65536 : Int32)) / l1 * l1)) else some (0 : Int32))) (fun (v_2 : Int32) => some (v_2, h_1)))
set_option maxRecDepth 100000 in
set_option maxHeartbeats 4000000 in
theorem ctX7_draw (K : Kx) (h : Mm) (l1 : Int32) {a : Int32 × Mm} (hF : fX7_draw h l1 = some a) : Mt K yX7_draw cX7_draw 2 (some .int) 0 0 SHc [rf K 0, .int l1] h (some (.int a.1)) a.2 := by
  refine Mt.of hF [(0, rf K 0), (1, .int l1)] (by decide) (Nat.le_of_ble_eq_true rfl) rfl (fun Y C N => ?_)
  have C : Cx K Y (0, 0) cX7_draw RX7 2 0 0 := C
  unfold fX7_draw
  refine mj_aload_n C 0 dX7_draw_0 (i := 0) rfl rfl ?_
  refine mj_aload_n C 0 dX7_draw_1 (i := 0) rfl rfl ?_
  refine mj_getI C ff_X7_265 dX7_draw_2 sh_0 rfl ?_
  refine mj_i2l C dX7_draw_5 ?_
  refine mj_ldc2 C kc_X7_289 dX7_draw_6 ?_
  refine mj_lmul C dX7_draw_9 ?_
  refine mj_ldc2 C kc_X7_291 dX7_draw_10 ?_
  refine mj_ladd C dX7_draw_13 ?_
  refine mj_ldc2 C kc_X7_293 dX7_draw_14 ?_
  refine mj_land C dX7_draw_17 ?_
  refine mj_l2i C dX7_draw_18 ?_
  refine mj_putL C fp_X7_265 dX7_draw_19 sh_0 rfl rfl rfl (fun h_1 => ?_)
  refine mj_iload_n C 1 dX7_draw_22 (i := 1) rfl rfl ?_
  refine mj_iconst C (v := 1) dX7_draw_23 rfl ?_
  refine mj_phi1 41 (fun (v_2 : Int32) => []) (fun (v_2 : Int32) => [.int v_2]) (fun (v_2 : Int32) => h_1) (fun P' kj_3 => ?_) (fun v_2 => ?_)
  · refine mj_icmp_ge C 31 dX7_draw_24 (by decide) ?_ ?_
    · refine mj_aload_n C 0 dX7_draw_31 (i := 0) rfl rfl ?_
      refine mj_getI C ff_X7_265 dX7_draw_32 sh_0 rfl ?_
      refine mj_ldcw C kc_X7_295 dX7_draw_35 ?_
      refine mj_idiv C dX7_draw_38 (by decide) ?_
      refine mj_iload_n C 1 dX7_draw_39 (i := 1) rfl rfl ?_
      refine mj_iremC C dX7_draw_40 ?_
      exact mj_sub [] rfl (mj_some (kj_3 (((h_1 0 8) / (65536 : Int32)) - ((h_1 0 8) / (65536 : Int32)) / l1 * l1)))
    · refine mj_iconst C (v := 0) dX7_draw_27 rfl ?_
      refine mj_goto C 41 dX7_draw_28 (by decide) ?_
      exact mj_sub [] rfl (mj_some (kj_3 (0 : Int32)))
  · exact mj_rIM C N dX7_draw_41
noncomputable def fX7_driftOneDay (h : Mm) : Option (Mm) := md_b2 (fX7_draw h (h (md_dx (h 0 7)) 14)) (fun r_1 h_2 => md_b2 (fX7_draw h_2 ((1 : Int32) <<< ((h_2 (md_dx (h_2 0 7)) 3) &&& 31))) (fun r_3 h_4 => md_bd (fX4_comes h_4 13 r_1 r_3) (fun h_5 => md_bd (fX1_isStuck h_5 (md_dx (h_5 0 7)) r_3) (fun r_6 => md_bd ((if r_6 = true then md_b2 (fX7_draw h_5 (100 : Int32)) (fun r_11 h_12 => md_bd ((if r_11 < (h_12 (md_dx (h_12 0 7)) 2) then some false else some true)) (fun (v_13 : Bool) => md_bd (fX4_leaves h_12 13 r_1 v_13) (fun h_15 => some h_15))) else md_b2 (fX7_letPass h_5 r_1) (fun r_9 h_10 => some h_10))) (fun (h_7 : Mm) => some h_7)))))
set_option maxRecDepth 100000 in
set_option maxHeartbeats 4000000 in
theorem ctX7_driftOneDay (K : Kx) (h : Mm) {a : Mm} (hF : fX7_driftOneDay h = some a) : Mt K yX7_driftOneDay cX7_driftOneDay 3 none 5 111 SHc [rf K 0] h none a := by
  refine Mt.of hF [(0, rf K 0)] (by decide) (Nat.le_of_ble_eq_true rfl) rfl (fun Y C N => ?_)
  have C : Cx K Y (0, 0) cX7_driftOneDay RX7 3 5 111 := C
  unfold fX7_driftOneDay
  refine mj_aload_n C 0 dX7_driftOneDay_0 (i := 0) rfl rfl ?_
  refine mj_aload_n C 0 dX7_driftOneDay_1 (i := 0) rfl rfl ?_
  refine mj_getM C ff_X7_58 dX7_driftOneDay_2 sh_0 rfl ?_
  refine mj_getI C ff_X7_116 dX7_driftOneDay_5 (cn_o (cnt_dx (h 0 7))) rfl ?_
  refine mj_vIM C my_X7_draw mv_X7_286 dX7_driftOneDay_8 sh_0 rfl (fun a hF => ctX7_draw K h (h (md_dx (h 0 7)) 14)  hF) (by decide) (by decide) rfl rfl (Nat.le_of_ble_eq_true rfl) (fun r_1 h_2 => ?_)
  refine mj_istore_n C [(1, .int r_1), (0, rf K 0)] dX7_driftOneDay_11 (i := 1) rfl (by decide) rfl ?_
  refine mj_aload_n C 1 dX7_driftOneDay_12 (i := 0) rfl rfl ?_
  refine mj_iconst C (v := 1) dX7_driftOneDay_13 rfl ?_
  refine mj_aload_n C 1 dX7_driftOneDay_14 (i := 0) rfl rfl ?_
  refine mj_getM C ff_X7_58 dX7_driftOneDay_15 sh_0 rfl ?_
  refine mj_getI C ff_X7_98 dX7_driftOneDay_18 (cn_o (cnt_dx (h_2 0 7))) rfl ?_
  refine mj_ishl C dX7_driftOneDay_21 ?_
  refine mj_vIM C my_X7_draw mv_X7_286 dX7_driftOneDay_22 sh_0 rfl (fun a hF => ctX7_draw K h_2 ((1 : Int32) <<< ((h_2 (md_dx (h_2 0 7)) 3) &&& 31))  hF) (by decide) (by decide) rfl rfl (Nat.le_of_ble_eq_true rfl) (fun r_3 h_4 => ?_)
  refine mj_istore_n C [(2, .int r_3), (1, .int r_1), (0, rf K 0)] dX7_driftOneDay_25 (i := 2) rfl (by decide) rfl ?_
  refine mj_aload_n C 2 dX7_driftOneDay_26 (i := 0) rfl rfl ?_
  refine mj_getR C ff_X7_19 dX7_driftOneDay_27 sh_0 rfl ?_
  refine mj_iload_n C 1 dX7_driftOneDay_30 (i := 1) rfl rfl ?_
  refine mj_iload_n C 0 dX7_driftOneDay_31 (i := 2) rfl rfl ?_
  refine mj_vM C my_X4_comes mv_X7_197 dX7_driftOneDay_32 (ps_o ps_13) rfl (fun a hF => ctX4_comes K h_4 13 r_1 r_3 ps_13 hF) (by decide) (by decide) rfl rfl (Nat.le_of_ble_eq_true rfl) (fun h_5 => ?_)
  refine mj_aload_n C 2 dX7_driftOneDay_35 (i := 0) rfl rfl ?_
  refine mj_getM C ff_X7_58 dX7_driftOneDay_36 sh_0 rfl ?_
  refine mj_iload_n C 0 dX7_driftOneDay_39 (i := 2) rfl rfl ?_
  refine mj_vB C my_X1_isStuck mv_X7_161 dX7_driftOneDay_40 (cn_o (cnt_dx (h_5 0 7))) rfl (fun a hF => ctX1_isStuck K h_5 (md_dx (h_5 0 7)) r_3 (cnt_dx (h_5 0 7)) hF) (by decide) (by decide) rfl rfl (Nat.le_of_ble_eq_true rfl) (fun r_6 => ?_)
  refine mj_phi1 84 (fun (h_7 : Mm) => []) (fun (h_7 : Mm) => []) (fun (h_7 : Mm) => h_7) (fun P' kj_8 => ?_) (fun h_7 => ?_)
  · refine mj_b_eq C 78 dX7_driftOneDay_43 (by decide) ?_ ?_
    · refine mj_aload_n C 2 dX7_driftOneDay_78 (i := 0) rfl rfl ?_
      refine mj_iload_n C 1 dX7_driftOneDay_79 (i := 1) rfl rfl ?_
      refine mj_vIM C my_X7_letPass mv_X7_169 dX7_driftOneDay_80 sh_0 rfl (fun a hF => ctX7_letPass K h_5 r_1  hF) (by decide) (by decide) rfl rfl (Nat.le_of_ble_eq_true rfl) (fun r_9 h_10 => ?_)
      refine mj_pop C dX7_driftOneDay_83 rfl ?_
      exact mj_sub [] rfl (mj_some (kj_8 h_10))
    · refine mj_aload_n C 2 dX7_driftOneDay_46 (i := 0) rfl rfl ?_
      refine mj_getR C ff_X7_19 dX7_driftOneDay_47 sh_0 rfl ?_
      refine mj_iload_n C 1 dX7_driftOneDay_50 (i := 1) rfl rfl ?_
      refine mj_aload_n C 2 dX7_driftOneDay_51 (i := 0) rfl rfl ?_
      refine mj_bipush C (v := 100) dX7_driftOneDay_52 rfl ?_
      refine mj_vIM C my_X7_draw mv_X7_286 dX7_driftOneDay_54 sh_0 rfl (fun a hF => ctX7_draw K h_5 (100 : Int32)  hF) (by decide) (by decide) rfl rfl (Nat.le_of_ble_eq_true rfl) (fun r_11 h_12 => ?_)
      refine mj_aload_n C 2 dX7_driftOneDay_57 (i := 0) rfl rfl ?_
      refine mj_getM C ff_X7_58 dX7_driftOneDay_58 sh_0 rfl ?_
      refine mj_getI C ff_X7_107 dX7_driftOneDay_61 (cn_o (cnt_dx (h_12 0 7))) rfl ?_
      refine mj_phi1 72 (fun (v_13 : Bool) => []) (fun (v_13 : Bool) => [.int (md_bi v_13), .int r_1, rf K 13]) (fun (v_13 : Bool) => h_12) (fun P' kj_14 => ?_) (fun v_13 => ?_)
      · refine mj_icmp_lt C 71 dX7_driftOneDay_64 (by decide) ?_ ?_
        · refine mj_iconst C (v := 0) dX7_driftOneDay_71 rfl ?_
          exact mj_sub [] rfl (mj_some (kj_14 false))
        · refine mj_iconst C (v := 1) dX7_driftOneDay_67 rfl ?_
          refine mj_goto C 72 dX7_driftOneDay_68 (by decide) ?_
          exact mj_sub [] rfl (mj_some (kj_14 true))
      · refine mj_vM C my_X4_leaves mv_X7_172 dX7_driftOneDay_72 (ps_o ps_13) rfl (fun a hF => ctX4_leaves K h_12 13 r_1 v_13 ps_13 hF) (by decide) (by decide) rfl rfl (Nat.le_of_ble_eq_true rfl) (fun h_15 => ?_)
        refine mj_goto C 84 dX7_driftOneDay_75 (by decide) ?_
        exact mj_sub [] rfl (mj_some (kj_8 h_15))
  · exact mj_rV C N dX7_driftOneDay_84
noncomputable def fX7_drift_60 : Nat → Mm → Int32 → Int32 → Option (Mm)
  | 0, _, _, _ => none
  | n + 1, h, l1, l2 => (if l1 ≤ l2 then some h else md_bd (fX7_driftOneDay h) (fun h_2 => fX7_drift_60 n h_2 l1 (l2 + 1)))
set_option maxRecDepth 100000 in
set_option maxHeartbeats 4000000 in
theorem lX7_drift_60 {K : Kx} {Y : Yx} {cs : Nat × Nat} (C : Cx K Y cs cX7_drift RX7 3 6 133) {P : Mm → Prop} : ∀ (n : Nat) (h : Mm) (l1 : Int32) (l2 : Int32), (∀ (hw : Mm), J SHc K Y cs (P hw) 75 [(0, rf K 0)] [] hw) → J SHc K Y cs (mj_O (fX7_drift_60 n h l1 l2) P) 60 [(0, rf K 0), (1, .int l1), (2, .int l2)] [] h := by
  intro n
  induction n with
  | zero => intro h l1 l2 kk0; exact mj_none
  | succ n ih =>
    intro h l1 l2 kk0
    rw [fX7_drift_60]
    refine mj_iload_n C 2 dX7_drift_60 (i := 2) rfl rfl ?_
    refine mj_iload_n C 1 dX7_drift_61 (i := 1) rfl rfl ?_
    refine mj_icmp_ge C 75 dX7_drift_62 (by decide) ?_ ?_
    · exact mj_sub [0] rfl (mj_some (kk0 h))
    · refine mj_aload_n C 0 dX7_drift_65 (i := 0) rfl rfl ?_
      refine mj_vM C my_X7_driftOneDay mv_X7_204 dX7_drift_66 sh_0 rfl (fun a hF => ctX7_driftOneDay K h   hF) (by decide) (by decide) rfl rfl (Nat.le_of_ble_eq_true rfl) (fun h_2 => ?_)
      refine mj_iinc C (l2 + 1) 2 [(2, .int (l2 + 1)), (0, rf K 0), (1, .int l1)] dX7_drift_69 rfl rfl (by decide) rfl ?_
      refine mj_goto C 60 dX7_drift_72 (by decide) ?_
      exact mj_sub [1, 2, 0] rfl (ih h_2 l1 (l2 + 1) kk0)
noncomputable def fX7_drift (h : Mm) (l1 : Int32) : Option (Int32 × Mm) := (if l1 < (1 : Int32) then some ((-1000000002 : Int32), h) else (if l1 ≤ (60 : Int32) then (if (h (md_dx (h 0 7)) 0) = 0 then some ((-1000000003 : Int32), h) else md_bd (fX3_remember h 13) (fun h_1 => md_bd ((if (h_1 (md_dx (h_1 0 7)) 14) ≤ 0 then some h_1 else (if (h_1 (md_dx (h_1 0 7)) 3) ≤ 0 then some h_1 else md_bd (fX7_drift_60 md_N h_1 l1 (0 : Int32)) (fun (h_4 : Mm) => some h_4)))) (fun (h_2 : Mm) => some ((h_2 13 3), h_2)))) else some ((-1000000002 : Int32), h)))
set_option maxRecDepth 100000 in
set_option maxHeartbeats 4000000 in
theorem ctX7_drift (K : Kx) (h : Mm) (l1 : Int32) {a : Int32 × Mm} (hF : fX7_drift h l1 = some a) : Mt K yX7_drift cX7_drift 3 (some .int) 6 133 SHc [rf K 0, .int l1] h (some (.int a.1)) a.2 := by
  refine Mt.of hF [(0, rf K 0), (1, .int l1)] (by decide) (Nat.le_of_ble_eq_true rfl) rfl (fun Y C N => ?_)
  have C : Cx K Y (0, 0) cX7_drift RX7 3 6 133 := C
  unfold fX7_drift
  refine mj_iload_n C 1 dX7_drift_0 (i := 1) rfl rfl ?_
  refine mj_iconst C (v := 1) dX7_drift_1 rfl ?_
  refine mj_icmp_lt C 11 dX7_drift_2 (by decide) ?_ ?_
  · refine mj_ldc C kc_X7_62 dX7_drift_11 ?_
    exact mj_rIM C N dX7_drift_13
  · refine mj_iload_n C 1 dX7_drift_5 (i := 1) rfl rfl ?_
    refine mj_bipush C (v := 60) dX7_drift_6 rfl ?_
    refine mj_icmp_le C 14 dX7_drift_8 (by decide) ?_ ?_
    · refine mj_aload_n C 0 dX7_drift_14 (i := 0) rfl rfl ?_
      refine mj_getM C ff_X7_58 dX7_drift_15 sh_0 rfl ?_
      refine mj_getI C ff_X7_200 dX7_drift_18 (cn_o (cnt_dx (h 0 7))) rfl ?_
      refine mj_if_ne C 27 dX7_drift_21 (by decide) ?_ ?_
      · refine mj_aload_n C 0 dX7_drift_27 (i := 0) rfl rfl ?_
        refine mj_getR C ff_X7_26 dX7_drift_28 sh_0 rfl ?_
        refine mj_aload_n C 0 dX7_drift_31 (i := 0) rfl rfl ?_
        refine mj_getR C ff_X7_19 dX7_drift_32 sh_0 rfl ?_
        refine mj_vM C my_X3_remember mv_X7_165 dX7_drift_35 sh_15 rfl (fun a hF => ctX3_remember K h 13 ps_13 hF) (by decide) (by decide) rfl rfl (Nat.le_of_ble_eq_true rfl) (fun h_1 => ?_)
        refine mj_aload_n C 0 dX7_drift_38 (i := 0) rfl rfl ?_
        refine mj_getM C ff_X7_58 dX7_drift_39 sh_0 rfl ?_
        refine mj_getI C ff_X7_116 dX7_drift_42 (cn_o (cnt_dx (h_1 0 7))) rfl ?_
        refine mj_phi1 75 (fun (h_2 : Mm) => [(0, rf K 0)]) (fun (h_2 : Mm) => []) (fun (h_2 : Mm) => h_2) (fun P' kj_3 => ?_) (fun h_2 => ?_)
        · refine mj_if_le C 75 dX7_drift_45 (by decide) ?_ ?_
          · exact mj_sub [0] rfl (mj_some (kj_3 h_1))
          · refine mj_aload_n C 0 dX7_drift_48 (i := 0) rfl rfl ?_
            refine mj_getM C ff_X7_58 dX7_drift_49 sh_0 rfl ?_
            refine mj_getI C ff_X7_98 dX7_drift_52 (cn_o (cnt_dx (h_1 0 7))) rfl ?_
            refine mj_if_le C 75 dX7_drift_55 (by decide) ?_ ?_
            · exact mj_sub [0] rfl (mj_some (kj_3 h_1))
            · refine mj_iconst C (v := 0) dX7_drift_58 rfl ?_
              refine mj_istore_n C [(2, .int (0 : Int32)), (0, rf K 0), (1, .int l1)] dX7_drift_59 (i := 2) rfl (by decide) rfl ?_
              refine mj_phi1 75 (fun (h_4 : Mm) => [(0, rf K 0)]) (fun (h_4 : Mm) => []) (fun (h_4 : Mm) => h_4) (fun P' kj_5 => mj_sub [1, 2, 0] rfl (lX7_drift_60 C md_N h_1 l1 (0 : Int32) kj_5)) (fun h_4 => ?_)
              exact mj_sub [0] rfl (mj_some (kj_3 h_4))
        · refine mj_aload_n C 0 dX7_drift_75 (i := 0) rfl rfl ?_
          refine mj_getR C ff_X7_19 dX7_drift_76 sh_0 rfl ?_
          refine mj_getI C ff_X7_132 dX7_drift_79 (ps_o ps_13) rfl ?_
          exact mj_rIM C N dX7_drift_82
      · refine mj_ldc C kc_X7_164 dX7_drift_24 ?_
        exact mj_rIM C N dX7_drift_26
    · refine mj_ldc C kc_X7_62 dX7_drift_11 ?_
      exact mj_rIM C N dX7_drift_13
noncomputable def fX7_undo (h : Mm) : Option (Int32 × Mm) := (if (h 15 2) = 0 then some ((-1000000003 : Int32), h) else md_bd (fX3_bringBack h 13) (fun h_1 => some ((h_1 15 2), h_1)))
set_option maxRecDepth 100000 in
set_option maxHeartbeats 4000000 in
theorem ctX7_undo (K : Kx) (h : Mm) {a : Int32 × Mm} (hF : fX7_undo h = some a) : Mt K yX7_undo cX7_undo 1 (some .int) 2 43 SHc [rf K 0] h (some (.int a.1)) a.2 := by
  refine Mt.of hF [(0, rf K 0)] (by decide) (Nat.le_of_ble_eq_true rfl) rfl (fun Y C N => ?_)
  have C : Cx K Y (0, 0) cX7_undo RX7 1 2 43 := C
  unfold fX7_undo
  refine mj_aload_n C 0 dX7_undo_0 (i := 0) rfl rfl ?_
  refine mj_getR C ff_X7_26 dX7_undo_1 sh_0 rfl ?_
  refine mj_getI C ff_X7_90 dX7_undo_4 sh_15 rfl ?_
  refine mj_if_ne C 13 dX7_undo_7 (by decide) ?_ ?_
  · refine mj_aload_n C 0 dX7_undo_13 (i := 0) rfl rfl ?_
    refine mj_getR C ff_X7_26 dX7_undo_14 sh_0 rfl ?_
    refine mj_aload_n C 0 dX7_undo_17 (i := 0) rfl rfl ?_
    refine mj_getR C ff_X7_19 dX7_undo_18 sh_0 rfl ?_
    refine mj_vM C my_X3_bringBack mv_X7_207 dX7_undo_21 sh_15 rfl (fun a hF => ctX3_bringBack K h 13 ps_13 hF) (by decide) (by decide) rfl rfl (Nat.le_of_ble_eq_true rfl) (fun h_1 => ?_)
    refine mj_aload_n C 0 dX7_undo_24 (i := 0) rfl rfl ?_
    refine mj_getR C ff_X7_26 dX7_undo_25 sh_0 rfl ?_
    refine mj_getI C ff_X7_90 dX7_undo_28 sh_15 rfl ?_
    exact mj_rIM C N dX7_undo_31
  · refine mj_ldc C kc_X7_164 dX7_undo_10 ?_
    exact mj_rIM C N dX7_undo_12
noncomputable def fX7_follows (h : Mm) (l1 : Int32) : Option (Int32) := md_bd (fX1_isSet h (md_dx (h 0 7)) l1) (fun r_1 => md_bd ((if r_1 = true then md_bd (fX1_allFrom h (md_dx (h 0 7)) l1) (fun r_4 => some r_4) else some (-1000000001 : Int32))) (fun (v_2 : Int32) => some v_2))
set_option maxRecDepth 100000 in
set_option maxHeartbeats 4000000 in
theorem ctX7_follows (K : Kx) (h : Mm) (l1 : Int32) {a : Int32} (hF : fX7_follows h l1 = some a) : Mt K yX7_follows cX7_follows 2 (some .int) 2 42 SHc [rf K 0, .int l1] h (some (.int a)) h := by
  refine Mt.of hF [(0, rf K 0), (1, .int l1)] (by decide) (Nat.le_of_ble_eq_true rfl) rfl (fun Y C N => ?_)
  have C : Cx K Y (0, 0) cX7_follows RX7 2 2 42 := C
  unfold fX7_follows
  refine mj_aload_n C 0 dX7_follows_0 (i := 0) rfl rfl ?_
  refine mj_getM C ff_X7_58 dX7_follows_1 sh_0 rfl ?_
  refine mj_iload_n C 1 dX7_follows_4 (i := 1) rfl rfl ?_
  refine mj_vB C my_X1_isSet mv_X7_194 dX7_follows_5 (cn_o (cnt_dx (h 0 7))) rfl (fun a hF => ctX1_isSet K h (md_dx (h 0 7)) l1 (cnt_dx (h 0 7)) hF) (by decide) (by decide) rfl rfl (Nat.le_of_ble_eq_true rfl) (fun r_1 => ?_)
  refine mj_phi1 24 (fun (v_2 : Int32) => []) (fun (v_2 : Int32) => [.int v_2]) (fun (v_2 : Int32) => h) (fun P' kj_3 => ?_) (fun v_2 => ?_)
  · refine mj_b_eq C 22 dX7_follows_8 (by decide) ?_ ?_
    · refine mj_ldc C kc_X7_144 dX7_follows_22 ?_
      exact mj_sub [] rfl (mj_some (kj_3 (-1000000001 : Int32)))
    · refine mj_aload_n C 0 dX7_follows_11 (i := 0) rfl rfl ?_
      refine mj_getM C ff_X7_58 dX7_follows_12 sh_0 rfl ?_
      refine mj_iload_n C 1 dX7_follows_15 (i := 1) rfl rfl ?_
      refine mj_vI C my_X1_allFrom mv_X7_210 dX7_follows_16 (cn_o (cnt_dx (h 0 7))) rfl (fun a hF => ctX1_allFrom K h (md_dx (h 0 7)) l1 (cnt_dx (h 0 7)) hF) (by decide) (by decide) rfl rfl (Nat.le_of_ble_eq_true rfl) (fun r_4 => ?_)
      refine mj_goto C 24 dX7_follows_19 (by decide) ?_
      exact mj_sub [] rfl (mj_some (kj_3 r_4))
  · exact mj_rI C N dX7_follows_24
noncomputable def fX7_owed (h : Mm) (l1 : Int32) : Option (Int32) := md_bd (fX1_isSet h (md_dx (h 0 7)) l1) (fun r_1 => md_bd ((if r_1 = true then md_bd (fX7_inTheCountry h) (fun r_4 => md_bd (fX1_duty h (md_dx (h 0 7)) l1 r_4) (fun r_5 => some r_5)) else some (-1000000001 : Int32))) (fun (v_2 : Int32) => some v_2))
set_option maxRecDepth 100000 in
set_option maxHeartbeats 4000000 in
theorem ctX7_owed (K : Kx) (h : Mm) (l1 : Int32) {a : Int32} (hF : fX7_owed h l1 = some a) : Mt K yX7_owed cX7_owed 2 (some .int) 3 68 SHc [rf K 0, .int l1] h (some (.int a)) h := by
  refine Mt.of hF [(0, rf K 0), (1, .int l1)] (by decide) (Nat.le_of_ble_eq_true rfl) rfl (fun Y C N => ?_)
  have C : Cx K Y (0, 0) cX7_owed RX7 2 3 68 := C
  unfold fX7_owed
  refine mj_aload_n C 0 dX7_owed_0 (i := 0) rfl rfl ?_
  refine mj_getM C ff_X7_58 dX7_owed_1 sh_0 rfl ?_
  refine mj_iload_n C 1 dX7_owed_4 (i := 1) rfl rfl ?_
  refine mj_vB C my_X1_isSet mv_X7_194 dX7_owed_5 (cn_o (cnt_dx (h 0 7))) rfl (fun a hF => ctX1_isSet K h (md_dx (h 0 7)) l1 (cnt_dx (h 0 7)) hF) (by decide) (by decide) rfl rfl (Nat.le_of_ble_eq_true rfl) (fun r_1 => ?_)
  refine mj_phi1 28 (fun (v_2 : Int32) => []) (fun (v_2 : Int32) => [.int v_2]) (fun (v_2 : Int32) => h) (fun P' kj_3 => ?_) (fun v_2 => ?_)
  · refine mj_b_eq C 26 dX7_owed_8 (by decide) ?_ ?_
    · refine mj_ldc C kc_X7_144 dX7_owed_26 ?_
      exact mj_sub [] rfl (mj_some (kj_3 (-1000000001 : Int32)))
    · refine mj_aload_n C 0 dX7_owed_11 (i := 0) rfl rfl ?_
      refine mj_getM C ff_X7_58 dX7_owed_12 sh_0 rfl ?_
      refine mj_iload_n C 1 dX7_owed_15 (i := 1) rfl rfl ?_
      refine mj_aload_n C 0 dX7_owed_16 (i := 0) rfl rfl ?_
      refine mj_vI C my_X7_inTheCountry mv_X7_122 dX7_owed_17 sh_0 rfl (fun a hF => ctX7_inTheCountry K h   hF) (by decide) (by decide) rfl rfl (Nat.le_of_ble_eq_true rfl) (fun r_4 => ?_)
      refine mj_vI C my_X1_duty mv_X7_213 dX7_owed_20 (cn_o (cnt_dx (h 0 7))) rfl (fun a hF => ctX1_duty K h (md_dx (h 0 7)) l1 r_4 (cnt_dx (h 0 7)) hF) (by decide) (by decide) rfl rfl (Nat.le_of_ble_eq_true rfl) (fun r_5 => ?_)
      refine mj_goto C 28 dX7_owed_23 (by decide) ?_
      exact mj_sub [] rfl (mj_some (kj_3 r_5))
  · exact mj_rI C N dX7_owed_28
noncomputable def fX7_cheapestParts_15 : Nat → Mm → Int32 → Int32 → Int32 → Int32 → Option (Int32)
  | 0, _, _, _, _, _ => none
  | n + 1, h, l1, l2, l3, l4 => (if l3 ≤ l4 then some l2 else md_bd ((if (l4 &&& ((1 : Int32) <<< (l1 &&& 31))) = 0 then some true else some false)) (fun (v_2 : Bool) => md_bd ((if v_2 = true then md_bd (fX1_allFrom h (md_dx (h 0 7)) ((h 13 1) ||| l4)) (fun r_6 => (if (r_6 &&& ((1 : Int32) <<< (l1 &&& 31))) = 0 then some l2 else (if l2 = (-1 : Int32) then some l4 else md_bd (fX1_sizeOf h (md_dx (h 0 7)) l4) (fun r_7 => md_bd (fX1_sizeOf h (md_dx (h 0 7)) l2) (fun r_8 => (if r_8 ≤ r_7 then some l2 else some l4)))))) else some l2)) (fun (v_4 : Int32) => fX7_cheapestParts_15 n h l1 v_4 l3 (l4 + 1))))
set_option maxRecDepth 100000 in
set_option maxHeartbeats 4000000 in
theorem lX7_cheapestParts_15 {K : Kx} {Y : Yx} {cs : Nat × Nat} (C : Cx K Y cs cX7_cheapestParts RX7 6 2 42) {P : Int32 → Prop} : ∀ (n : Nat) (h : Mm) (l1 : Int32) (l2 : Int32) (l3 : Int32) (l4 : Int32), (∀ (w2 : Int32), J SHc K Y cs (P w2) 100 [(2, .int w2)] [] h) → J SHc K Y cs (mj_O (fX7_cheapestParts_15 n h l1 l2 l3 l4) P) 15 [(0, rf K 0), (1, .int l1), (2, .int l2), (3, .int l3), (4, .int l4)] [] h := by
  intro n
  induction n with
  | zero => intro h l1 l2 l3 l4 kk0; exact mj_none
  | succ n ih =>
    intro h l1 l2 l3 l4 kk0
    rw [fX7_cheapestParts_15]
    refine mj_iload C 4 dX7_cheapestParts_15 rfl ?_
    refine mj_iload_n C 3 dX7_cheapestParts_17 (i := 3) rfl rfl ?_
    refine mj_icmp_ge C 100 dX7_cheapestParts_18 (by decide) ?_ ?_
    · exact mj_sub [2] rfl (mj_some (kk0 l2))
    · refine mj_iload C 4 dX7_cheapestParts_21 rfl ?_
      refine mj_iconst C (v := 1) dX7_cheapestParts_23 rfl ?_
      refine mj_iload_n C 1 dX7_cheapestParts_24 (i := 1) rfl rfl ?_
      refine mj_ishl C dX7_cheapestParts_25 ?_
      refine mj_iand C dX7_cheapestParts_26 ?_
      refine mj_phi1 35 (fun (v_2 : Bool) => [(0, rf K 0), (1, .int l1), (2, .int l2), (3, .int l3), (4, .int l4)]) (fun (v_2 : Bool) => [.int (md_bi v_2)]) (fun (v_2 : Bool) => h) (fun P' kj_3 => ?_) (fun v_2 => ?_)
      · refine mj_if_ne C 34 dX7_cheapestParts_27 (by decide) ?_ ?_
        · refine mj_iconst C (v := 0) dX7_cheapestParts_34 rfl ?_
          exact mj_sub [0, 1, 2, 3, 4] rfl (mj_some (kj_3 false))
        · refine mj_iconst C (v := 1) dX7_cheapestParts_30 rfl ?_
          refine mj_goto C 35 dX7_cheapestParts_31 (by decide) ?_
          exact mj_sub [0, 1, 2, 3, 4] rfl (mj_some (kj_3 true))
      · refine mj_istore C [(5, .int (md_bi v_2)), (0, rf K 0), (1, .int l1), (2, .int l2), (3, .int l3), (4, .int l4)] dX7_cheapestParts_35 (by decide) rfl ?_
        refine mj_iload C 0 dX7_cheapestParts_37 rfl ?_
        refine mj_phi1 94 (fun (v_4 : Int32) => [(0, rf K 0), (1, .int l1), (2, .int v_4), (3, .int l3), (4, .int l4)]) (fun (v_4 : Int32) => []) (fun (v_4 : Int32) => h) (fun P' kj_5 => ?_) (fun v_4 => ?_)
        · refine mj_b_eq C 94 dX7_cheapestParts_39 (by decide) ?_ ?_
          · exact mj_sub [1, 2, 3, 4, 5] rfl (mj_some (kj_5 l2))
          · refine mj_aload_n C 1 dX7_cheapestParts_42 (i := 0) rfl rfl ?_
            refine mj_getM C ff_X7_58 dX7_cheapestParts_43 sh_0 rfl ?_
            refine mj_aload_n C 1 dX7_cheapestParts_46 (i := 0) rfl rfl ?_
            refine mj_getR C ff_X7_19 dX7_cheapestParts_47 sh_0 rfl ?_
            refine mj_getI C ff_X7_119 dX7_cheapestParts_50 (ps_o ps_13) rfl ?_
            refine mj_iload C 5 dX7_cheapestParts_53 rfl ?_
            refine mj_ior C dX7_cheapestParts_55 ?_
            refine mj_vI C my_X1_allFrom mv_X7_210 dX7_cheapestParts_56 (cn_o (cnt_dx (h 0 7))) rfl (fun a hF => ctX1_allFrom K h (md_dx (h 0 7)) ((h 13 1) ||| l4) (cnt_dx (h 0 7)) hF) (by decide) (by decide) rfl rfl (Nat.le_of_ble_eq_true rfl) (fun r_6 => ?_)
            refine mj_iconst C (v := 1) dX7_cheapestParts_59 rfl ?_
            refine mj_iload_n C 2 dX7_cheapestParts_60 (i := 1) rfl rfl ?_
            refine mj_ishl C dX7_cheapestParts_61 ?_
            refine mj_iand C dX7_cheapestParts_62 ?_
            refine mj_if_eq C 94 dX7_cheapestParts_63 (by decide) ?_ ?_
            · exact mj_sub [1, 2, 3, 4, 5] rfl (mj_some (kj_5 l2))
            · refine mj_iload_n C 3 dX7_cheapestParts_66 (i := 2) rfl rfl ?_
              refine mj_iconst C (v := -1) dX7_cheapestParts_67 rfl ?_
              refine mj_icmp_eq C 91 dX7_cheapestParts_68 (by decide) ?_ ?_
              · refine mj_iload C 5 dX7_cheapestParts_91 rfl ?_
                refine mj_istore_n C [(2, .int l4), (5, .int (md_bi v_2)), (0, rf K 0), (1, .int l1), (3, .int l3), (4, .int l4)] dX7_cheapestParts_93 (i := 2) rfl (by decide) rfl ?_
                exact mj_sub [2, 3, 0, 4, 5] rfl (mj_some (kj_5 l4))
              · refine mj_aload_n C 1 dX7_cheapestParts_71 (i := 0) rfl rfl ?_
                refine mj_getM C ff_X7_58 dX7_cheapestParts_72 sh_0 rfl ?_
                refine mj_iload C 5 dX7_cheapestParts_75 rfl ?_
                refine mj_vI C my_X1_sizeOf mv_X7_152 dX7_cheapestParts_77 (cn_o (cnt_dx (h 0 7))) rfl (fun a hF => ctX1_sizeOf K h (md_dx (h 0 7)) l4 (cnt_dx (h 0 7)) hF) (by decide) (by decide) rfl rfl (Nat.le_of_ble_eq_true rfl) (fun r_7 => ?_)
                refine mj_aload_n C 1 dX7_cheapestParts_80 (i := 0) rfl rfl ?_
                refine mj_getM C ff_X7_58 dX7_cheapestParts_81 sh_0 rfl ?_
                refine mj_iload_n C 3 dX7_cheapestParts_84 (i := 2) rfl rfl ?_
                refine mj_vI C my_X1_sizeOf mv_X7_152 dX7_cheapestParts_85 (cn_o (cnt_dx (h 0 7))) rfl (fun a hF => ctX1_sizeOf K h (md_dx (h 0 7)) l2 (cnt_dx (h 0 7)) hF) (by decide) (by decide) rfl rfl (Nat.le_of_ble_eq_true rfl) (fun r_8 => ?_)
                refine mj_icmp_ge C 94 dX7_cheapestParts_88 (by decide) ?_ ?_
                · exact mj_sub [1, 2, 3, 4, 5] rfl (mj_some (kj_5 l2))
                · refine mj_iload C 5 dX7_cheapestParts_91 rfl ?_
                  refine mj_istore_n C [(2, .int l4), (5, .int (md_bi v_2)), (0, rf K 0), (1, .int l1), (3, .int l3), (4, .int l4)] dX7_cheapestParts_93 (i := 2) rfl (by decide) rfl ?_
                  exact mj_sub [2, 3, 0, 4, 5] rfl (mj_some (kj_5 l4))
        · refine mj_iinc C (l4 + 1) 4 [(4, .int (l4 + 1)), (0, rf K 0), (1, .int l1), (2, .int v_4), (3, .int l3)] dX7_cheapestParts_94 rfl rfl (by decide) rfl ?_
          refine mj_goto C 15 dX7_cheapestParts_97 (by decide) ?_
          exact mj_sub [1, 2, 3, 4, 0] rfl (ih h l1 v_4 l3 (l4 + 1) kk0)
noncomputable def fX7_cheapestParts (h : Mm) (l1 : Int32) : Option (Int32) := md_lt ((1 : Int32) <<< ((h (md_dx (h 0 7)) 3) &&& 31)) (fun l3_1 : Int32 => md_bd (fX7_cheapestParts_15 md_N h l1 (-1 : Int32) l3_1 (0 : Int32)) (fun (v_9 : Int32) => some v_9))
set_option maxRecDepth 100000 in
set_option maxHeartbeats 4000000 in
theorem ctX7_cheapestParts (K : Kx) (h : Mm) (l1 : Int32) {a : Int32} (hF : fX7_cheapestParts h l1 = some a) : Mt K yX7_cheapestParts cX7_cheapestParts 6 (some .int) 2 42 SHc [rf K 0, .int l1] h (some (.int a)) h := by
  refine Mt.of hF [(0, rf K 0), (1, .int l1)] (by decide) (Nat.le_of_ble_eq_true rfl) rfl (fun Y C N => ?_)
  have C : Cx K Y (0, 0) cX7_cheapestParts RX7 6 2 42 := C
  unfold fX7_cheapestParts
  refine mj_iconst C (v := -1) dX7_cheapestParts_0 rfl ?_
  refine mj_istore_n C [(2, .int (-1 : Int32)), (0, rf K 0), (1, .int l1)] dX7_cheapestParts_1 (i := 2) rfl (by decide) rfl ?_
  refine mj_iconst C (v := 1) dX7_cheapestParts_2 rfl ?_
  refine mj_aload_n C 1 dX7_cheapestParts_3 (i := 0) rfl rfl ?_
  refine mj_getM C ff_X7_58 dX7_cheapestParts_4 sh_0 rfl ?_
  refine mj_getI C ff_X7_98 dX7_cheapestParts_7 (cn_o (cnt_dx (h 0 7))) rfl ?_
  refine mj_ishl C dX7_cheapestParts_10 ?_
  refine mj_istore_nL C (fun l3_1 => [(3, .int l3_1), (2, .int (-1 : Int32)), (0, rf K 0), (1, .int l1)]) dX7_cheapestParts_11 (i := 3) rfl (by decide) rfl (fun l3_1 => ?_)
  refine mj_iconst C (v := 0) dX7_cheapestParts_12 rfl ?_
  refine mj_istore C [(4, .int (0 : Int32)), (3, .int l3_1), (2, .int (-1 : Int32)), (0, rf K 0), (1, .int l1)] dX7_cheapestParts_13 (by decide) rfl ?_
  refine mj_phi1 100 (fun (v_9 : Int32) => [(2, .int v_9)]) (fun (v_9 : Int32) => []) (fun (v_9 : Int32) => h) (fun P' kj_10 => mj_sub [3, 4, 2, 1, 0] rfl (lX7_cheapestParts_15 C md_N h l1 (-1 : Int32) l3_1 (0 : Int32) kj_10)) (fun v_9 => ?_)
  refine mj_iload_n C 0 dX7_cheapestParts_100 (i := 2) rfl rfl ?_
  exact mj_rI C N dX7_cheapestParts_101
noncomputable def fX7_parts (h : Mm) (l1 : Int32) (l2 : Int32) : Option (Int32) := md_bd (fX1_isIdea h (md_dx (h 0 7)) l1) (fun r_1 => (if r_1 = true then (if l2 < 0 then some (-1000000002 : Int32) else (if l2 ≤ (1 : Int32) then md_bd (fX7_cheapestParts h l1) (fun r_2 => md_bd ((if l2 = 0 then some r_2 else (if r_2 = (-1 : Int32) then some r_2 else md_bd (fX1_sizeOf h (md_dx (h 0 7)) r_2) (fun r_5 => some r_5)))) (fun (v_3 : Int32) => some v_3)) else some (-1000000002 : Int32))) else some (-1000000001 : Int32)))
set_option maxRecDepth 100000 in
set_option maxHeartbeats 4000000 in
theorem ctX7_parts (K : Kx) (h : Mm) (l1 : Int32) (l2 : Int32) {a : Int32} (hF : fX7_parts h l1 l2 = some a) : Mt K yX7_parts cX7_parts 4 (some .int) 3 67 SHc [rf K 0, .int l1, .int l2] h (some (.int a)) h := by
  refine Mt.of hF [(0, rf K 0), (1, .int l1), (2, .int l2)] (by decide) (Nat.le_of_ble_eq_true rfl) rfl (fun Y C N => ?_)
  have C : Cx K Y (0, 0) cX7_parts RX7 4 3 67 := C
  unfold fX7_parts
  refine mj_aload_n C 0 dX7_parts_0 (i := 0) rfl rfl ?_
  refine mj_getM C ff_X7_58 dX7_parts_1 sh_0 rfl ?_
  refine mj_iload_n C 1 dX7_parts_4 (i := 1) rfl rfl ?_
  refine mj_vB C my_X1_isIdea mv_X7_138 dX7_parts_5 (cn_o (cnt_dx (h 0 7))) rfl (fun a hF => ctX1_isIdea K h (md_dx (h 0 7)) l1 (cnt_dx (h 0 7)) hF) (by decide) (by decide) rfl rfl (Nat.le_of_ble_eq_true rfl) (fun r_1 => ?_)
  refine mj_b_ne C 14 dX7_parts_8 (by decide) ?_ ?_
  · refine mj_iload_n C 2 dX7_parts_14 (i := 2) rfl rfl ?_
    refine mj_if_lt C 23 dX7_parts_15 (by decide) ?_ ?_
    · refine mj_ldc C kc_X7_62 dX7_parts_23 ?_
      exact mj_rI C N dX7_parts_25
    · refine mj_iload_n C 2 dX7_parts_18 (i := 2) rfl rfl ?_
      refine mj_iconst C (v := 1) dX7_parts_19 rfl ?_
      refine mj_icmp_le C 26 dX7_parts_20 (by decide) ?_ ?_
      · refine mj_aload_n C 0 dX7_parts_26 (i := 0) rfl rfl ?_
        refine mj_iload_n C 1 dX7_parts_27 (i := 1) rfl rfl ?_
        refine mj_vI C my_X7_cheapestParts mv_X7_216 dX7_parts_28 sh_0 rfl (fun a hF => ctX7_cheapestParts K h l1  hF) (by decide) (by decide) rfl rfl (Nat.le_of_ble_eq_true rfl) (fun r_2 => ?_)
        refine mj_istore_n C [(3, .int r_2), (0, rf K 0), (1, .int l1), (2, .int l2)] dX7_parts_31 (i := 3) rfl (by decide) rfl ?_
        refine mj_iload_n C 3 dX7_parts_32 (i := 2) rfl rfl ?_
        refine mj_phi1 53 (fun (v_3 : Int32) => []) (fun (v_3 : Int32) => [.int v_3]) (fun (v_3 : Int32) => h) (fun P' kj_4 => ?_) (fun v_3 => ?_)
        · refine mj_if_eq C 41 dX7_parts_33 (by decide) ?_ ?_
          · refine mj_iload_n C 0 dX7_parts_41 (i := 3) rfl rfl ?_
            refine mj_goto C 53 dX7_parts_42 (by decide) ?_
            exact mj_sub [] rfl (mj_some (kj_4 r_2))
          · refine mj_iload_n C 0 dX7_parts_36 (i := 3) rfl rfl ?_
            refine mj_iconst C (v := -1) dX7_parts_37 rfl ?_
            refine mj_icmp_ne C 45 dX7_parts_38 (by decide) ?_ ?_
            · refine mj_aload_n C 1 dX7_parts_45 (i := 0) rfl rfl ?_
              refine mj_getM C ff_X7_58 dX7_parts_46 sh_0 rfl ?_
              refine mj_iload_n C 0 dX7_parts_49 (i := 3) rfl rfl ?_
              refine mj_vI C my_X1_sizeOf mv_X7_152 dX7_parts_50 (cn_o (cnt_dx (h 0 7))) rfl (fun a hF => ctX1_sizeOf K h (md_dx (h 0 7)) r_2 (cnt_dx (h 0 7)) hF) (by decide) (by decide) rfl rfl (Nat.le_of_ble_eq_true rfl) (fun r_5 => ?_)
              exact mj_sub [] rfl (mj_some (kj_4 r_5))
            · refine mj_iload_n C 0 dX7_parts_41 (i := 3) rfl rfl ?_
              refine mj_goto C 53 dX7_parts_42 (by decide) ?_
              exact mj_sub [] rfl (mj_some (kj_4 r_2))
        · exact mj_rI C N dX7_parts_53
      · refine mj_ldc C kc_X7_62 dX7_parts_23 ?_
        exact mj_rI C N dX7_parts_25
  · refine mj_ldc C kc_X7_144 dX7_parts_11 ?_
    exact mj_rI C N dX7_parts_13
noncomputable def fX7_nextOnTheWay_4 : Nat → Mm → Int32 → Int32 → Int32 → Option (Int32)
  | 0, _, _, _, _ => none
  | n + 1, h, l1, l2, l3 => (if (h (md_dx (h 0 7)) 9) ≤ l3 then some l2 else md_ck (md_in l3 10) (md_lt (h ((md_dx (h 0 7)) + 6) (l3).toNatClampNeg) (fun l4_1 : Int32 => md_ck (md_in l3 10) (md_bd ((if (h ((md_dx (h 0 7)) + 5) (l3).toNatClampNeg) = l1 then md_ck (md_in l4_1 8) ((if (h 73 (l4_1).toNatClampNeg) = (-1 : Int32) then some false else md_ck (md_in l3 10) (md_ck (md_in l4_1 8) (md_ck (md_in l1 8) ((if ((h ((md_dx (h 0 7)) + 7) (l3).toNatClampNeg) + (h 73 (l4_1).toNatClampNeg)) = (h 73 (l1).toNatClampNeg) then some true else some false)))))) else some false)) (fun (v_2 : Bool) => md_bd ((if v_2 = true then (if l2 = (-1 : Int32) then some l4_1 else (if l2 ≤ l4_1 then some l2 else some l4_1)) else some l2)) (fun (v_4 : Int32) => fX7_nextOnTheWay_4 n h l1 v_4 (l3 + 1)))))))
set_option maxRecDepth 100000 in
set_option maxHeartbeats 4000000 in
theorem lX7_nextOnTheWay_4 {K : Kx} {Y : Yx} {cs : Nat × Nat} (C : Cx K Y cs cX7_nextOnTheWay RX7 6 0 0) {P : Int32 → Prop} : ∀ (n : Nat) (h : Mm) (l1 : Int32) (l2 : Int32) (l3 : Int32), (∀ (w2 : Int32), J SHc K Y cs (P w2) 108 [(2, .int w2)] [] h) → J SHc K Y cs (mj_O (fX7_nextOnTheWay_4 n h l1 l2 l3) P) 4 [(0, rf K 0), (1, .int l1), (2, .int l2), (3, .int l3)] [] h := by
  intro n
  induction n with
  | zero => intro h l1 l2 l3 kk0; exact mj_none
  | succ n ih =>
    intro h l1 l2 l3 kk0
    rw [fX7_nextOnTheWay_4]
    refine mj_iload_n C 3 dX7_nextOnTheWay_4 (i := 3) rfl rfl ?_
    refine mj_aload_n C 0 dX7_nextOnTheWay_5 (i := 0) rfl rfl ?_
    refine mj_getM C ff_X7_58 dX7_nextOnTheWay_6 sh_0 rfl ?_
    refine mj_getI C ff_X7_113 dX7_nextOnTheWay_9 (cn_o (cnt_dx (h 0 7))) rfl ?_
    refine mj_icmp_ge C 108 dX7_nextOnTheWay_12 (by decide) ?_ ?_
    · exact mj_sub [2] rfl (mj_some (kk0 l2))
    · refine mj_aload_n C 0 dX7_nextOnTheWay_15 (i := 0) rfl rfl ?_
      refine mj_getM C ff_X7_58 dX7_nextOnTheWay_16 sh_0 rfl ?_
      refine mj_getR C ff_X7_296 dX7_nextOnTheWay_19 (cn_o (cnt_dx (h 0 7))) rfl ?_
      refine mj_iload_n C 3 dX7_nextOnTheWay_22 (i := 3) rfl rfl ?_
      refine mj_iald C dX7_nextOnTheWay_23 (cn_11 (cnt_dx (h 0 7))) ?_
      refine mj_istoreL C (fun l4_1 => [(4, .int l4_1), (0, rf K 0), (1, .int l1), (2, .int l2), (3, .int l3)]) dX7_nextOnTheWay_24 (by decide) rfl (fun l4_1 => ?_)
      refine mj_aload_n C 1 dX7_nextOnTheWay_26 (i := 0) rfl rfl ?_
      refine mj_getM C ff_X7_58 dX7_nextOnTheWay_27 sh_0 rfl ?_
      refine mj_getR C ff_X7_299 dX7_nextOnTheWay_30 (cn_o (cnt_dx (h 0 7))) rfl ?_
      refine mj_iload_n C 4 dX7_nextOnTheWay_33 (i := 3) rfl rfl ?_
      refine mj_iald C dX7_nextOnTheWay_34 (cn_10 (cnt_dx (h 0 7))) ?_
      refine mj_iload_n C 2 dX7_nextOnTheWay_35 (i := 1) rfl rfl ?_
      refine mj_phi1 81 (fun (v_2 : Bool) => [(0, rf K 0), (1, .int l1), (2, .int l2), (3, .int l3), (4, .int l4_1)]) (fun (v_2 : Bool) => [.int (md_bi v_2)]) (fun (v_2 : Bool) => h) (fun P' kj_3 => ?_) (fun v_2 => ?_)
      · refine mj_icmp_ne C 80 dX7_nextOnTheWay_36 (by decide) ?_ ?_
        · refine mj_iconst C (v := 0) dX7_nextOnTheWay_80 rfl ?_
          exact mj_sub [1, 2, 3, 4, 0] rfl (mj_some (kj_3 false))
        · refine mj_aload_n C 1 dX7_nextOnTheWay_39 (i := 0) rfl rfl ?_
          refine mj_getR C ff_X7_51 dX7_nextOnTheWay_40 sh_0 rfl ?_
          refine mj_iload C 0 dX7_nextOnTheWay_43 rfl ?_
          refine mj_iald C dX7_nextOnTheWay_45 sh_73 ?_
          refine mj_iconst C (v := -1) dX7_nextOnTheWay_46 rfl ?_
          refine mj_icmp_eq C 80 dX7_nextOnTheWay_47 (by decide) ?_ ?_
          · refine mj_iconst C (v := 0) dX7_nextOnTheWay_80 rfl ?_
            exact mj_sub [1, 2, 3, 4, 0] rfl (mj_some (kj_3 false))
          · refine mj_aload_n C 1 dX7_nextOnTheWay_50 (i := 0) rfl rfl ?_
            refine mj_getM C ff_X7_58 dX7_nextOnTheWay_51 sh_0 rfl ?_
            refine mj_getR C ff_X7_302 dX7_nextOnTheWay_54 (cn_o (cnt_dx (h 0 7))) rfl ?_
            refine mj_iload_n C 4 dX7_nextOnTheWay_57 (i := 3) rfl rfl ?_
            refine mj_iald C dX7_nextOnTheWay_58 (cn_12 (cnt_dx (h 0 7))) ?_
            refine mj_aload_n C 1 dX7_nextOnTheWay_59 (i := 0) rfl rfl ?_
            refine mj_getR C ff_X7_51 dX7_nextOnTheWay_60 sh_0 rfl ?_
            refine mj_iload C 0 dX7_nextOnTheWay_63 rfl ?_
            refine mj_iald C dX7_nextOnTheWay_65 sh_73 ?_
            refine mj_iadd C dX7_nextOnTheWay_66 ?_
            refine mj_aload_n C 1 dX7_nextOnTheWay_67 (i := 0) rfl rfl ?_
            refine mj_getR C ff_X7_51 dX7_nextOnTheWay_68 sh_0 rfl ?_
            refine mj_iload_n C 2 dX7_nextOnTheWay_71 (i := 1) rfl rfl ?_
            refine mj_iald C dX7_nextOnTheWay_72 sh_73 ?_
            refine mj_icmp_ne C 80 dX7_nextOnTheWay_73 (by decide) ?_ ?_
            · refine mj_iconst C (v := 0) dX7_nextOnTheWay_80 rfl ?_
              exact mj_sub [1, 2, 3, 4, 0] rfl (mj_some (kj_3 false))
            · refine mj_iconst C (v := 1) dX7_nextOnTheWay_76 rfl ?_
              refine mj_goto C 81 dX7_nextOnTheWay_77 (by decide) ?_
              exact mj_sub [1, 2, 3, 4, 0] rfl (mj_some (kj_3 true))
      · refine mj_istore C [(5, .int (md_bi v_2)), (0, rf K 0), (1, .int l1), (2, .int l2), (3, .int l3), (4, .int l4_1)] dX7_nextOnTheWay_81 (by decide) rfl ?_
        refine mj_iload C 0 dX7_nextOnTheWay_83 rfl ?_
        refine mj_phi1 102 (fun (v_4 : Int32) => [(0, rf K 0), (1, .int l1), (2, .int v_4), (3, .int l3)]) (fun (v_4 : Int32) => []) (fun (v_4 : Int32) => h) (fun P' kj_5 => ?_) (fun v_4 => ?_)
        · refine mj_b_eq C 102 dX7_nextOnTheWay_85 (by decide) ?_ ?_
          · exact mj_sub [1, 2, 3, 4] rfl (mj_some (kj_5 l2))
          · refine mj_iload_n C 3 dX7_nextOnTheWay_88 (i := 2) rfl rfl ?_
            refine mj_iconst C (v := -1) dX7_nextOnTheWay_89 rfl ?_
            refine mj_icmp_eq C 99 dX7_nextOnTheWay_90 (by decide) ?_ ?_
            · refine mj_iload C 5 dX7_nextOnTheWay_99 rfl ?_
              refine mj_istore_n C [(2, .int l4_1), (5, .int (md_bi v_2)), (0, rf K 0), (1, .int l1), (3, .int l3), (4, .int l4_1)] dX7_nextOnTheWay_101 (i := 2) rfl (by decide) rfl ?_
              exact mj_sub [2, 3, 0, 4] rfl (mj_some (kj_5 l4_1))
            · refine mj_iload C 5 dX7_nextOnTheWay_93 rfl ?_
              refine mj_iload_n C 3 dX7_nextOnTheWay_95 (i := 2) rfl rfl ?_
              refine mj_icmp_ge C 102 dX7_nextOnTheWay_96 (by decide) ?_ ?_
              · exact mj_sub [1, 2, 3, 4] rfl (mj_some (kj_5 l2))
              · refine mj_iload C 5 dX7_nextOnTheWay_99 rfl ?_
                refine mj_istore_n C [(2, .int l4_1), (5, .int (md_bi v_2)), (0, rf K 0), (1, .int l1), (3, .int l3), (4, .int l4_1)] dX7_nextOnTheWay_101 (i := 2) rfl (by decide) rfl ?_
                exact mj_sub [2, 3, 0, 4] rfl (mj_some (kj_5 l4_1))
        · refine mj_iinc C (l3 + 1) 3 [(3, .int (l3 + 1)), (0, rf K 0), (1, .int l1), (2, .int v_4)] dX7_nextOnTheWay_102 rfl rfl (by decide) rfl ?_
          refine mj_goto C 4 dX7_nextOnTheWay_105 (by decide) ?_
          exact mj_sub [1, 2, 3, 0] rfl (ih h l1 v_4 (l3 + 1) kk0)
noncomputable def fX7_nextOnTheWay (h : Mm) (l1 : Int32) : Option (Int32) := md_bd (fX7_nextOnTheWay_4 md_N h l1 (-1 : Int32) (0 : Int32)) (fun (v_6 : Int32) => some v_6)
set_option maxRecDepth 100000 in
set_option maxHeartbeats 4000000 in
theorem ctX7_nextOnTheWay (K : Kx) (h : Mm) (l1 : Int32) {a : Int32} (hF : fX7_nextOnTheWay h l1 = some a) : Mt K yX7_nextOnTheWay cX7_nextOnTheWay 6 (some .int) 0 0 SHc [rf K 0, .int l1] h (some (.int a)) h := by
  refine Mt.of hF [(0, rf K 0), (1, .int l1)] (by decide) (Nat.le_of_ble_eq_true rfl) rfl (fun Y C N => ?_)
  have C : Cx K Y (0, 0) cX7_nextOnTheWay RX7 6 0 0 := C
  unfold fX7_nextOnTheWay
  refine mj_iconst C (v := -1) dX7_nextOnTheWay_0 rfl ?_
  refine mj_istore_n C [(2, .int (-1 : Int32)), (0, rf K 0), (1, .int l1)] dX7_nextOnTheWay_1 (i := 2) rfl (by decide) rfl ?_
  refine mj_iconst C (v := 0) dX7_nextOnTheWay_2 rfl ?_
  refine mj_istore_n C [(3, .int (0 : Int32)), (2, .int (-1 : Int32)), (0, rf K 0), (1, .int l1)] dX7_nextOnTheWay_3 (i := 3) rfl (by decide) rfl ?_
  refine mj_phi1 108 (fun (v_6 : Int32) => [(2, .int v_6)]) (fun (v_6 : Int32) => []) (fun (v_6 : Int32) => h) (fun P' kj_7 => mj_sub [2, 3, 1, 0] rfl (lX7_nextOnTheWay_4 C md_N h l1 (-1 : Int32) (0 : Int32) kj_7)) (fun v_6 => ?_)
  refine mj_iload_n C 0 dX7_nextOnTheWay_108 (i := 2) rfl rfl ?_
  exact mj_rI C N dX7_nextOnTheWay_109
noncomputable def fX7_talkDown (h : Mm) (l1 : Int32) (l2 : Int32) (l3 : Int32) : Option (Int32 × Mm) := md_bd (fX1_isIdea h (md_dx (h 0 7)) l1) (fun r_1 => (if r_1 = true then md_bd (fX1_isIdea h (md_dx (h 0 7)) l2) (fun r_2 => (if r_2 = true then (if l3 < 0 then some ((-1000000002 : Int32), h) else (if l3 ≤ (1 : Int32) then md_bd (fX1_findMinutes h (md_dx (h 0 7)) 73 8 l2) (fun h_3 => md_bd ((if l3 = 0 then md_ck (md_in l1 8) (some (h_3 73 (l1).toNatClampNeg)) else md_bd (fX7_nextOnTheWay h_3 l1) (fun r_6 => some r_6))) (fun (v_4 : Int32) => some (v_4, h_3))) else some ((-1000000002 : Int32), h))) else some ((-1000000001 : Int32), h))) else some ((-1000000001 : Int32), h)))
set_option maxRecDepth 100000 in
set_option maxHeartbeats 4000000 in
theorem ctX7_talkDown (K : Kx) (h : Mm) (l1 : Int32) (l2 : Int32) (l3 : Int32) {a : Int32 × Mm} (hF : fX7_talkDown h l1 l2 l3 = some a) : Mt K yX7_talkDown cX7_talkDown 4 (some .int) 1 26 SHc [rf K 0, .int l1, .int l2, .int l3] h (some (.int a.1)) a.2 := by
  refine Mt.of hF [(0, rf K 0), (1, .int l1), (2, .int l2), (3, .int l3)] (by decide) (Nat.le_of_ble_eq_true rfl) rfl (fun Y C N => ?_)
  have C : Cx K Y (0, 0) cX7_talkDown RX7 4 1 26 := C
  unfold fX7_talkDown
  refine mj_aload_n C 0 dX7_talkDown_0 (i := 0) rfl rfl ?_
  refine mj_getM C ff_X7_58 dX7_talkDown_1 sh_0 rfl ?_
  refine mj_iload_n C 1 dX7_talkDown_4 (i := 1) rfl rfl ?_
  refine mj_vB C my_X1_isIdea mv_X7_138 dX7_talkDown_5 (cn_o (cnt_dx (h 0 7))) rfl (fun a hF => ctX1_isIdea K h (md_dx (h 0 7)) l1 (cnt_dx (h 0 7)) hF) (by decide) (by decide) rfl rfl (Nat.le_of_ble_eq_true rfl) (fun r_1 => ?_)
  refine mj_b_eq C 22 dX7_talkDown_8 (by decide) ?_ ?_
  · refine mj_ldc C kc_X7_144 dX7_talkDown_22 ?_
    exact mj_rIM C N dX7_talkDown_24
  · refine mj_aload_n C 0 dX7_talkDown_11 (i := 0) rfl rfl ?_
    refine mj_getM C ff_X7_58 dX7_talkDown_12 sh_0 rfl ?_
    refine mj_iload_n C 2 dX7_talkDown_15 (i := 2) rfl rfl ?_
    refine mj_vB C my_X1_isIdea mv_X7_138 dX7_talkDown_16 (cn_o (cnt_dx (h 0 7))) rfl (fun a hF => ctX1_isIdea K h (md_dx (h 0 7)) l2 (cnt_dx (h 0 7)) hF) (by decide) (by decide) rfl rfl (Nat.le_of_ble_eq_true rfl) (fun r_2 => ?_)
    refine mj_b_ne C 25 dX7_talkDown_19 (by decide) ?_ ?_
    · refine mj_iload_n C 3 dX7_talkDown_25 (i := 3) rfl rfl ?_
      refine mj_if_lt C 34 dX7_talkDown_26 (by decide) ?_ ?_
      · refine mj_ldc C kc_X7_62 dX7_talkDown_34 ?_
        exact mj_rIM C N dX7_talkDown_36
      · refine mj_iload_n C 3 dX7_talkDown_29 (i := 3) rfl rfl ?_
        refine mj_iconst C (v := 1) dX7_talkDown_30 rfl ?_
        refine mj_icmp_le C 37 dX7_talkDown_31 (by decide) ?_ ?_
        · refine mj_aload_n C 0 dX7_talkDown_37 (i := 0) rfl rfl ?_
          refine mj_getM C ff_X7_58 dX7_talkDown_38 sh_0 rfl ?_
          refine mj_iload_n C 2 dX7_talkDown_41 (i := 2) rfl rfl ?_
          refine mj_aload_n C 0 dX7_talkDown_42 (i := 0) rfl rfl ?_
          refine mj_getR C ff_X7_51 dX7_talkDown_43 sh_0 rfl ?_
          refine mj_vM C my_X1_findMinutes mv_X7_219 dX7_talkDown_46 (cn_o (cnt_dx (h 0 7))) rfl (fun a hF => ctX1_findMinutes K h (md_dx (h 0 7)) 73 8 l2 (cnt_dx (h 0 7)) sh_73 hF) (by decide) (by decide) rfl rfl (Nat.le_of_ble_eq_true rfl) (fun h_3 => ?_)
          refine mj_iload_n C 3 dX7_talkDown_49 (i := 3) rfl rfl ?_
          refine mj_phi1 67 (fun (v_4 : Int32) => []) (fun (v_4 : Int32) => [.int v_4]) (fun (v_4 : Int32) => h_3) (fun P' kj_5 => ?_) (fun v_4 => ?_)
          · refine mj_if_ne C 62 dX7_talkDown_50 (by decide) ?_ ?_
            · refine mj_aload_n C 0 dX7_talkDown_62 (i := 0) rfl rfl ?_
              refine mj_iload_n C 1 dX7_talkDown_63 (i := 1) rfl rfl ?_
              refine mj_vI C my_X7_nextOnTheWay mv_X7_223 dX7_talkDown_64 sh_0 rfl (fun a hF => ctX7_nextOnTheWay K h_3 l1  hF) (by decide) (by decide) rfl rfl (Nat.le_of_ble_eq_true rfl) (fun r_6 => ?_)
              exact mj_sub [] rfl (mj_some (kj_5 r_6))
            · refine mj_aload_n C 0 dX7_talkDown_53 (i := 0) rfl rfl ?_
              refine mj_getR C ff_X7_51 dX7_talkDown_54 sh_0 rfl ?_
              refine mj_iload_n C 1 dX7_talkDown_57 (i := 1) rfl rfl ?_
              refine mj_iald C dX7_talkDown_58 sh_73 ?_
              refine mj_goto C 67 dX7_talkDown_59 (by decide) ?_
              exact mj_sub [] rfl (mj_some (kj_5 (h_3 73 (l1).toNatClampNeg)))
          · exact mj_rIM C N dX7_talkDown_67
        · refine mj_ldc C kc_X7_62 dX7_talkDown_34 ?_
          exact mj_rIM C N dX7_talkDown_36
    · refine mj_ldc C kc_X7_144 dX7_talkDown_22 ?_
      exact mj_rIM C N dX7_talkDown_24
noncomputable def fX7_fewestMinutes_21 (rec : Int32 → Int32 → Option Int32) : Nat → Mm → Nat → Int32 → Int32 → Int32 → Int32 → Option (Int32)
  | 0, _, _, _, _, _, _ => none
  | n + 1, h, c0, l1, l2, l3, l4 => (if (h c0 9) ≤ l4 then some l3 else md_ck (md_in l4 10) (md_lt (h (c0 + 5) (l4).toNatClampNeg) (fun l5_2 : Int32 => md_bd ((if (l1 &&& ((1 : Int32) <<< (l5_2 &&& 31))) = 0 then some l3 else md_ck (md_in l4 10) (md_bd (fX7_afterTalk h l1 l5_2 (h (c0 + 6) (l4).toNatClampNeg)) (fun r_5 => md_bd (rec r_5 (l2 - (1 : Int32))) (fun r_6 => md_ck (md_in l4 10) (md_lt ((h (c0 + 7) (l4).toNatClampNeg) + r_6) (fun l7_7 : Int32 => (if r_6 = (-1 : Int32) then some l3 else (if l3 = (-1 : Int32) then some l7_7 else (if l3 ≤ l7_7 then some l3 else some l7_7)))))))))) (fun (v_3 : Int32) => fX7_fewestMinutes_21 rec n h c0 l1 l2 v_3 (l4 + 1)))))
set_option maxRecDepth 100000 in
set_option maxHeartbeats 4000000 in
theorem lX7_fewestMinutes_21 {K : Kx} {Y : Yx} {cs : Nat × Nat} (c0 : Nat) (hc0 : isCnt c0) {d : Nat} {rec : Int32 → Int32 → Option Int32} (h : Mm) (hrec : ∀ l1 l2 a : Int32, rec l1 l2 = some a → Mt K yX7_fewestMinutes cX7_fewestMinutes 8 (some .int) (d + 3) (40 * d + 100) SHc [rf K c0, .int l1, .int l2] h (some (.int a)) h) (C : Cx K Y cs cX7_fewestMinutes RX7 8 (d + 4) (40 * d + 140)) {P : Int32 → Prop} : ∀ (n : Nat) (l1 : Int32) (l2 : Int32) (l3 : Int32) (l4 : Int32), (∀ (w3 : Int32), J SHc K Y cs (P w3) 108 [(3, .int w3)] [] h) → J SHc K Y cs (mj_O (fX7_fewestMinutes_21 rec n h c0 l1 l2 l3 l4) P) 21 [(0, rf K c0), (1, .int l1), (2, .int l2), (3, .int l3), (4, .int l4)] [] h := by
  intro n
  induction n with
  | zero => intro l1 l2 l3 l4 kk0; exact mj_none
  | succ n ih =>
    intro l1 l2 l3 l4 kk0
    rw [fX7_fewestMinutes_21]
    refine mj_iload C 4 dX7_fewestMinutes_21 rfl ?_
    refine mj_aload_n C 0 dX7_fewestMinutes_23 (i := 0) rfl rfl ?_
    refine mj_getI C ff_X7_113 dX7_fewestMinutes_24 (cn_o hc0) rfl ?_
    refine mj_icmp_ge C 108 dX7_fewestMinutes_27 (by decide) ?_ ?_
    · exact mj_sub [3] rfl (mj_some (kk0 l3))
    · refine mj_aload_n C 0 dX7_fewestMinutes_30 (i := 0) rfl rfl ?_
      refine mj_getR C ff_X7_299 dX7_fewestMinutes_31 (cn_o hc0) rfl ?_
      refine mj_iload C 4 dX7_fewestMinutes_34 rfl ?_
      refine mj_iald C dX7_fewestMinutes_36 (cn_10 hc0) ?_
      refine mj_istoreL C (fun l5_2 => [(5, .int l5_2), (0, rf K c0), (1, .int l1), (2, .int l2), (3, .int l3), (4, .int l4)]) dX7_fewestMinutes_37 (by decide) rfl (fun l5_2 => ?_)
      refine mj_iload_n C 2 dX7_fewestMinutes_39 (i := 1) rfl rfl ?_
      refine mj_iconst C (v := 1) dX7_fewestMinutes_40 rfl ?_
      refine mj_iload C 0 dX7_fewestMinutes_41 rfl ?_
      refine mj_ishl C dX7_fewestMinutes_43 ?_
      refine mj_iand C dX7_fewestMinutes_44 ?_
      refine mj_phi1 102 (fun (v_3 : Int32) => [(0, rf K c0), (1, .int l1), (2, .int l2), (3, .int v_3), (4, .int l4)]) (fun (v_3 : Int32) => []) (fun (v_3 : Int32) => h) (fun P' kj_4 => ?_) (fun v_3 => ?_)
      · refine mj_if_eq C 102 dX7_fewestMinutes_45 (by decide) ?_ ?_
        · exact mj_sub [1, 2, 3, 4, 5] rfl (mj_some (kj_4 l3))
        · refine mj_aload_n C 1 dX7_fewestMinutes_48 (i := 0) rfl rfl ?_
          refine mj_iload_n C 2 dX7_fewestMinutes_49 (i := 1) rfl rfl ?_
          refine mj_iload C 0 dX7_fewestMinutes_50 rfl ?_
          refine mj_aload_n C 1 dX7_fewestMinutes_52 (i := 0) rfl rfl ?_
          refine mj_getR C ff_X7_296 dX7_fewestMinutes_53 (cn_o hc0) rfl ?_
          refine mj_iload C 5 dX7_fewestMinutes_56 rfl ?_
          refine mj_iald C dX7_fewestMinutes_58 (cn_11 hc0) ?_
          refine mj_sI C my_X7_afterTalk ms_X7_180 dX7_fewestMinutes_59 (fun a hF => ctX7_afterTalk K h l1 l5_2 (h (c0 + 6) (l4).toNatClampNeg)  hF) (by omega) (by omega) rfl rfl (Nat.le_of_ble_eq_true rfl) (fun r_5 => ?_)
          refine mj_iload_n C 3 dX7_fewestMinutes_62 (i := 2) rfl rfl ?_
          refine mj_iconst C (v := 1) dX7_fewestMinutes_63 rfl ?_
          refine mj_isub C dX7_fewestMinutes_64 ?_
          refine mj_sI C my_X7_fewestMinutes ms_X7_226 dX7_fewestMinutes_65 (fun a hF => hrec r_5 (l2 - (1 : Int32)) a hF) (by omega) (by omega) rfl rfl (Nat.le_of_ble_eq_true rfl) (fun r_6 => ?_)
          refine mj_istore C [(6, .int r_6), (5, .int l5_2), (0, rf K c0), (1, .int l1), (2, .int l2), (3, .int l3), (4, .int l4)] dX7_fewestMinutes_68 (by decide) rfl ?_
          refine mj_aload_n C 2 dX7_fewestMinutes_70 (i := 0) rfl rfl ?_
          refine mj_getR C ff_X7_302 dX7_fewestMinutes_71 (cn_o hc0) rfl ?_
          refine mj_iload C 6 dX7_fewestMinutes_74 rfl ?_
          refine mj_iald C dX7_fewestMinutes_76 (cn_12 hc0) ?_
          refine mj_iload C 0 dX7_fewestMinutes_77 rfl ?_
          refine mj_iadd C dX7_fewestMinutes_79 ?_
          refine mj_istoreL C (fun l7_7 => [(7, .int l7_7), (6, .int r_6), (5, .int l5_2), (0, rf K c0), (1, .int l1), (2, .int l2), (3, .int l3), (4, .int l4)]) dX7_fewestMinutes_80 (by decide) rfl (fun l7_7 => ?_)
          refine mj_iload C 1 dX7_fewestMinutes_82 rfl ?_
          refine mj_iconst C (v := -1) dX7_fewestMinutes_84 rfl ?_
          refine mj_icmp_eq C 102 dX7_fewestMinutes_85 (by decide) ?_ ?_
          · exact mj_sub [3, 4, 5, 6, 7] rfl (mj_some (kj_4 l3))
          · refine mj_iload_n C 6 dX7_fewestMinutes_88 (i := 3) rfl rfl ?_
            refine mj_iconst C (v := -1) dX7_fewestMinutes_89 rfl ?_
            refine mj_icmp_eq C 99 dX7_fewestMinutes_90 (by decide) ?_ ?_
            · refine mj_iload C 0 dX7_fewestMinutes_99 rfl ?_
              refine mj_istore_n C [(3, .int l7_7), (7, .int l7_7), (6, .int r_6), (5, .int l5_2), (0, rf K c0), (1, .int l1), (2, .int l2), (4, .int l4)] dX7_fewestMinutes_101 (i := 3) rfl (by decide) rfl ?_
              exact mj_sub [4, 5, 6, 0, 7] rfl (mj_some (kj_4 l7_7))
            · refine mj_iload C 0 dX7_fewestMinutes_93 rfl ?_
              refine mj_iload_n C 6 dX7_fewestMinutes_95 (i := 3) rfl rfl ?_
              refine mj_icmp_ge C 102 dX7_fewestMinutes_96 (by decide) ?_ ?_
              · exact mj_sub [3, 4, 5, 6, 7] rfl (mj_some (kj_4 l3))
              · refine mj_iload C 0 dX7_fewestMinutes_99 rfl ?_
                refine mj_istore_n C [(3, .int l7_7), (7, .int l7_7), (6, .int r_6), (5, .int l5_2), (0, rf K c0), (1, .int l1), (2, .int l2), (4, .int l4)] dX7_fewestMinutes_101 (i := 3) rfl (by decide) rfl ?_
                exact mj_sub [4, 5, 6, 0, 7] rfl (mj_some (kj_4 l7_7))
      · refine mj_iinc C (l4 + 1) 4 [(4, .int (l4 + 1)), (0, rf K c0), (1, .int l1), (2, .int l2), (3, .int v_3)] dX7_fewestMinutes_102 rfl rfl (by decide) rfl ?_
        refine mj_goto C 21 dX7_fewestMinutes_105 (by decide) ?_
        exact mj_sub [1, 2, 3, 4, 0] rfl (ih l1 l2 v_3 (l4 + 1) kk0)
noncomputable def gX7_fewestMinutes : Nat → Mm → Nat → Int32 → Int32 → Option Int32
  | 0, _, _, _, _ => none
  | d + 1, h, c0, l1, l2 => md_bd (fX1_isStuck h c0 l1) (fun r_1 => (if r_1 = true then (if 0 < l2 then md_bd (fX7_fewestMinutes_21 (fun x y => gX7_fewestMinutes d h c0 x y) md_N h c0 l1 l2 (-1 : Int32) (0 : Int32)) (fun (v_8 : Int32) => some v_8) else some (-1 : Int32)) else some (0 : Int32)))
set_option maxRecDepth 100000 in
set_option maxHeartbeats 4000000 in
theorem cgX7_fewestMinutes (K : Kx) (h : Mm) (c0 : Nat) (hc0 : isCnt c0) : ∀ (d : Nat) (l1 l2 a : Int32), gX7_fewestMinutes d h c0 l1 l2 = some a → Mt K yX7_fewestMinutes cX7_fewestMinutes 8 (some .int) (d + 3) (40 * d + 100) SHc [rf K c0, .int l1, .int l2] h (some (.int a)) h := by
  intro d
  induction d with
  | zero => intro l1 l2 a hF; simp [gX7_fewestMinutes] at hF
  | succ d ih =>
    intro l1 l2 a hF
    refine Mt.of hF [(0, rf K c0), (1, .int l1), (2, .int l2)] (by decide) (Nat.le_of_ble_eq_true rfl) rfl (fun Y C N => ?_)
    have C : Cx K Y (0, 0) cX7_fewestMinutes RX7 8 (d + 4) (40 * d + 140) := C
    rw [gX7_fewestMinutes]
    refine mj_aload_n C 0 dX7_fewestMinutes_0 (i := 0) rfl rfl ?_
    refine mj_iload_n C 1 dX7_fewestMinutes_1 (i := 1) rfl rfl ?_
    refine mj_vB C my_X1_isStuck mv_X7_161 dX7_fewestMinutes_2 (cn_o hc0) rfl (fun a hF => ctX1_isStuck K h c0 l1 hc0 hF) (by omega) (by omega) rfl rfl (Nat.le_of_ble_eq_true rfl) (fun r_1 => ?_)
    refine mj_b_ne C 10 dX7_fewestMinutes_5 (by decide) ?_ ?_
    · refine mj_iload_n C 2 dX7_fewestMinutes_10 (i := 2) rfl rfl ?_
      refine mj_if_gt C 16 dX7_fewestMinutes_11 (by decide) ?_ ?_
      · refine mj_iconst C (v := -1) dX7_fewestMinutes_16 rfl ?_
        refine mj_istore_n C [(3, .int (-1 : Int32)), (0, rf K c0), (1, .int l1), (2, .int l2)] dX7_fewestMinutes_17 (i := 3) rfl (by decide) rfl ?_
        refine mj_iconst C (v := 0) dX7_fewestMinutes_18 rfl ?_
        refine mj_istore C [(4, .int (0 : Int32)), (3, .int (-1 : Int32)), (0, rf K c0), (1, .int l1), (2, .int l2)] dX7_fewestMinutes_19 (by decide) rfl ?_
        refine mj_phi1 108 (fun (v_8 : Int32) => [(3, .int v_8)]) (fun (v_8 : Int32) => []) (fun (v_8 : Int32) => h) (fun P' kj_9 => mj_sub [2, 3, 4, 1, 0] rfl (lX7_fewestMinutes_21 c0 hc0 h ih C md_N l1 l2 (-1 : Int32) (0 : Int32) kj_9)) (fun v_8 => ?_)
        refine mj_iload_n C 0 dX7_fewestMinutes_108 (i := 3) rfl rfl ?_
        exact mj_rI C N dX7_fewestMinutes_109
      · refine mj_iconst C (v := -1) dX7_fewestMinutes_14 rfl ?_
        exact mj_rI C N dX7_fewestMinutes_15
    · refine mj_iconst C (v := 0) dX7_fewestMinutes_8 rfl ?_
      exact mj_rI C N dX7_fewestMinutes_9
noncomputable def fX7_fewestMinutes (h : Mm) (c0 : Nat) (l1 : Int32) (l2 : Int32) : Option Int32 := gX7_fewestMinutes 10 h c0 l1 l2
theorem ctX7_fewestMinutes (K : Kx) (h : Mm) (c0 : Nat) (l1 : Int32) (l2 : Int32) (hc0 : isCnt c0) {a : Int32} (hF : fX7_fewestMinutes h c0 l1 l2 = some a) : Mt K yX7_fewestMinutes cX7_fewestMinutes 8 (some .int) 13 500 SHc [rf K c0, .int l1, .int l2] h (some (.int a)) h := cgX7_fewestMinutes K h c0 hc0 10 l1 l2 a hF
noncomputable def fX7_soonest (h : Mm) (l1 : Int32) : Option (Int32) := md_bd (fX1_isTraveller h (md_dx (h 0 7)) l1) (fun r_1 => (if r_1 = true then md_bd (fX4_isGone h 13 l1) (fun r_2 => md_bd ((if r_2 = true then some (-1000000003 : Int32) else md_bd (fX4_mindOf h 13 l1) (fun r_5 => md_bd (fX7_fewestMinutes h (md_dx (h 0 7)) r_5 (3 : Int32)) (fun r_6 => some r_6)))) (fun (v_3 : Int32) => some v_3)) else some (-1000000001 : Int32)))
set_option maxRecDepth 100000 in
set_option maxHeartbeats 4000000 in
theorem ctX7_soonest (K : Kx) (h : Mm) (l1 : Int32) {a : Int32} (hF : fX7_soonest h l1 = some a) : Mt K yX7_soonest cX7_soonest 2 (some .int) 14 527 SHc [rf K 0, .int l1] h (some (.int a)) h := by
  refine Mt.of hF [(0, rf K 0), (1, .int l1)] (by decide) (Nat.le_of_ble_eq_true rfl) rfl (fun Y C N => ?_)
  have C : Cx K Y (0, 0) cX7_soonest RX7 2 14 527 := C
  unfold fX7_soonest
  refine mj_aload_n C 0 dX7_soonest_0 (i := 0) rfl rfl ?_
  refine mj_getM C ff_X7_58 dX7_soonest_1 sh_0 rfl ?_
  refine mj_iload_n C 1 dX7_soonest_4 (i := 1) rfl rfl ?_
  refine mj_vB C my_X1_isTraveller mv_X7_145 dX7_soonest_5 (cn_o (cnt_dx (h 0 7))) rfl (fun a hF => ctX1_isTraveller K h (md_dx (h 0 7)) l1 (cnt_dx (h 0 7)) hF) (by decide) (by decide) rfl rfl (Nat.le_of_ble_eq_true rfl) (fun r_1 => ?_)
  refine mj_b_ne C 14 dX7_soonest_8 (by decide) ?_ ?_
  · refine mj_aload_n C 0 dX7_soonest_14 (i := 0) rfl rfl ?_
    refine mj_getR C ff_X7_19 dX7_soonest_15 sh_0 rfl ?_
    refine mj_iload_n C 1 dX7_soonest_18 (i := 1) rfl rfl ?_
    refine mj_vB C my_X4_isGone mv_X7_158 dX7_soonest_19 (ps_o ps_13) rfl (fun a hF => ctX4_isGone K h 13 l1 ps_13 hF) (by decide) (by decide) rfl rfl (Nat.le_of_ble_eq_true rfl) (fun r_2 => ?_)
    refine mj_phi1 46 (fun (v_3 : Int32) => []) (fun (v_3 : Int32) => [.int v_3]) (fun (v_3 : Int32) => h) (fun P' kj_4 => ?_) (fun v_3 => ?_)
    · refine mj_b_eq C 30 dX7_soonest_22 (by decide) ?_ ?_
      · refine mj_aload_n C 0 dX7_soonest_30 (i := 0) rfl rfl ?_
        refine mj_getM C ff_X7_58 dX7_soonest_31 sh_0 rfl ?_
        refine mj_aload_n C 0 dX7_soonest_34 (i := 0) rfl rfl ?_
        refine mj_getR C ff_X7_19 dX7_soonest_35 sh_0 rfl ?_
        refine mj_iload_n C 1 dX7_soonest_38 (i := 1) rfl rfl ?_
        refine mj_vI C my_X4_mindOf mv_X7_148 dX7_soonest_39 (ps_o ps_13) rfl (fun a hF => ctX4_mindOf K h 13 l1 ps_13 hF) (by decide) (by decide) rfl rfl (Nat.le_of_ble_eq_true rfl) (fun r_5 => ?_)
        refine mj_iconst C (v := 3) dX7_soonest_42 rfl ?_
        refine mj_sI C my_X7_fewestMinutes ms_X7_226 dX7_soonest_43 (fun a hF => ctX7_fewestMinutes K h (md_dx (h 0 7)) r_5 (3 : Int32) (cnt_dx (h 0 7)) hF) (by decide) (by decide) rfl rfl (Nat.le_of_ble_eq_true rfl) (fun r_6 => ?_)
        exact mj_sub [] rfl (mj_some (kj_4 r_6))
      · refine mj_ldc C kc_X7_164 dX7_soonest_25 ?_
        refine mj_goto C 46 dX7_soonest_27 (by decide) ?_
        exact mj_sub [] rfl (mj_some (kj_4 (-1000000003 : Int32)))
    · exact mj_rI C N dX7_soonest_46
  · refine mj_ldc C kc_X7_144 dX7_soonest_11 ?_
    exact mj_rI C N dX7_soonest_13
noncomputable def fX7_smallestRegister_20 : Nat → Mm → Int32 → Int32 → Int32 → Int32 → Option (Int32)
  | 0, _, _, _, _, _ => none
  | n + 1, h, l1, l2, l3, l4 => (if l3 ≤ l4 then some l2 else md_bd (fJ6_bitCount_0f7a4 h l4) (fun r_3 => md_bd (fJ6_bitCount_0f7a4 h l2) (fun r_4 => md_bd ((if r_4 ≤ r_3 then some l2 else md_bd (fX1_allFrom h (md_dx (h 0 7)) l4) (fun r_7 => (if r_7 = l1 then some l4 else some l2)))) (fun (v_5 : Int32) => fX7_smallestRegister_20 n h l1 v_5 l3 (l4 + 1)))))
set_option maxRecDepth 100000 in
set_option maxHeartbeats 4000000 in
theorem lX7_smallestRegister_20 {K : Kx} {Y : Yx} {cs : Nat × Nat} (C : Cx K Y cs cX7_smallestRegister RX7 5 3 62) {P : Int32 → Prop} : ∀ (n : Nat) (h : Mm) (l1 : Int32) (l2 : Int32) (l3 : Int32) (l4 : Int32), (∀ (w2 : Int32), J SHc K Y cs (P w2) 60 [(2, .int w2)] [] h) → J SHc K Y cs (mj_O (fX7_smallestRegister_20 n h l1 l2 l3 l4) P) 20 [(0, rf K 0), (1, .int l1), (2, .int l2), (3, .int l3), (4, .int l4)] [] h := by
  intro n
  induction n with
  | zero => intro h l1 l2 l3 l4 kk0; exact mj_none
  | succ n ih =>
    intro h l1 l2 l3 l4 kk0
    rw [fX7_smallestRegister_20]
    refine mj_iload C 4 dX7_smallestRegister_20 rfl ?_
    refine mj_iload_n C 3 dX7_smallestRegister_22 (i := 3) rfl rfl ?_
    refine mj_icmp_ge C 60 dX7_smallestRegister_23 (by decide) ?_ ?_
    · exact mj_sub [2] rfl (mj_some (kk0 l2))
    · refine mj_iload C 4 dX7_smallestRegister_26 rfl ?_
      refine mj_sI C my_J6_bitCount_0f7a4 ms_X7_305 dX7_smallestRegister_28 (fun a hF => ctJ6_bitCount_0f7a4 K h l4  hF) (by decide) (by decide) rfl rfl (Nat.le_of_ble_eq_true rfl) (fun r_3 => ?_)
      refine mj_iload_n C 2 dX7_smallestRegister_31 (i := 2) rfl rfl ?_
      refine mj_sI C my_J6_bitCount_0f7a4 ms_X7_305 dX7_smallestRegister_32 (fun a hF => ctJ6_bitCount_0f7a4 K h l2  hF) (by decide) (by decide) rfl rfl (Nat.le_of_ble_eq_true rfl) (fun r_4 => ?_)
      refine mj_phi1 54 (fun (v_5 : Int32) => [(0, rf K 0), (1, .int l1), (2, .int v_5), (3, .int l3), (4, .int l4)]) (fun (v_5 : Int32) => []) (fun (v_5 : Int32) => h) (fun P' kj_6 => ?_) (fun v_5 => ?_)
      · refine mj_icmp_ge C 54 dX7_smallestRegister_35 (by decide) ?_ ?_
        · exact mj_sub [0, 1, 2, 3, 4] rfl (mj_some (kj_6 l2))
        · refine mj_aload_n C 0 dX7_smallestRegister_38 (i := 0) rfl rfl ?_
          refine mj_getM C ff_X7_58 dX7_smallestRegister_39 sh_0 rfl ?_
          refine mj_iload C 4 dX7_smallestRegister_42 rfl ?_
          refine mj_vI C my_X1_allFrom mv_X7_210 dX7_smallestRegister_44 (cn_o (cnt_dx (h 0 7))) rfl (fun a hF => ctX1_allFrom K h (md_dx (h 0 7)) l4 (cnt_dx (h 0 7)) hF) (by decide) (by decide) rfl rfl (Nat.le_of_ble_eq_true rfl) (fun r_7 => ?_)
          refine mj_iload_n C 1 dX7_smallestRegister_47 (i := 1) rfl rfl ?_
          refine mj_icmp_ne C 54 dX7_smallestRegister_48 (by decide) ?_ ?_
          · exact mj_sub [0, 1, 2, 3, 4] rfl (mj_some (kj_6 l2))
          · refine mj_iload C 4 dX7_smallestRegister_51 rfl ?_
            refine mj_istore_n C [(2, .int l4), (0, rf K 0), (1, .int l1), (3, .int l3), (4, .int l4)] dX7_smallestRegister_53 (i := 2) rfl (by decide) rfl ?_
            exact mj_sub [1, 2, 0, 3, 4] rfl (mj_some (kj_6 l4))
      · refine mj_iinc C (l4 + 1) 4 [(4, .int (l4 + 1)), (0, rf K 0), (1, .int l1), (2, .int v_5), (3, .int l3)] dX7_smallestRegister_54 rfl rfl (by decide) rfl ?_
        refine mj_goto C 20 dX7_smallestRegister_57 (by decide) ?_
        exact mj_sub [1, 2, 3, 4, 0] rfl (ih h l1 v_5 l3 (l4 + 1) kk0)
noncomputable def fX7_smallestRegister (h : Mm) : Option (Int32) := md_bd (fX7_inTheCountry h) (fun r_1 => md_lt ((1 : Int32) <<< ((h (md_dx (h 0 7)) 3) &&& 31)) (fun l3_2 : Int32 => md_bd (fX7_smallestRegister_20 md_N h r_1 r_1 l3_2 (0 : Int32)) (fun (v_8 : Int32) => some v_8)))
set_option maxRecDepth 100000 in
set_option maxHeartbeats 4000000 in
theorem ctX7_smallestRegister (K : Kx) (h : Mm) {a : Int32} (hF : fX7_smallestRegister h = some a) : Mt K yX7_smallestRegister cX7_smallestRegister 5 (some .int) 3 62 SHc [rf K 0] h (some (.int a)) h := by
  refine Mt.of hF [(0, rf K 0)] (by decide) (Nat.le_of_ble_eq_true rfl) rfl (fun Y C N => ?_)
  have C : Cx K Y (0, 0) cX7_smallestRegister RX7 5 3 62 := C
  unfold fX7_smallestRegister
  refine mj_aload_n C 0 dX7_smallestRegister_0 (i := 0) rfl rfl ?_
  refine mj_vI C my_X7_inTheCountry mv_X7_122 dX7_smallestRegister_1 sh_0 rfl (fun a hF => ctX7_inTheCountry K h   hF) (by decide) (by decide) rfl rfl (Nat.le_of_ble_eq_true rfl) (fun r_1 => ?_)
  refine mj_istore_n C [(1, .int r_1), (0, rf K 0)] dX7_smallestRegister_4 (i := 1) rfl (by decide) rfl ?_
  refine mj_iload_n C 0 dX7_smallestRegister_5 (i := 1) rfl rfl ?_
  refine mj_istore_n C [(2, .int r_1), (1, .int r_1), (0, rf K 0)] dX7_smallestRegister_6 (i := 2) rfl (by decide) rfl ?_
  refine mj_iconst C (v := 1) dX7_smallestRegister_7 rfl ?_
  refine mj_aload_n C 2 dX7_smallestRegister_8 (i := 0) rfl rfl ?_
  refine mj_getM C ff_X7_58 dX7_smallestRegister_9 sh_0 rfl ?_
  refine mj_getI C ff_X7_98 dX7_smallestRegister_12 (cn_o (cnt_dx (h 0 7))) rfl ?_
  refine mj_ishl C dX7_smallestRegister_15 ?_
  refine mj_istore_nL C (fun l3_2 => [(3, .int l3_2), (2, .int r_1), (1, .int r_1), (0, rf K 0)]) dX7_smallestRegister_16 (i := 3) rfl (by decide) rfl (fun l3_2 => ?_)
  refine mj_iconst C (v := 0) dX7_smallestRegister_17 rfl ?_
  refine mj_istore C [(4, .int (0 : Int32)), (3, .int l3_2), (2, .int r_1), (1, .int r_1), (0, rf K 0)] dX7_smallestRegister_18 (by decide) rfl ?_
  refine mj_phi1 60 (fun (v_8 : Int32) => [(2, .int v_8)]) (fun (v_8 : Int32) => []) (fun (v_8 : Int32) => h) (fun P' kj_9 => mj_sub [4, 3, 2, 1, 0] rfl (lX7_smallestRegister_20 C md_N h r_1 r_1 l3_2 (0 : Int32) kj_9)) (fun v_8 => ?_)
  refine mj_iload_n C 0 dX7_smallestRegister_60 (i := 2) rfl rfl ?_
  exact mj_rI C N dX7_smallestRegister_61
noncomputable def fX7_needless_9 : Nat → Mm → Int32 → Int32 → Int32 → Option (Int32)
  | 0, _, _, _, _ => none
  | n + 1, h, l1, l2, l3 => (if (h (md_dx (h 0 7)) 3) ≤ l3 then some l2 else md_bd ((if ((h 13 1) &&& ((1 : Int32) <<< (l3 &&& 31))) = 0 then some false else some true)) (fun (v_2 : Bool) => md_bd ((if v_2 = true then md_bd (fX1_allFrom h (md_dx (h 0 7)) ((h 13 1) &&& (((1 : Int32) <<< (l3 &&& 31)) ^^^ (-1 : Int32)))) (fun r_6 => (if r_6 = l1 then md_lt (l2 ||| ((1 : Int32) <<< (l3 &&& 31))) (fun l2_7 : Int32 => some l2_7) else some l2)) else some l2)) (fun (v_4 : Int32) => fX7_needless_9 n h l1 v_4 (l3 + 1))))
set_option maxRecDepth 100000 in
set_option maxHeartbeats 4000000 in
theorem lX7_needless_9 {K : Kx} {Y : Yx} {cs : Nat × Nat} (C : Cx K Y cs cX7_needless RX7 5 3 62) {P : Int32 → Prop} : ∀ (n : Nat) (h : Mm) (l1 : Int32) (l2 : Int32) (l3 : Int32), (∀ (w2 : Int32), J SHc K Y cs (P w2) 82 [(2, .int w2)] [] h) → J SHc K Y cs (mj_O (fX7_needless_9 n h l1 l2 l3) P) 9 [(0, rf K 0), (1, .int l1), (2, .int l2), (3, .int l3)] [] h := by
  intro n
  induction n with
  | zero => intro h l1 l2 l3 kk0; exact mj_none
  | succ n ih =>
    intro h l1 l2 l3 kk0
    rw [fX7_needless_9]
    refine mj_iload_n C 3 dX7_needless_9 (i := 3) rfl rfl ?_
    refine mj_aload_n C 0 dX7_needless_10 (i := 0) rfl rfl ?_
    refine mj_getM C ff_X7_58 dX7_needless_11 sh_0 rfl ?_
    refine mj_getI C ff_X7_98 dX7_needless_14 (cn_o (cnt_dx (h 0 7))) rfl ?_
    refine mj_icmp_ge C 82 dX7_needless_17 (by decide) ?_ ?_
    · exact mj_sub [2] rfl (mj_some (kk0 l2))
    · refine mj_aload_n C 0 dX7_needless_20 (i := 0) rfl rfl ?_
      refine mj_getR C ff_X7_19 dX7_needless_21 sh_0 rfl ?_
      refine mj_getI C ff_X7_119 dX7_needless_24 (ps_o ps_13) rfl ?_
      refine mj_iconst C (v := 1) dX7_needless_27 rfl ?_
      refine mj_iload_n C 3 dX7_needless_28 (i := 3) rfl rfl ?_
      refine mj_ishl C dX7_needless_29 ?_
      refine mj_iand C dX7_needless_30 ?_
      refine mj_phi1 39 (fun (v_2 : Bool) => [(0, rf K 0), (1, .int l1), (2, .int l2), (3, .int l3)]) (fun (v_2 : Bool) => [.int (md_bi v_2)]) (fun (v_2 : Bool) => h) (fun P' kj_3 => ?_) (fun v_2 => ?_)
      · refine mj_if_eq C 38 dX7_needless_31 (by decide) ?_ ?_
        · refine mj_iconst C (v := 0) dX7_needless_38 rfl ?_
          exact mj_sub [0, 1, 2, 3] rfl (mj_some (kj_3 false))
        · refine mj_iconst C (v := 1) dX7_needless_34 rfl ?_
          refine mj_goto C 39 dX7_needless_35 (by decide) ?_
          exact mj_sub [0, 1, 2, 3] rfl (mj_some (kj_3 true))
      · refine mj_istore C [(4, .int (md_bi v_2)), (0, rf K 0), (1, .int l1), (2, .int l2), (3, .int l3)] dX7_needless_39 (by decide) rfl ?_
        refine mj_iload C 0 dX7_needless_41 rfl ?_
        refine mj_phi1 76 (fun (v_4 : Int32) => [(0, rf K 0), (1, .int l1), (2, .int v_4), (3, .int l3)]) (fun (v_4 : Int32) => []) (fun (v_4 : Int32) => h) (fun P' kj_5 => ?_) (fun v_4 => ?_)
        · refine mj_b_eq C 76 dX7_needless_43 (by decide) ?_ ?_
          · exact mj_sub [1, 2, 3, 4] rfl (mj_some (kj_5 l2))
          · refine mj_aload_n C 1 dX7_needless_46 (i := 0) rfl rfl ?_
            refine mj_getM C ff_X7_58 dX7_needless_47 sh_0 rfl ?_
            refine mj_aload_n C 1 dX7_needless_50 (i := 0) rfl rfl ?_
            refine mj_getR C ff_X7_19 dX7_needless_51 sh_0 rfl ?_
            refine mj_getI C ff_X7_119 dX7_needless_54 (ps_o ps_13) rfl ?_
            refine mj_iconst C (v := 1) dX7_needless_57 rfl ?_
            refine mj_iload_n C 4 dX7_needless_58 (i := 3) rfl rfl ?_
            refine mj_ishl C dX7_needless_59 ?_
            refine mj_iconst C (v := -1) dX7_needless_60 rfl ?_
            refine mj_ixor C dX7_needless_61 ?_
            refine mj_iand C dX7_needless_62 ?_
            refine mj_vI C my_X1_allFrom mv_X7_210 dX7_needless_63 (cn_o (cnt_dx (h 0 7))) rfl (fun a hF => ctX1_allFrom K h (md_dx (h 0 7)) ((h 13 1) &&& (((1 : Int32) <<< (l3 &&& 31)) ^^^ (-1 : Int32))) (cnt_dx (h 0 7)) hF) (by decide) (by decide) rfl rfl (Nat.le_of_ble_eq_true rfl) (fun r_6 => ?_)
            refine mj_iload_n C 2 dX7_needless_66 (i := 1) rfl rfl ?_
            refine mj_icmp_ne C 76 dX7_needless_67 (by decide) ?_ ?_
            · exact mj_sub [1, 2, 3, 4] rfl (mj_some (kj_5 l2))
            · refine mj_iload_n C 3 dX7_needless_70 (i := 2) rfl rfl ?_
              refine mj_iconst C (v := 1) dX7_needless_71 rfl ?_
              refine mj_iload_n C 4 dX7_needless_72 (i := 3) rfl rfl ?_
              refine mj_ishl C dX7_needless_73 ?_
              refine mj_ior C dX7_needless_74 ?_
              refine mj_istore_nL C (fun l2_7 => [(2, .int l2_7), (4, .int (md_bi v_2)), (0, rf K 0), (1, .int l1), (3, .int l3)]) dX7_needless_75 (i := 2) rfl (by decide) rfl (fun l2_7 => ?_)
              exact mj_sub [2, 3, 0, 4] rfl (mj_some (kj_5 l2_7))
        · refine mj_iinc C (l3 + 1) 3 [(3, .int (l3 + 1)), (0, rf K 0), (1, .int l1), (2, .int v_4)] dX7_needless_76 rfl rfl (by decide) rfl ?_
          refine mj_goto C 9 dX7_needless_79 (by decide) ?_
          exact mj_sub [1, 2, 3, 0] rfl (ih h l1 v_4 (l3 + 1) kk0)
noncomputable def fX7_needless (h : Mm) : Option (Int32) := md_bd (fX7_inTheCountry h) (fun r_1 => md_bd (fX7_needless_9 md_N h r_1 (0 : Int32) (0 : Int32)) (fun (v_8 : Int32) => some v_8))
set_option maxRecDepth 100000 in
set_option maxHeartbeats 4000000 in
theorem ctX7_needless (K : Kx) (h : Mm) {a : Int32} (hF : fX7_needless h = some a) : Mt K yX7_needless cX7_needless 5 (some .int) 3 62 SHc [rf K 0] h (some (.int a)) h := by
  refine Mt.of hF [(0, rf K 0)] (by decide) (Nat.le_of_ble_eq_true rfl) rfl (fun Y C N => ?_)
  have C : Cx K Y (0, 0) cX7_needless RX7 5 3 62 := C
  unfold fX7_needless
  refine mj_aload_n C 0 dX7_needless_0 (i := 0) rfl rfl ?_
  refine mj_vI C my_X7_inTheCountry mv_X7_122 dX7_needless_1 sh_0 rfl (fun a hF => ctX7_inTheCountry K h   hF) (by decide) (by decide) rfl rfl (Nat.le_of_ble_eq_true rfl) (fun r_1 => ?_)
  refine mj_istore_n C [(1, .int r_1), (0, rf K 0)] dX7_needless_4 (i := 1) rfl (by decide) rfl ?_
  refine mj_iconst C (v := 0) dX7_needless_5 rfl ?_
  refine mj_istore_n C [(2, .int (0 : Int32)), (1, .int r_1), (0, rf K 0)] dX7_needless_6 (i := 2) rfl (by decide) rfl ?_
  refine mj_iconst C (v := 0) dX7_needless_7 rfl ?_
  refine mj_istore_n C [(3, .int (0 : Int32)), (2, .int (0 : Int32)), (1, .int r_1), (0, rf K 0)] dX7_needless_8 (i := 3) rfl (by decide) rfl ?_
  refine mj_phi1 82 (fun (v_8 : Int32) => [(2, .int v_8)]) (fun (v_8 : Int32) => []) (fun (v_8 : Int32) => h) (fun P' kj_9 => mj_sub [3, 2, 1, 0] rfl (lX7_needless_9 C md_N h r_1 (0 : Int32) (0 : Int32) kj_9)) (fun v_8 => ?_)
  refine mj_iload_n C 0 dX7_needless_82 (i := 2) rfl rfl ?_
  exact mj_rI C N dX7_needless_83
noncomputable def fX7_smallest (h : Mm) (l1 : Int32) : Option (Int32) := (if l1 < 0 then some (-1000000002 : Int32) else (if l1 ≤ (1 : Int32) then md_bd ((if l1 = 0 then md_bd (fX7_smallestRegister h) (fun r_4 => some r_4) else md_bd (fX7_needless h) (fun r_3 => some r_3))) (fun (v_1 : Int32) => some v_1) else some (-1000000002 : Int32)))
set_option maxRecDepth 100000 in
set_option maxHeartbeats 4000000 in
theorem ctX7_smallest (K : Kx) (h : Mm) (l1 : Int32) {a : Int32} (hF : fX7_smallest h l1 = some a) : Mt K yX7_smallest cX7_smallest 2 (some .int) 4 86 SHc [rf K 0, .int l1] h (some (.int a)) h := by
  refine Mt.of hF [(0, rf K 0), (1, .int l1)] (by decide) (Nat.le_of_ble_eq_true rfl) rfl (fun Y C N => ?_)
  have C : Cx K Y (0, 0) cX7_smallest RX7 2 4 86 := C
  unfold fX7_smallest
  refine mj_iload_n C 1 dX7_smallest_0 (i := 1) rfl rfl ?_
  refine mj_if_lt C 9 dX7_smallest_1 (by decide) ?_ ?_
  · refine mj_ldc C kc_X7_62 dX7_smallest_9 ?_
    exact mj_rI C N dX7_smallest_11
  · refine mj_iload_n C 1 dX7_smallest_4 (i := 1) rfl rfl ?_
    refine mj_iconst C (v := 1) dX7_smallest_5 rfl ?_
    refine mj_icmp_le C 12 dX7_smallest_6 (by decide) ?_ ?_
    · refine mj_iload_n C 1 dX7_smallest_12 (i := 1) rfl rfl ?_
      refine mj_phi1 27 (fun (v_1 : Int32) => []) (fun (v_1 : Int32) => [.int v_1]) (fun (v_1 : Int32) => h) (fun P' kj_2 => ?_) (fun v_1 => ?_)
      · refine mj_if_ne C 23 dX7_smallest_13 (by decide) ?_ ?_
        · refine mj_aload_n C 0 dX7_smallest_23 (i := 0) rfl rfl ?_
          refine mj_vI C my_X7_needless mv_X7_233 dX7_smallest_24 sh_0 rfl (fun a hF => ctX7_needless K h   hF) (by decide) (by decide) rfl rfl (Nat.le_of_ble_eq_true rfl) (fun r_3 => ?_)
          exact mj_sub [] rfl (mj_some (kj_2 r_3))
        · refine mj_aload_n C 0 dX7_smallest_16 (i := 0) rfl rfl ?_
          refine mj_vI C my_X7_smallestRegister mv_X7_230 dX7_smallest_17 sh_0 rfl (fun a hF => ctX7_smallestRegister K h   hF) (by decide) (by decide) rfl rfl (Nat.le_of_ble_eq_true rfl) (fun r_4 => ?_)
          refine mj_goto C 27 dX7_smallest_20 (by decide) ?_
          exact mj_sub [] rfl (mj_some (kj_2 r_4))
      · exact mj_rI C N dX7_smallest_27
    · refine mj_ldc C kc_X7_62 dX7_smallest_9 ?_
      exact mj_rI C N dX7_smallest_11
noncomputable def fX7_better (h : Mm) (l1 : Int32) (l2 : Int32) : Option (Int32) := md_bd (fX1_isTraveller h (md_dx (h 0 7)) l1) (fun r_1 => (if r_1 = true then (if l2 < 0 then some (-1000000002 : Int32) else (if l2 ≤ (9999 : Int32) then md_bd (fX4_isGone h 13 l1) (fun r_2 => (if r_2 = true then some (-1000000003 : Int32) else md_bd (fX4_mindOf h 13 l1) (fun r_3 => md_bd (fX1_isStuck h (md_dx (h 0 7)) r_3) (fun r_4 => (if r_4 = true then some (1 : Int32) else md_bd (fX7_dutyOf h l1) (fun r_5 => md_bd ((if (((h (md_dx (h 0 7)) 2) * l2) / (100 : Int32)) < r_5 then some true else some false)) (fun (v_6 : Bool) => some (md_bi v_6)))))))) else some (-1000000002 : Int32))) else some (-1000000001 : Int32)))
set_option maxRecDepth 100000 in
set_option maxHeartbeats 4000000 in
theorem ctX7_better (K : Kx) (h : Mm) (l1 : Int32) (l2 : Int32) {a : Int32} (hF : fX7_better h l1 l2 = some a) : Mt K yX7_better cX7_better 3 (some .int) 4 89 SHc [rf K 0, .int l1, .int l2] h (some (.int a)) h := by
  refine Mt.of hF [(0, rf K 0), (1, .int l1), (2, .int l2)] (by decide) (Nat.le_of_ble_eq_true rfl) rfl (fun Y C N => ?_)
  have C : Cx K Y (0, 0) cX7_better RX7 3 4 89 := C
  unfold fX7_better
  refine mj_aload_n C 0 dX7_better_0 (i := 0) rfl rfl ?_
  refine mj_getM C ff_X7_58 dX7_better_1 sh_0 rfl ?_
  refine mj_iload_n C 1 dX7_better_4 (i := 1) rfl rfl ?_
  refine mj_vB C my_X1_isTraveller mv_X7_145 dX7_better_5 (cn_o (cnt_dx (h 0 7))) rfl (fun a hF => ctX1_isTraveller K h (md_dx (h 0 7)) l1 (cnt_dx (h 0 7)) hF) (by decide) (by decide) rfl rfl (Nat.le_of_ble_eq_true rfl) (fun r_1 => ?_)
  refine mj_b_ne C 14 dX7_better_8 (by decide) ?_ ?_
  · refine mj_iload_n C 2 dX7_better_14 (i := 2) rfl rfl ?_
    refine mj_if_lt C 25 dX7_better_15 (by decide) ?_ ?_
    · refine mj_ldc C kc_X7_62 dX7_better_25 ?_
      exact mj_rI C N dX7_better_27
    · refine mj_iload_n C 2 dX7_better_18 (i := 2) rfl rfl ?_
      refine mj_sipush C (v := 9999) dX7_better_19 rfl ?_
      refine mj_icmp_le C 28 dX7_better_22 (by decide) ?_ ?_
      · refine mj_aload_n C 0 dX7_better_28 (i := 0) rfl rfl ?_
        refine mj_getR C ff_X7_19 dX7_better_29 sh_0 rfl ?_
        refine mj_iload_n C 1 dX7_better_32 (i := 1) rfl rfl ?_
        refine mj_vB C my_X4_isGone mv_X7_158 dX7_better_33 (ps_o ps_13) rfl (fun a hF => ctX4_isGone K h 13 l1 ps_13 hF) (by decide) (by decide) rfl rfl (Nat.le_of_ble_eq_true rfl) (fun r_2 => ?_)
        refine mj_b_eq C 42 dX7_better_36 (by decide) ?_ ?_
        · refine mj_aload_n C 0 dX7_better_42 (i := 0) rfl rfl ?_
          refine mj_getM C ff_X7_58 dX7_better_43 sh_0 rfl ?_
          refine mj_aload_n C 0 dX7_better_46 (i := 0) rfl rfl ?_
          refine mj_getR C ff_X7_19 dX7_better_47 sh_0 rfl ?_
          refine mj_iload_n C 1 dX7_better_50 (i := 1) rfl rfl ?_
          refine mj_vI C my_X4_mindOf mv_X7_148 dX7_better_51 (ps_o ps_13) rfl (fun a hF => ctX4_mindOf K h 13 l1 ps_13 hF) (by decide) (by decide) rfl rfl (Nat.le_of_ble_eq_true rfl) (fun r_3 => ?_)
          refine mj_vB C my_X1_isStuck mv_X7_161 dX7_better_54 (cn_o (cnt_dx (h 0 7))) rfl (fun a hF => ctX1_isStuck K h (md_dx (h 0 7)) r_3 (cnt_dx (h 0 7)) hF) (by decide) (by decide) rfl rfl (Nat.le_of_ble_eq_true rfl) (fun r_4 => ?_)
          refine mj_b_eq C 62 dX7_better_57 (by decide) ?_ ?_
          · refine mj_aload_n C 0 dX7_better_62 (i := 0) rfl rfl ?_
            refine mj_iload_n C 1 dX7_better_63 (i := 1) rfl rfl ?_
            refine mj_vI C my_X7_dutyOf mv_X7_155 dX7_better_64 sh_0 rfl (fun a hF => ctX7_dutyOf K h l1  hF) (by decide) (by decide) rfl rfl (Nat.le_of_ble_eq_true rfl) (fun r_5 => ?_)
            refine mj_aload_n C 0 dX7_better_67 (i := 0) rfl rfl ?_
            refine mj_getM C ff_X7_58 dX7_better_68 sh_0 rfl ?_
            refine mj_getI C ff_X7_107 dX7_better_71 (cn_o (cnt_dx (h 0 7))) rfl ?_
            refine mj_iload_n C 2 dX7_better_74 (i := 2) rfl rfl ?_
            refine mj_imul C dX7_better_75 ?_
            refine mj_bipush C (v := 100) dX7_better_76 rfl ?_
            refine mj_idiv C dX7_better_78 (by decide) ?_
            refine mj_phi1 87 (fun (v_6 : Bool) => []) (fun (v_6 : Bool) => [.int (md_bi v_6)]) (fun (v_6 : Bool) => h) (fun P' kj_7 => ?_) (fun v_6 => ?_)
            · refine mj_icmp_gt C 86 dX7_better_79 (by decide) ?_ ?_
              · refine mj_iconst C (v := 1) dX7_better_86 rfl ?_
                exact mj_sub [] rfl (mj_some (kj_7 true))
              · refine mj_iconst C (v := 0) dX7_better_82 rfl ?_
                refine mj_goto C 87 dX7_better_83 (by decide) ?_
                exact mj_sub [] rfl (mj_some (kj_7 false))
            · exact mj_rI C N dX7_better_87
          · refine mj_iconst C (v := 1) dX7_better_60 rfl ?_
            exact mj_rI C N dX7_better_61
        · refine mj_ldc C kc_X7_164 dX7_better_39 ?_
          exact mj_rI C N dX7_better_41
      · refine mj_ldc C kc_X7_62 dX7_better_25 ?_
        exact mj_rI C N dX7_better_27
  · refine mj_ldc C kc_X7_144 dX7_better_11 ?_
    exact mj_rI C N dX7_better_13
noncomputable def fX7_gains (h : Mm) (l1 : Int32) (l2 : Int32) : Option (Int32) := md_bd (fX1_isTraveller h (md_dx (h 0 7)) l1) (fun r_1 => (if r_1 = true then md_bd (fX1_isSet h (md_dx (h 0 7)) l2) (fun r_2 => (if r_2 = true then md_bd (fX4_isGone h 13 l1) (fun r_3 => (if r_3 = true then some (-1000000003 : Int32) else md_bd (fX4_mindOf h 13 l1) (fun r_4 => md_bd (fX1_allFrom h (md_dx (h 0 7)) l2) (fun r_5 => md_bd (fX1_duty h (md_dx (h 0 7)) r_4 r_5) (fun r_6 => md_bd (fX7_dutyOf h l1) (fun r_7 => some ((r_7 - r_6) + (1000 : Int32)))))))) else some (-1000000001 : Int32))) else some (-1000000001 : Int32)))
set_option maxRecDepth 100000 in
set_option maxHeartbeats 4000000 in
theorem ctX7_gains (K : Kx) (h : Mm) (l1 : Int32) (l2 : Int32) {a : Int32} (hF : fX7_gains h l1 l2 = some a) : Mt K yX7_gains cX7_gains 4 (some .int) 4 89 SHc [rf K 0, .int l1, .int l2] h (some (.int a)) h := by
  refine Mt.of hF [(0, rf K 0), (1, .int l1), (2, .int l2)] (by decide) (Nat.le_of_ble_eq_true rfl) rfl (fun Y C N => ?_)
  have C : Cx K Y (0, 0) cX7_gains RX7 4 4 89 := C
  unfold fX7_gains
  refine mj_aload_n C 0 dX7_gains_0 (i := 0) rfl rfl ?_
  refine mj_getM C ff_X7_58 dX7_gains_1 sh_0 rfl ?_
  refine mj_iload_n C 1 dX7_gains_4 (i := 1) rfl rfl ?_
  refine mj_vB C my_X1_isTraveller mv_X7_145 dX7_gains_5 (cn_o (cnt_dx (h 0 7))) rfl (fun a hF => ctX1_isTraveller K h (md_dx (h 0 7)) l1 (cnt_dx (h 0 7)) hF) (by decide) (by decide) rfl rfl (Nat.le_of_ble_eq_true rfl) (fun r_1 => ?_)
  refine mj_b_eq C 22 dX7_gains_8 (by decide) ?_ ?_
  · refine mj_ldc C kc_X7_144 dX7_gains_22 ?_
    exact mj_rI C N dX7_gains_24
  · refine mj_aload_n C 0 dX7_gains_11 (i := 0) rfl rfl ?_
    refine mj_getM C ff_X7_58 dX7_gains_12 sh_0 rfl ?_
    refine mj_iload_n C 2 dX7_gains_15 (i := 2) rfl rfl ?_
    refine mj_vB C my_X1_isSet mv_X7_194 dX7_gains_16 (cn_o (cnt_dx (h 0 7))) rfl (fun a hF => ctX1_isSet K h (md_dx (h 0 7)) l2 (cnt_dx (h 0 7)) hF) (by decide) (by decide) rfl rfl (Nat.le_of_ble_eq_true rfl) (fun r_2 => ?_)
    refine mj_b_ne C 25 dX7_gains_19 (by decide) ?_ ?_
    · refine mj_aload_n C 0 dX7_gains_25 (i := 0) rfl rfl ?_
      refine mj_getR C ff_X7_19 dX7_gains_26 sh_0 rfl ?_
      refine mj_iload_n C 1 dX7_gains_29 (i := 1) rfl rfl ?_
      refine mj_vB C my_X4_isGone mv_X7_158 dX7_gains_30 (ps_o ps_13) rfl (fun a hF => ctX4_isGone K h 13 l1 ps_13 hF) (by decide) (by decide) rfl rfl (Nat.le_of_ble_eq_true rfl) (fun r_3 => ?_)
      refine mj_b_eq C 39 dX7_gains_33 (by decide) ?_ ?_
      · refine mj_aload_n C 0 dX7_gains_39 (i := 0) rfl rfl ?_
        refine mj_getM C ff_X7_58 dX7_gains_40 sh_0 rfl ?_
        refine mj_aload_n C 0 dX7_gains_43 (i := 0) rfl rfl ?_
        refine mj_getR C ff_X7_19 dX7_gains_44 sh_0 rfl ?_
        refine mj_iload_n C 1 dX7_gains_47 (i := 1) rfl rfl ?_
        refine mj_vI C my_X4_mindOf mv_X7_148 dX7_gains_48 (ps_o ps_13) rfl (fun a hF => ctX4_mindOf K h 13 l1 ps_13 hF) (by decide) (by decide) rfl rfl (Nat.le_of_ble_eq_true rfl) (fun r_4 => ?_)
        refine mj_aload_n C 0 dX7_gains_51 (i := 0) rfl rfl ?_
        refine mj_getM C ff_X7_58 dX7_gains_52 sh_0 rfl ?_
        refine mj_iload_n C 2 dX7_gains_55 (i := 2) rfl rfl ?_
        refine mj_vI C my_X1_allFrom mv_X7_210 dX7_gains_56 (cn_o (cnt_dx (h 0 7))) rfl (fun a hF => ctX1_allFrom K h (md_dx (h 0 7)) l2 (cnt_dx (h 0 7)) hF) (by decide) (by decide) rfl rfl (Nat.le_of_ble_eq_true rfl) (fun r_5 => ?_)
        refine mj_vI C my_X1_duty mv_X7_213 dX7_gains_59 (cn_o (cnt_dx (h 0 7))) rfl (fun a hF => ctX1_duty K h (md_dx (h 0 7)) r_4 r_5 (cnt_dx (h 0 7)) hF) (by decide) (by decide) rfl rfl (Nat.le_of_ble_eq_true rfl) (fun r_6 => ?_)
        refine mj_istore_n C [(3, .int r_6), (0, rf K 0), (1, .int l1), (2, .int l2)] dX7_gains_62 (i := 3) rfl (by decide) rfl ?_
        refine mj_aload_n C 1 dX7_gains_63 (i := 0) rfl rfl ?_
        refine mj_iload_n C 2 dX7_gains_64 (i := 1) rfl rfl ?_
        refine mj_vI C my_X7_dutyOf mv_X7_155 dX7_gains_65 sh_0 rfl (fun a hF => ctX7_dutyOf K h l1  hF) (by decide) (by decide) rfl rfl (Nat.le_of_ble_eq_true rfl) (fun r_7 => ?_)
        refine mj_iload_n C 0 dX7_gains_68 (i := 3) rfl rfl ?_
        refine mj_isub C dX7_gains_69 ?_
        refine mj_sipush C (v := 1000) dX7_gains_70 rfl ?_
        refine mj_iadd C dX7_gains_73 ?_
        exact mj_rI C N dX7_gains_74
      · refine mj_ldc C kc_X7_164 dX7_gains_36 ?_
        exact mj_rI C N dX7_gains_38
    · refine mj_ldc C kc_X7_144 dX7_gains_22 ?_
      exact mj_rI C N dX7_gains_24
noncomputable def fX7_free (h : Mm) : Option (Int32) := md_bd (fX7_inTheCountry h) (fun r_1 => some (r_1 &&& ((h 13 1) ^^^ (-1 : Int32))))
set_option maxRecDepth 100000 in
set_option maxHeartbeats 4000000 in
theorem ctX7_free (K : Kx) (h : Mm) {a : Int32} (hF : fX7_free h = some a) : Mt K yX7_free cX7_free 1 (some .int) 3 62 SHc [rf K 0] h (some (.int a)) h := by
  refine Mt.of hF [(0, rf K 0)] (by decide) (Nat.le_of_ble_eq_true rfl) rfl (fun Y C N => ?_)
  have C : Cx K Y (0, 0) cX7_free RX7 1 3 62 := C
  unfold fX7_free
  refine mj_aload_n C 0 dX7_free_0 (i := 0) rfl rfl ?_
  refine mj_vI C my_X7_inTheCountry mv_X7_122 dX7_free_1 sh_0 rfl (fun a hF => ctX7_inTheCountry K h   hF) (by decide) (by decide) rfl rfl (Nat.le_of_ble_eq_true rfl) (fun r_1 => ?_)
  refine mj_aload_n C 0 dX7_free_4 (i := 0) rfl rfl ?_
  refine mj_getR C ff_X7_19 dX7_free_5 sh_0 rfl ?_
  refine mj_getI C ff_X7_119 dX7_free_8 (ps_o ps_13) rfl ?_
  refine mj_iconst C (v := -1) dX7_free_11 rfl ?_
  refine mj_ixor C dX7_free_12 ?_
  refine mj_iand C dX7_free_13 ?_
  exact mj_rI C N dX7_free_14
noncomputable def fX7_share_32 : Nat → Mm → Int32 → Int32 → Int32 → Option (Int32)
  | 0, _, _, _, _ => none
  | n + 1, h, l1, l2, l3 => (if (h (md_dx (h 0 7)) 14) ≤ l3 then some l2 else md_bd (fX4_isGone h 13 l3) (fun r_3 => md_bd ((if r_3 = true then some (0 : Int32) else md_bd (fX7_dutyOf h l3) (fun r_6 => some r_6))) (fun (v_4 : Int32) => md_lt (l2 + v_4) (fun l2_7 : Int32 => fX7_share_32 n h l1 l2_7 (l3 + 1)))))
set_option maxRecDepth 100000 in
set_option maxHeartbeats 4000000 in
theorem lX7_share_32 {K : Kx} {Y : Yx} {cs : Nat × Nat} (C : Cx K Y cs cX7_share RX7 4 4 89) {P : Int32 → Prop} : ∀ (n : Nat) (h : Mm) (l1 : Int32) (l2 : Int32) (l3 : Int32), (∀ (w2 : Int32), J SHc K Y cs (P w2) 72 [(0, rf K 0), (1, .int l1), (2, .int w2)] [] h) → J SHc K Y cs (mj_O (fX7_share_32 n h l1 l2 l3) P) 32 [(0, rf K 0), (1, .int l1), (2, .int l2), (3, .int l3)] [] h := by
  intro n
  induction n with
  | zero => intro h l1 l2 l3 kk0; exact mj_none
  | succ n ih =>
    intro h l1 l2 l3 kk0
    rw [fX7_share_32]
    refine mj_iload_n C 3 dX7_share_32 (i := 3) rfl rfl ?_
    refine mj_aload_n C 0 dX7_share_33 (i := 0) rfl rfl ?_
    refine mj_getM C ff_X7_58 dX7_share_34 sh_0 rfl ?_
    refine mj_getI C ff_X7_116 dX7_share_37 (cn_o (cnt_dx (h 0 7))) rfl ?_
    refine mj_icmp_ge C 72 dX7_share_40 (by decide) ?_ ?_
    · exact mj_sub [0, 1, 2] rfl (mj_some (kk0 l2))
    · refine mj_iload_n C 2 dX7_share_43 (i := 2) rfl rfl ?_
      refine mj_aload_n C 0 dX7_share_44 (i := 0) rfl rfl ?_
      refine mj_getR C ff_X7_19 dX7_share_45 sh_0 rfl ?_
      refine mj_iload_n C 3 dX7_share_48 (i := 3) rfl rfl ?_
      refine mj_vB C my_X4_isGone mv_X7_158 dX7_share_49 (ps_o ps_13) rfl (fun a hF => ctX4_isGone K h 13 l3 ps_13 hF) (by decide) (by decide) rfl rfl (Nat.le_of_ble_eq_true rfl) (fun r_3 => ?_)
      refine mj_phi1 64 (fun (v_4 : Int32) => [(0, rf K 0), (1, .int l1), (3, .int l3)]) (fun (v_4 : Int32) => [.int v_4, .int l2]) (fun (v_4 : Int32) => h) (fun P' kj_5 => ?_) (fun v_4 => ?_)
      · refine mj_b_eq C 59 dX7_share_52 (by decide) ?_ ?_
        · refine mj_aload_n C 0 dX7_share_59 (i := 0) rfl rfl ?_
          refine mj_iload_n C 3 dX7_share_60 (i := 3) rfl rfl ?_
          refine mj_vI C my_X7_dutyOf mv_X7_155 dX7_share_61 sh_0 rfl (fun a hF => ctX7_dutyOf K h l3  hF) (by decide) (by decide) rfl rfl (Nat.le_of_ble_eq_true rfl) (fun r_6 => ?_)
          exact mj_sub [0, 1, 3] rfl (mj_some (kj_5 r_6))
        · refine mj_iconst C (v := 0) dX7_share_55 rfl ?_
          refine mj_goto C 64 dX7_share_56 (by decide) ?_
          exact mj_sub [0, 1, 3] rfl (mj_some (kj_5 (0 : Int32)))
      · refine mj_iadd C dX7_share_64 ?_
        refine mj_istore_nL C (fun l2_7 => [(2, .int l2_7), (0, rf K 0), (1, .int l1), (3, .int l3)]) dX7_share_65 (i := 2) rfl (by decide) rfl (fun l2_7 => ?_)
        refine mj_iinc C (l3 + 1) 3 [(3, .int (l3 + 1)), (2, .int l2_7), (0, rf K 0), (1, .int l1)] dX7_share_66 rfl rfl (by decide) rfl ?_
        refine mj_goto C 32 dX7_share_69 (by decide) ?_
        exact mj_sub [2, 3, 1, 0] rfl (ih h l1 l2_7 (l3 + 1) kk0)
noncomputable def fX7_share (h : Mm) (l1 : Int32) : Option (Int32) := md_bd (fX1_isTraveller h (md_dx (h 0 7)) l1) (fun r_1 => (if r_1 = true then md_bd (fX4_isGone h 13 l1) (fun r_2 => (if r_2 = true then some (-1000000003 : Int32) else md_bd (fX7_share_32 md_N h l1 (0 : Int32) (0 : Int32)) (fun (v_8 : Int32) => md_bd ((if v_8 = 0 then some (0 : Int32) else md_bd (fX7_dutyOf h l1) (fun r_11 => md_ck (decide (¬ v_8 = 0)) (some ((r_11 * (1000 : Int32)) / v_8))))) (fun (v_9 : Int32) => some v_9)))) else some (-1000000001 : Int32)))
set_option maxRecDepth 100000 in
set_option maxHeartbeats 4000000 in
theorem ctX7_share (K : Kx) (h : Mm) (l1 : Int32) {a : Int32} (hF : fX7_share h l1 = some a) : Mt K yX7_share cX7_share 4 (some .int) 4 89 SHc [rf K 0, .int l1] h (some (.int a)) h := by
  refine Mt.of hF [(0, rf K 0), (1, .int l1)] (by decide) (Nat.le_of_ble_eq_true rfl) rfl (fun Y C N => ?_)
  have C : Cx K Y (0, 0) cX7_share RX7 4 4 89 := C
  unfold fX7_share
  refine mj_aload_n C 0 dX7_share_0 (i := 0) rfl rfl ?_
  refine mj_getM C ff_X7_58 dX7_share_1 sh_0 rfl ?_
  refine mj_iload_n C 1 dX7_share_4 (i := 1) rfl rfl ?_
  refine mj_vB C my_X1_isTraveller mv_X7_145 dX7_share_5 (cn_o (cnt_dx (h 0 7))) rfl (fun a hF => ctX1_isTraveller K h (md_dx (h 0 7)) l1 (cnt_dx (h 0 7)) hF) (by decide) (by decide) rfl rfl (Nat.le_of_ble_eq_true rfl) (fun r_1 => ?_)
  refine mj_b_ne C 14 dX7_share_8 (by decide) ?_ ?_
  · refine mj_aload_n C 0 dX7_share_14 (i := 0) rfl rfl ?_
    refine mj_getR C ff_X7_19 dX7_share_15 sh_0 rfl ?_
    refine mj_iload_n C 1 dX7_share_18 (i := 1) rfl rfl ?_
    refine mj_vB C my_X4_isGone mv_X7_158 dX7_share_19 (ps_o ps_13) rfl (fun a hF => ctX4_isGone K h 13 l1 ps_13 hF) (by decide) (by decide) rfl rfl (Nat.le_of_ble_eq_true rfl) (fun r_2 => ?_)
    refine mj_b_eq C 28 dX7_share_22 (by decide) ?_ ?_
    · refine mj_iconst C (v := 0) dX7_share_28 rfl ?_
      refine mj_istore_n C [(2, .int (0 : Int32)), (0, rf K 0), (1, .int l1)] dX7_share_29 (i := 2) rfl (by decide) rfl ?_
      refine mj_iconst C (v := 0) dX7_share_30 rfl ?_
      refine mj_istore_n C [(3, .int (0 : Int32)), (2, .int (0 : Int32)), (0, rf K 0), (1, .int l1)] dX7_share_31 (i := 3) rfl (by decide) rfl ?_
      refine mj_phi1 72 (fun (v_8 : Int32) => [(0, rf K 0), (1, .int l1), (2, .int v_8)]) (fun (v_8 : Int32) => []) (fun (v_8 : Int32) => h) (fun P' kj_12 => mj_sub [2, 3, 1, 0] rfl (lX7_share_32 C md_N h l1 (0 : Int32) (0 : Int32) kj_12)) (fun v_8 => ?_)
      refine mj_iload_n C 2 dX7_share_72 (i := 2) rfl rfl ?_
      refine mj_phi1 91 (fun (v_9 : Int32) => []) (fun (v_9 : Int32) => [.int v_9]) (fun (v_9 : Int32) => h) (fun P' kj_10 => ?_) (fun v_9 => ?_)
      · refine mj_if_ne C 80 dX7_share_73 (by decide) ?_ ?_
        · refine mj_aload_n C 0 dX7_share_80 (i := 0) rfl rfl ?_
          refine mj_iload_n C 1 dX7_share_81 (i := 1) rfl rfl ?_
          refine mj_vI C my_X7_dutyOf mv_X7_155 dX7_share_82 sh_0 rfl (fun a hF => ctX7_dutyOf K h l1  hF) (by decide) (by decide) rfl rfl (Nat.le_of_ble_eq_true rfl) (fun r_11 => ?_)
          refine mj_sipush C (v := 1000) dX7_share_85 rfl ?_
          refine mj_imul C dX7_share_88 ?_
          refine mj_iload_n C 2 dX7_share_89 (i := 2) rfl rfl ?_
          refine mj_idivC C dX7_share_90 ?_
          exact mj_sub [] rfl (mj_some (kj_10 ((r_11 * (1000 : Int32)) / v_8)))
        · refine mj_iconst C (v := 0) dX7_share_76 rfl ?_
          refine mj_goto C 91 dX7_share_77 (by decide) ?_
          exact mj_sub [] rfl (mj_some (kj_10 (0 : Int32)))
      · exact mj_rI C N dX7_share_91
    · refine mj_ldc C kc_X7_164 dX7_share_25 ?_
      exact mj_rI C N dX7_share_27
  · refine mj_ldc C kc_X7_144 dX7_share_11 ?_
    exact mj_rI C N dX7_share_13
noncomputable def fX7_glacier_20 : Nat → Mm → Int32 → Int64 → Int32 → Option (Int64)
  | 0, _, _, _, _ => none
  | n + 1, h, l1, l2, l4 => (if l1 ≤ l4 then some l2 else md_lt ((l2 * (((100 : Int32) - (h (md_dx (h 0 7)) 2))).toInt64) / (100 : Int64)) (fun l2_2 : Int64 => fX7_glacier_20 n h l1 l2_2 (l4 + 1)))
set_option maxRecDepth 100000 in
set_option maxHeartbeats 4000000 in
theorem lX7_glacier_20 {K : Kx} {Y : Yx} {cs : Nat × Nat} (C : Cx K Y cs cX7_glacier RX7 5 0 0) {P : Int64 → Prop} : ∀ (n : Nat) (h : Mm) (l1 : Int32) (l2 : Int64) (l4 : Int32), (∀ (w2 : Int64), J SHc K Y cs (P w2) 50 [(2, .long w2)] [] h) → J SHc K Y cs (mj_O (fX7_glacier_20 n h l1 l2 l4) P) 20 [(0, rf K 0), (1, .int l1), (2, .long l2), (4, .int l4)] [] h := by
  intro n
  induction n with
  | zero => intro h l1 l2 l4 kk0; exact mj_none
  | succ n ih =>
    intro h l1 l2 l4 kk0
    rw [fX7_glacier_20]
    refine mj_iload C 3 dX7_glacier_20 rfl ?_
    refine mj_iload_n C 1 dX7_glacier_22 (i := 1) rfl rfl ?_
    refine mj_icmp_ge C 50 dX7_glacier_23 (by decide) ?_ ?_
    · exact mj_sub [2] rfl (mj_some (kk0 l2))
    · refine mj_lload_n C 2 dX7_glacier_26 (i := 2) rfl rfl ?_
      refine mj_bipush C (v := 100) dX7_glacier_27 rfl ?_
      refine mj_aload_n C 0 dX7_glacier_29 (i := 0) rfl rfl ?_
      refine mj_getM C ff_X7_58 dX7_glacier_30 sh_0 rfl ?_
      refine mj_getI C ff_X7_107 dX7_glacier_33 (cn_o (cnt_dx (h 0 7))) rfl ?_
      refine mj_isub C dX7_glacier_36 ?_
      refine mj_i2l C dX7_glacier_37 ?_
      refine mj_lmul C dX7_glacier_38 ?_
      refine mj_ldc2 C kc_X7_238 dX7_glacier_39 ?_
      refine mj_ldiv C dX7_glacier_42 (by decide) ?_
      refine mj_lstore_nL C (fun l2_2 => [(2, .long l2_2), (0, rf K 0), (1, .int l1), (4, .int l4)]) dX7_glacier_43 (i := 2) rfl (by decide) rfl (fun l2_2 => ?_)
      refine mj_iinc C (l4 + 1) 3 [(4, .int (l4 + 1)), (2, .long l2_2), (0, rf K 0), (1, .int l1)] dX7_glacier_44 rfl rfl (by decide) rfl ?_
      refine mj_goto C 20 dX7_glacier_47 (by decide) ?_
      exact mj_sub [2, 3, 1, 0] rfl (ih h l1 l2_2 (l4 + 1) kk0)
noncomputable def fX7_glacier (h : Mm) (l1 : Int32) : Option (Int32) := (if l1 < 0 then some (-1000000002 : Int32) else (if l1 ≤ (60 : Int32) then md_lt (1000000000 : Int64) (fun l2_1 : Int64 => md_bd (fX7_glacier_20 md_N h l1 l2_1 (0 : Int32)) (fun (v_3 : Int64) => some ((v_3).toInt32))) else some (-1000000002 : Int32)))
set_option maxRecDepth 100000 in
set_option maxHeartbeats 4000000 in
theorem ctX7_glacier (K : Kx) (h : Mm) (l1 : Int32) {a : Int32} (hF : fX7_glacier h l1 = some a) : Mt K yX7_glacier cX7_glacier 5 (some .int) 0 0 SHc [rf K 0, .int l1] h (some (.int a)) h := by
  refine Mt.of hF [(0, rf K 0), (1, .int l1)] (by decide) (Nat.le_of_ble_eq_true rfl) rfl (fun Y C N => ?_)
  have C : Cx K Y (0, 0) cX7_glacier RX7 5 0 0 := C
  unfold fX7_glacier
  refine mj_iload_n C 1 dX7_glacier_0 (i := 1) rfl rfl ?_
  refine mj_if_lt C 10 dX7_glacier_1 (by decide) ?_ ?_
  · refine mj_ldc C kc_X7_62 dX7_glacier_10 ?_
    exact mj_rI C N dX7_glacier_12
  · refine mj_iload_n C 1 dX7_glacier_4 (i := 1) rfl rfl ?_
    refine mj_bipush C (v := 60) dX7_glacier_5 rfl ?_
    refine mj_icmp_le C 13 dX7_glacier_7 (by decide) ?_ ?_
    · refine mj_ldc2 C kc_X7_236 dX7_glacier_13 ?_
      refine mj_lstore_nL C (fun l2_1 => [(2, .long l2_1), (0, rf K 0), (1, .int l1)]) dX7_glacier_16 (i := 2) rfl (by decide) rfl (fun l2_1 => ?_)
      refine mj_iconst C (v := 0) dX7_glacier_17 rfl ?_
      refine mj_istore C [(4, .int (0 : Int32)), (2, .long l2_1), (0, rf K 0), (1, .int l1)] dX7_glacier_18 (by decide) rfl ?_
      refine mj_phi1 50 (fun (v_3 : Int64) => [(2, .long v_3)]) (fun (v_3 : Int64) => []) (fun (v_3 : Int64) => h) (fun P' kj_4 => mj_sub [2, 3, 1, 0] rfl (lX7_glacier_20 C md_N h l1 l2_1 (0 : Int32) kj_4)) (fun v_3 => ?_)
      refine mj_lload_n C 0 dX7_glacier_50 (i := 2) rfl rfl ?_
      refine mj_l2i C dX7_glacier_51 ?_
      exact mj_rI C N dX7_glacier_52
    · refine mj_ldc C kc_X7_62 dX7_glacier_10 ?_
      exact mj_rI C N dX7_glacier_12
noncomputable def fX7_ask (h : Mm) (l1 : Int32) (l2 : Int32) (l3 : Bool) : Option (Int32 × Mm) := md_bd (fX1_isSet h (md_dx (h 0 7)) l1) (fun r_1 => (if r_1 = true then (if l2 < 0 then some ((-1000000002 : Int32), h) else (if l2 ≤ (10 : Int32) then md_b2 (fX5_append h l1 l2 l3) (fun r_2 h_3 => md_bd ((if r_2 = true then some (h_3 65 4) else some (-1000000004 : Int32))) (fun (v_4 : Int32) => some (v_4, h_3))) else some ((-1000000002 : Int32), h))) else some ((-1000000001 : Int32), h)))
set_option maxRecDepth 100000 in
set_option maxHeartbeats 4000000 in
theorem ctX7_ask (K : Kx) (h : Mm) (l1 : Int32) (l2 : Int32) (l3 : Bool) {a : Int32 × Mm} (hF : fX7_ask h l1 l2 l3 = some a) : Mt K yX7_ask cX7_ask 4 (some .int) 1 23 SHc [rf K 0, .int l1, .int l2, .int (md_bi l3)] h (some (.int a.1)) a.2 := by
  refine Mt.of hF [(0, rf K 0), (1, .int l1), (2, .int l2), (3, .int (md_bi l3))] (by decide) (Nat.le_of_ble_eq_true rfl) rfl (fun Y C N => ?_)
  have C : Cx K Y (0, 0) cX7_ask RX7 4 1 23 := C
  unfold fX7_ask
  refine mj_aload_n C 0 dX7_ask_0 (i := 0) rfl rfl ?_
  refine mj_getM C ff_X7_58 dX7_ask_1 sh_0 rfl ?_
  refine mj_iload_n C 1 dX7_ask_4 (i := 1) rfl rfl ?_
  refine mj_vB C my_X1_isSet mv_X7_194 dX7_ask_5 (cn_o (cnt_dx (h 0 7))) rfl (fun a hF => ctX1_isSet K h (md_dx (h 0 7)) l1 (cnt_dx (h 0 7)) hF) (by decide) (by decide) rfl rfl (Nat.le_of_ble_eq_true rfl) (fun r_1 => ?_)
  refine mj_b_ne C 14 dX7_ask_8 (by decide) ?_ ?_
  · refine mj_iload_n C 2 dX7_ask_14 (i := 2) rfl rfl ?_
    refine mj_if_lt C 24 dX7_ask_15 (by decide) ?_ ?_
    · refine mj_ldc C kc_X7_62 dX7_ask_24 ?_
      exact mj_rIM C N dX7_ask_26
    · refine mj_iload_n C 2 dX7_ask_18 (i := 2) rfl rfl ?_
      refine mj_bipush C (v := 10) dX7_ask_19 rfl ?_
      refine mj_icmp_le C 27 dX7_ask_21 (by decide) ?_ ?_
      · refine mj_aload_n C 0 dX7_ask_27 (i := 0) rfl rfl ?_
        refine mj_getR C ff_X7_40 dX7_ask_28 sh_0 rfl ?_
        refine mj_iload_n C 1 dX7_ask_31 (i := 1) rfl rfl ?_
        refine mj_iload_n C 2 dX7_ask_32 (i := 2) rfl rfl ?_
        refine mj_iload_n C 3 dX7_ask_33 (i := 3) rfl rfl ?_
        refine mj_vBM C my_X5_append mv_X7_240 dX7_ask_34 sh_65 rfl (fun a hF => ctX5_append K h l1 l2 l3  hF) (by decide) (by decide) rfl rfl (Nat.le_of_ble_eq_true rfl) (fun r_2 h_3 => ?_)
        refine mj_phi1 52 (fun (v_4 : Int32) => []) (fun (v_4 : Int32) => [.int v_4]) (fun (v_4 : Int32) => h_3) (fun P' kj_5 => ?_) (fun v_4 => ?_)
        · refine mj_b_eq C 50 dX7_ask_37 (by decide) ?_ ?_
          · refine mj_ldc C kc_X7_71 dX7_ask_50 ?_
            exact mj_sub [] rfl (mj_some (kj_5 (-1000000004 : Int32)))
          · refine mj_aload_n C 0 dX7_ask_40 (i := 0) rfl rfl ?_
            refine mj_getR C ff_X7_40 dX7_ask_41 sh_0 rfl ?_
            refine mj_getI C ff_X7_96 dX7_ask_44 sh_65 rfl ?_
            refine mj_goto C 52 dX7_ask_47 (by decide) ?_
            exact mj_sub [] rfl (mj_some (kj_5 (h_3 65 4)))
        · exact mj_rIM C N dX7_ask_52
      · refine mj_ldc C kc_X7_62 dX7_ask_24 ?_
        exact mj_rIM C N dX7_ask_26
  · refine mj_ldc C kc_X7_144 dX7_ask_11 ?_
    exact mj_rIM C N dX7_ask_13
noncomputable def fX7_minds (h : Mm) (l1 : Int32) : Option (Int32 × Mm) := (if l1 < 0 then some ((-1000000002 : Int32), h) else (if l1 ≤ (2 : Int32) then md_bd (fX5_look h (h (md_dx (h 0 7)) 3)) (fun h_1 => (if l1 = 0 then some ((h_1 65 5), h_1) else if l1 = 1 then some ((h_1 65 6), h_1) else some ((h_1 65 7), h_1))) else some ((-1000000002 : Int32), h)))
set_option maxRecDepth 100000 in
set_option maxHeartbeats 4000000 in
theorem ctX7_minds (K : Kx) (h : Mm) (l1 : Int32) {a : Int32 × Mm} (hF : fX7_minds h l1 = some a) : Mt K yX7_minds cX7_minds 2 (some .int) 4 87 SHc [rf K 0, .int l1] h (some (.int a.1)) a.2 := by
  refine Mt.of hF [(0, rf K 0), (1, .int l1)] (by decide) (Nat.le_of_ble_eq_true rfl) rfl (fun Y C N => ?_)
  have C : Cx K Y (0, 0) cX7_minds RX7 2 4 87 := C
  unfold fX7_minds
  refine mj_iload_n C 1 dX7_minds_0 (i := 1) rfl rfl ?_
  refine mj_if_lt C 9 dX7_minds_1 (by decide) ?_ ?_
  · refine mj_ldc C kc_X7_62 dX7_minds_9 ?_
    exact mj_rIM C N dX7_minds_11
  · refine mj_iload_n C 1 dX7_minds_4 (i := 1) rfl rfl ?_
    refine mj_iconst C (v := 2) dX7_minds_5 rfl ?_
    refine mj_icmp_le C 12 dX7_minds_6 (by decide) ?_ ?_
    · refine mj_aload_n C 0 dX7_minds_12 (i := 0) rfl rfl ?_
      refine mj_getR C ff_X7_40 dX7_minds_13 sh_0 rfl ?_
      refine mj_aload_n C 0 dX7_minds_16 (i := 0) rfl rfl ?_
      refine mj_getM C ff_X7_58 dX7_minds_17 sh_0 rfl ?_
      refine mj_getI C ff_X7_98 dX7_minds_20 (cn_o (cnt_dx (h 0 7))) rfl ?_
      refine mj_vM C my_X5_look mv_X7_243 dX7_minds_23 sh_65 rfl (fun a hF => ctX5_look K h (h (md_dx (h 0 7)) 3)  hF) (by decide) (by decide) rfl rfl (Nat.le_of_ble_eq_true rfl) (fun h_1 => ?_)
      refine mj_iload_n C 1 dX7_minds_26 (i := 1) rfl rfl ?_
      refine mj_sw0 ?_
      refine mj_lcase C 0 52 dX7_minds_27 rfl rfl (by decide) ?_ ?_
      · refine mj_aload_n C 0 dX7_minds_52 (i := 0) rfl rfl ?_
        refine mj_getR C ff_X7_40 dX7_minds_53 sh_0 rfl ?_
        refine mj_getI C ff_X7_247 dX7_minds_56 sh_65 rfl ?_
        exact mj_rIM C N dX7_minds_59
      refine mj_lcase C 1 60 dX7_minds_27 rfl rfl (by decide) ?_ ?_
      · refine mj_aload_n C 0 dX7_minds_60 (i := 0) rfl rfl ?_
        refine mj_getR C ff_X7_40 dX7_minds_61 sh_0 rfl ?_
        refine mj_getI C ff_X7_250 dX7_minds_64 sh_65 rfl ?_
        exact mj_rIM C N dX7_minds_67
      refine mj_ldflt C 68 dX7_minds_27 rfl (fun hq => lw_cov2 hq) (by decide) ?_
      refine mj_aload_n C 0 dX7_minds_68 (i := 0) rfl rfl ?_
      refine mj_getR C ff_X7_40 dX7_minds_69 sh_0 rfl ?_
      refine mj_getI C ff_X7_253 dX7_minds_72 sh_65 rfl ?_
      exact mj_rIM C N dX7_minds_75
    · refine mj_ldc C kc_X7_62 dX7_minds_9 ?_
      exact mj_rIM C N dX7_minds_11
noncomputable def fX7_askNext (h : Mm) : Option (Int32 × Mm) := md_bd (fX5_look h (h (md_dx (h 0 7)) 3)) (fun h_1 => md_bd (fX5_bestIdea h_1) (fun r_2 => some (r_2, h_1)))
set_option maxRecDepth 100000 in
set_option maxHeartbeats 4000000 in
theorem ctX7_askNext (K : Kx) (h : Mm) {a : Int32 × Mm} (hF : fX7_askNext h = some a) : Mt K yX7_askNext cX7_askNext 1 (some .int) 4 87 SHc [rf K 0] h (some (.int a.1)) a.2 := by
  refine Mt.of hF [(0, rf K 0)] (by decide) (Nat.le_of_ble_eq_true rfl) rfl (fun Y C N => ?_)
  have C : Cx K Y (0, 0) cX7_askNext RX7 1 4 87 := C
  unfold fX7_askNext
  refine mj_aload_n C 0 dX7_askNext_0 (i := 0) rfl rfl ?_
  refine mj_getR C ff_X7_40 dX7_askNext_1 sh_0 rfl ?_
  refine mj_aload_n C 0 dX7_askNext_4 (i := 0) rfl rfl ?_
  refine mj_getM C ff_X7_58 dX7_askNext_5 sh_0 rfl ?_
  refine mj_getI C ff_X7_98 dX7_askNext_8 (cn_o (cnt_dx (h 0 7))) rfl ?_
  refine mj_vM C my_X5_look mv_X7_243 dX7_askNext_11 sh_65 rfl (fun a hF => ctX5_look K h (h (md_dx (h 0 7)) 3)  hF) (by decide) (by decide) rfl rfl (Nat.le_of_ble_eq_true rfl) (fun h_1 => ?_)
  refine mj_aload_n C 0 dX7_askNext_14 (i := 0) rfl rfl ?_
  refine mj_getR C ff_X7_40 dX7_askNext_15 sh_0 rfl ?_
  refine mj_vI C my_X5_bestIdea mv_X7_256 dX7_askNext_18 sh_65 rfl (fun a hF => ctX5_bestIdea K h_1   hF) (by decide) (by decide) rfl rfl (Nat.le_of_ble_eq_true rfl) (fun r_2 => ?_)
  exact mj_rIM C N dX7_askNext_21
noncomputable def fX7_write (h : Mm) (l1 : Int32) (l2 : Int32) : Option (Int32 × Mm) := md_bd (fX1_isIdea h (md_dx (h 0 7)) l1) (fun r_1 => (if r_1 = true then (if l2 < 0 then some ((-1000000002 : Int32), h) else (if l2 ≤ (1 : Int32) then md_b2 (fX0_append h l1 l2) (fun r_2 h_3 => md_bd ((if r_2 = true then some (h_3 70 2) else some (-1000000004 : Int32))) (fun (v_4 : Int32) => some (v_4, h_3))) else some ((-1000000002 : Int32), h))) else some ((-1000000001 : Int32), h)))
set_option maxRecDepth 100000 in
set_option maxHeartbeats 4000000 in
theorem ctX7_write (K : Kx) (h : Mm) (l1 : Int32) (l2 : Int32) {a : Int32 × Mm} (hF : fX7_write h l1 l2 = some a) : Mt K yX7_write cX7_write 3 (some .int) 1 22 SHc [rf K 0, .int l1, .int l2] h (some (.int a.1)) a.2 := by
  refine Mt.of hF [(0, rf K 0), (1, .int l1), (2, .int l2)] (by decide) (Nat.le_of_ble_eq_true rfl) rfl (fun Y C N => ?_)
  have C : Cx K Y (0, 0) cX7_write RX7 3 1 22 := C
  unfold fX7_write
  refine mj_aload_n C 0 dX7_write_0 (i := 0) rfl rfl ?_
  refine mj_getM C ff_X7_58 dX7_write_1 sh_0 rfl ?_
  refine mj_iload_n C 1 dX7_write_4 (i := 1) rfl rfl ?_
  refine mj_vB C my_X1_isIdea mv_X7_138 dX7_write_5 (cn_o (cnt_dx (h 0 7))) rfl (fun a hF => ctX1_isIdea K h (md_dx (h 0 7)) l1 (cnt_dx (h 0 7)) hF) (by decide) (by decide) rfl rfl (Nat.le_of_ble_eq_true rfl) (fun r_1 => ?_)
  refine mj_b_ne C 14 dX7_write_8 (by decide) ?_ ?_
  · refine mj_iload_n C 2 dX7_write_14 (i := 2) rfl rfl ?_
    refine mj_if_lt C 23 dX7_write_15 (by decide) ?_ ?_
    · refine mj_ldc C kc_X7_62 dX7_write_23 ?_
      exact mj_rIM C N dX7_write_25
    · refine mj_iload_n C 2 dX7_write_18 (i := 2) rfl rfl ?_
      refine mj_iconst C (v := 1) dX7_write_19 rfl ?_
      refine mj_icmp_le C 26 dX7_write_20 (by decide) ?_ ?_
      · refine mj_aload_n C 0 dX7_write_26 (i := 0) rfl rfl ?_
        refine mj_getR C ff_X7_47 dX7_write_27 sh_0 rfl ?_
        refine mj_iload_n C 1 dX7_write_30 (i := 1) rfl rfl ?_
        refine mj_iload_n C 2 dX7_write_31 (i := 2) rfl rfl ?_
        refine mj_vBM C my_X0_append mv_X7_259 dX7_write_32 sh_70 rfl (fun a hF => ctX0_append K h l1 l2  hF) (by decide) (by decide) rfl rfl (Nat.le_of_ble_eq_true rfl) (fun r_2 h_3 => ?_)
        refine mj_phi1 50 (fun (v_4 : Int32) => []) (fun (v_4 : Int32) => [.int v_4]) (fun (v_4 : Int32) => h_3) (fun P' kj_5 => ?_) (fun v_4 => ?_)
        · refine mj_b_eq C 48 dX7_write_35 (by decide) ?_ ?_
          · refine mj_ldc C kc_X7_71 dX7_write_48 ?_
            exact mj_sub [] rfl (mj_some (kj_5 (-1000000004 : Int32)))
          · refine mj_aload_n C 0 dX7_write_38 (i := 0) rfl rfl ?_
            refine mj_getR C ff_X7_47 dX7_write_39 sh_0 rfl ?_
            refine mj_getI C ff_X7_97 dX7_write_42 sh_70 rfl ?_
            refine mj_goto C 50 dX7_write_45 (by decide) ?_
            exact mj_sub [] rfl (mj_some (kj_5 (h_3 70 2)))
        · exact mj_rIM C N dX7_write_50
      · refine mj_ldc C kc_X7_62 dX7_write_23 ?_
        exact mj_rIM C N dX7_write_25
  · refine mj_ldc C kc_X7_144 dX7_write_11 ?_
    exact mj_rIM C N dX7_write_13
noncomputable def fX7_tear (h : Mm) : Option (Int32 × Mm) := md_lt ((h 65 4) + (h 70 2)) (fun l1_1 : Int32 => md_lt (md_up h 65 4 (0 : Int32)) (fun h_2 : Mm => md_lt (md_up h_2 70 2 (0 : Int32)) (fun h_3 : Mm => some (l1_1, h_3))))
set_option maxRecDepth 100000 in
set_option maxHeartbeats 4000000 in
theorem ctX7_tear (K : Kx) (h : Mm) {a : Int32 × Mm} (hF : fX7_tear h = some a) : Mt K yX7_tear cX7_tear 2 (some .int) 0 0 SHc [rf K 0] h (some (.int a.1)) a.2 := by
  refine Mt.of hF [(0, rf K 0)] (by decide) (Nat.le_of_ble_eq_true rfl) rfl (fun Y C N => ?_)
  have C : Cx K Y (0, 0) cX7_tear RX7 2 0 0 := C
  unfold fX7_tear
  refine mj_aload_n C 0 dX7_tear_0 (i := 0) rfl rfl ?_
  refine mj_getR C ff_X7_40 dX7_tear_1 sh_0 rfl ?_
  refine mj_getI C ff_X7_96 dX7_tear_4 sh_65 rfl ?_
  refine mj_aload_n C 0 dX7_tear_7 (i := 0) rfl rfl ?_
  refine mj_getR C ff_X7_47 dX7_tear_8 sh_0 rfl ?_
  refine mj_getI C ff_X7_97 dX7_tear_11 sh_70 rfl ?_
  refine mj_iadd C dX7_tear_14 ?_
  refine mj_istore_nL C (fun l1_1 => [(1, .int l1_1), (0, rf K 0)]) dX7_tear_15 (i := 1) rfl (by decide) rfl (fun l1_1 => ?_)
  refine mj_aload_n C 1 dX7_tear_16 (i := 0) rfl rfl ?_
  refine mj_getR C ff_X7_40 dX7_tear_17 sh_0 rfl ?_
  refine mj_iconst C (v := 0) dX7_tear_20 rfl ?_
  refine mj_putL C fp_X7_96 dX7_tear_21 sh_65 rfl rfl rfl (fun h_2 => ?_)
  refine mj_aload_n C 1 dX7_tear_24 (i := 0) rfl rfl ?_
  refine mj_getR C ff_X7_47 dX7_tear_25 sh_0 rfl ?_
  refine mj_iconst C (v := 0) dX7_tear_28 rfl ?_
  refine mj_putL C fp_X7_97 dX7_tear_29 sh_70 rfl rfl rfl (fun h_3 => ?_)
  refine mj_iload_n C 0 dX7_tear_32 (i := 1) rfl rfl ?_
  exact mj_rIM C N dX7_tear_33
noncomputable def fX7_judge (h : Mm) : Option (Int32) := md_bd (fX7_inTheCountry h) (fun r_1 => md_bd (fX0_firstWrong h r_1) (fun r_2 => some r_2))
set_option maxRecDepth 100000 in
set_option maxHeartbeats 4000000 in
theorem ctX7_judge (K : Kx) (h : Mm) {a : Int32} (hF : fX7_judge h = some a) : Mt K yX7_judge cX7_judge 1 (some .int) 3 62 SHc [rf K 0] h (some (.int a)) h := by
  refine Mt.of hF [(0, rf K 0)] (by decide) (Nat.le_of_ble_eq_true rfl) rfl (fun Y C N => ?_)
  have C : Cx K Y (0, 0) cX7_judge RX7 1 3 62 := C
  unfold fX7_judge
  refine mj_aload_n C 0 dX7_judge_0 (i := 0) rfl rfl ?_
  refine mj_getR C ff_X7_47 dX7_judge_1 sh_0 rfl ?_
  refine mj_aload_n C 0 dX7_judge_4 (i := 0) rfl rfl ?_
  refine mj_vI C my_X7_inTheCountry mv_X7_122 dX7_judge_5 sh_0 rfl (fun a hF => ctX7_inTheCountry K h   hF) (by decide) (by decide) rfl rfl (Nat.le_of_ble_eq_true rfl) (fun r_1 => ?_)
  refine mj_vI C my_X0_firstWrong mv_X7_262 dX7_judge_8 sh_70 rfl (fun a hF => ctX0_firstWrong K h r_1  hF) (by decide) (by decide) rfl rfl (Nat.le_of_ble_eq_true rfl) (fun r_2 => ?_)
  exact mj_rI C N dX7_judge_11
noncomputable def fX7_seed (h : Mm) (l1 : Int32) : Option (Int32 × Mm) := (if 0 ≤ l1 then md_lt (h 0 8) (fun l2_1 : Int32 => md_lt (md_up h 0 8 l1) (fun h_2 : Mm => some (l2_1, h_2))) else some ((-1000000002 : Int32), h))
set_option maxRecDepth 100000 in
set_option maxHeartbeats 4000000 in
theorem ctX7_seed (K : Kx) (h : Mm) (l1 : Int32) {a : Int32 × Mm} (hF : fX7_seed h l1 = some a) : Mt K yX7_seed cX7_seed 3 (some .int) 0 0 SHc [rf K 0, .int l1] h (some (.int a.1)) a.2 := by
  refine Mt.of hF [(0, rf K 0), (1, .int l1)] (by decide) (Nat.le_of_ble_eq_true rfl) rfl (fun Y C N => ?_)
  have C : Cx K Y (0, 0) cX7_seed RX7 3 0 0 := C
  unfold fX7_seed
  refine mj_iload_n C 1 dX7_seed_0 (i := 1) rfl rfl ?_
  refine mj_if_ge C 7 dX7_seed_1 (by decide) ?_ ?_
  · refine mj_aload_n C 0 dX7_seed_7 (i := 0) rfl rfl ?_
    refine mj_getI C ff_X7_265 dX7_seed_8 sh_0 rfl ?_
    refine mj_istore_nL C (fun l2_1 => [(2, .int l2_1), (0, rf K 0), (1, .int l1)]) dX7_seed_11 (i := 2) rfl (by decide) rfl (fun l2_1 => ?_)
    refine mj_aload_n C 1 dX7_seed_12 (i := 0) rfl rfl ?_
    refine mj_iload_n C 2 dX7_seed_13 (i := 1) rfl rfl ?_
    refine mj_putL C fp_X7_265 dX7_seed_14 sh_0 rfl rfl rfl (fun h_2 => ?_)
    refine mj_iload_n C 0 dX7_seed_17 (i := 2) rfl rfl ?_
    exact mj_rIM C N dX7_seed_18
  · refine mj_ldc C kc_X7_62 dX7_seed_4 ?_
    exact mj_rIM C N dX7_seed_6
noncomputable def fX7_keep (h : Mm) (l1 : Int32) : Option (Int32 × Mm) := (if l1 < 0 then some ((-1000000001 : Int32), h) else (if l1 < (2 : Int32) then md_bd (fX2_take h 13 l1 (h 0 8)) (fun h_1 => md_lt (md_up h_1 15 2 (0 : Int32)) (fun h_2 : Mm => some ((1 : Int32), h_2))) else some ((-1000000001 : Int32), h)))
set_option maxRecDepth 100000 in
set_option maxHeartbeats 4000000 in
theorem ctX7_keep (K : Kx) (h : Mm) (l1 : Int32) {a : Int32 × Mm} (hF : fX7_keep h l1 = some a) : Mt K yX7_keep cX7_keep 2 (some .int) 2 45 SHc [rf K 0, .int l1] h (some (.int a.1)) a.2 := by
  refine Mt.of hF [(0, rf K 0), (1, .int l1)] (by decide) (Nat.le_of_ble_eq_true rfl) rfl (fun Y C N => ?_)
  have C : Cx K Y (0, 0) cX7_keep RX7 2 2 45 := C
  unfold fX7_keep
  refine mj_iload_n C 1 dX7_keep_0 (i := 1) rfl rfl ?_
  refine mj_if_lt C 9 dX7_keep_1 (by decide) ?_ ?_
  · refine mj_ldc C kc_X7_144 dX7_keep_9 ?_
    exact mj_rIM C N dX7_keep_11
  · refine mj_iload_n C 1 dX7_keep_4 (i := 1) rfl rfl ?_
    refine mj_iconst C (v := 2) dX7_keep_5 rfl ?_
    refine mj_icmp_lt C 12 dX7_keep_6 (by decide) ?_ ?_
    · refine mj_aload_n C 0 dX7_keep_12 (i := 0) rfl rfl ?_
      refine mj_getR C ff_X7_33 dX7_keep_13 sh_0 rfl ?_
      refine mj_iload_n C 1 dX7_keep_16 (i := 1) rfl rfl ?_
      refine mj_aload_n C 0 dX7_keep_17 (i := 0) rfl rfl ?_
      refine mj_getR C ff_X7_19 dX7_keep_18 sh_0 rfl ?_
      refine mj_aload_n C 0 dX7_keep_21 (i := 0) rfl rfl ?_
      refine mj_getI C ff_X7_265 dX7_keep_22 sh_0 rfl ?_
      refine mj_vM C my_X2_take mv_X7_268 dX7_keep_25 sh_57 rfl (fun a hF => ctX2_take K h 13 l1 (h 0 8) ps_13 hF) (by decide) (by decide) rfl rfl (Nat.le_of_ble_eq_true rfl) (fun h_1 => ?_)
      refine mj_aload_n C 0 dX7_keep_28 (i := 0) rfl rfl ?_
      refine mj_getR C ff_X7_26 dX7_keep_29 sh_0 rfl ?_
      refine mj_iconst C (v := 0) dX7_keep_32 rfl ?_
      refine mj_putL C fp_X7_90 dX7_keep_33 sh_15 rfl rfl rfl (fun h_2 => ?_)
      refine mj_iconst C (v := 1) dX7_keep_36 rfl ?_
      exact mj_rIM C N dX7_keep_37
    · refine mj_ldc C kc_X7_144 dX7_keep_9 ?_
      exact mj_rIM C N dX7_keep_11
noncomputable def fX7_goBack (h : Mm) (l1 : Int32) : Option (Int32 × Mm) := (if l1 < 0 then some ((-1000000001 : Int32), h) else (if l1 < (2 : Int32) then md_ck (md_in l1 2) ((if (h 60 (l1).toNatClampNeg) = 0 then some ((-1000000003 : Int32), h) else md_ck (md_in l1 2) (md_bd (fX4_become h 13 (61 + 2 * (l1).toNatClampNeg)) (fun h_2 => md_ck (md_in l1 2) (md_lt (md_up h_2 0 8 (h_2 59 (l1).toNatClampNeg)) (fun h_3 : Mm => md_lt (md_up h_3 15 2 (0 : Int32)) (fun h_4 : Mm => some ((1 : Int32), h_4)))))))) else some ((-1000000001 : Int32), h)))
set_option maxRecDepth 100000 in
set_option maxHeartbeats 4000000 in
theorem ctX7_goBack (K : Kx) (h : Mm) (l1 : Int32) {a : Int32 × Mm} (hF : fX7_goBack h l1 = some a) : Mt K yX7_goBack cX7_goBack 2 (some .int) 1 22 SHc [rf K 0, .int l1] h (some (.int a.1)) a.2 := by
  refine Mt.of hF [(0, rf K 0), (1, .int l1)] (by decide) (Nat.le_of_ble_eq_true rfl) rfl (fun Y C N => ?_)
  have C : Cx K Y (0, 0) cX7_goBack RX7 2 1 22 := C
  unfold fX7_goBack
  refine mj_iload_n C 1 dX7_goBack_0 (i := 1) rfl rfl ?_
  refine mj_if_lt C 9 dX7_goBack_1 (by decide) ?_ ?_
  · refine mj_ldc C kc_X7_144 dX7_goBack_9 ?_
    exact mj_rIM C N dX7_goBack_11
  · refine mj_iload_n C 1 dX7_goBack_4 (i := 1) rfl rfl ?_
    refine mj_iconst C (v := 2) dX7_goBack_5 rfl ?_
    refine mj_icmp_lt C 12 dX7_goBack_6 (by decide) ?_ ?_
    · refine mj_aload_n C 0 dX7_goBack_12 (i := 0) rfl rfl ?_
      refine mj_getR C ff_X7_33 dX7_goBack_13 sh_0 rfl ?_
      refine mj_getR C ff_X7_272 dX7_goBack_16 sh_57 rfl ?_
      refine mj_iload_n C 1 dX7_goBack_19 (i := 1) rfl rfl ?_
      refine mj_zald C dX7_goBack_20 sh_60 ?_
      refine mj_if_ne C 27 dX7_goBack_21 (by decide) ?_ ?_
      · refine mj_aload_n C 0 dX7_goBack_27 (i := 0) rfl rfl ?_
        refine mj_getR C ff_X7_19 dX7_goBack_28 sh_0 rfl ?_
        refine mj_aload_n C 0 dX7_goBack_31 (i := 0) rfl rfl ?_
        refine mj_getR C ff_X7_33 dX7_goBack_32 sh_0 rfl ?_
        refine mj_getR C ff_X7_276 dX7_goBack_35 sh_57 rfl ?_
        refine mj_iload_n C 1 dX7_goBack_38 (i := 1) rfl rfl ?_
        refine mj_aald C dX7_goBack_39 sh_58 (fun hp_1 => ?_)
        refine mj_vM C my_X4_become mv_X7_280 dX7_goBack_40 (ps_o ps_13) rfl (fun a hF => ctX4_become K h 13 (61 + 2 * (l1).toNatClampNeg) ps_13 (ps_img hp_1) hF) (by decide) (by decide) rfl rfl (Nat.le_of_ble_eq_true rfl) (fun h_2 => ?_)
        refine mj_aload_n C 0 dX7_goBack_43 (i := 0) rfl rfl ?_
        refine mj_aload_n C 0 dX7_goBack_44 (i := 0) rfl rfl ?_
        refine mj_getR C ff_X7_33 dX7_goBack_45 sh_0 rfl ?_
        refine mj_getR C ff_X7_283 dX7_goBack_48 sh_57 rfl ?_
        refine mj_iload_n C 1 dX7_goBack_51 (i := 1) rfl rfl ?_
        refine mj_iald C dX7_goBack_52 sh_59 ?_
        refine mj_putL C fp_X7_265 dX7_goBack_53 sh_0 rfl rfl rfl (fun h_3 => ?_)
        refine mj_aload_n C 0 dX7_goBack_56 (i := 0) rfl rfl ?_
        refine mj_getR C ff_X7_26 dX7_goBack_57 sh_0 rfl ?_
        refine mj_iconst C (v := 0) dX7_goBack_60 rfl ?_
        refine mj_putL C fp_X7_90 dX7_goBack_61 sh_15 rfl rfl rfl (fun h_4 => ?_)
        refine mj_iconst C (v := 1) dX7_goBack_64 rfl ?_
        exact mj_rIM C N dX7_goBack_65
      · refine mj_ldc C kc_X7_164 dX7_goBack_24 ?_
        exact mj_rIM C N dX7_goBack_26
    · refine mj_ldc C kc_X7_144 dX7_goBack_9 ?_
      exact mj_rIM C N dX7_goBack_11
