noncomputable def fX8_in (h : Mm) (l0 : Int64) (l2 : Int64) (l4 : Int64) : Option (Bool) := md_bd ((if (lg_cmp l0 l2) < 0 then some false else (if 0 < (lg_cmp l0 l4) then some false else some true))) (fun (v_1 : Bool) => some v_1)
set_option maxRecDepth 100000 in
set_option maxHeartbeats 4000000 in
theorem ctX8_in (K : Kx) (h : Mm) (l0 : Int64) (l2 : Int64) (l4 : Int64) {a : Bool} (hF : fX8_in h l0 l2 l4 = some a) : Mt K yX8_in cX8_in 6 (some .boolean) 0 0 SHc [.long l0, .long l2, .long l4] h (some (.int (md_bi a))) h := by
  refine Mt.of hF [(0, .long l0), (2, .long l2), (4, .long l4)] (by decide) (Nat.le_of_ble_eq_true rfl) rfl (fun Y C N => ?_)
  have C : Cx K Y (0, 0) cX8_in RX8 6 0 0 := C
  unfold fX8_in
  refine mj_lload_n C 0 dX8_in_0 (i := 0) rfl rfl ?_
  refine mj_lload_n C 1 dX8_in_1 (i := 2) rfl rfl ?_
  refine mj_lcmp C dX8_in_2 ?_
  refine mj_phi1 18 (fun (v_1 : Bool) => []) (fun (v_1 : Bool) => [.int (md_bi v_1)]) (fun (v_1 : Bool) => h) (fun P' kj_2 => ?_) (fun v_1 => ?_)
  · refine mj_if_lt C 17 dX8_in_3 (by decide) ?_ ?_
    · refine mj_iconst C (v := 0) dX8_in_17 rfl ?_
      exact mj_sub [] rfl (mj_some (kj_2 false))
    · refine mj_lload_n C 0 dX8_in_6 (i := 0) rfl rfl ?_
      refine mj_lload C 2 dX8_in_7 rfl ?_
      refine mj_lcmp C dX8_in_9 ?_
      refine mj_if_gt C 17 dX8_in_10 (by decide) ?_ ?_
      · refine mj_iconst C (v := 0) dX8_in_17 rfl ?_
        exact mj_sub [] rfl (mj_some (kj_2 false))
      · refine mj_iconst C (v := 1) dX8_in_13 rfl ?_
        refine mj_goto C 18 dX8_in_14 (by decide) ?_
        exact mj_sub [] rfl (mj_some (kj_2 true))
  · exact mj_rZ C N dX8_in_18
noncomputable def fX8_has (h : Mm) (l0 : Int32) (l1 : Int32) : Option (Bool) := md_bd ((if ((l0 >>> (l1 &&& 31)) &&& (1 : Int32)) = (1 : Int32) then some true else some false)) (fun (v_1 : Bool) => some v_1)
set_option maxRecDepth 100000 in
set_option maxHeartbeats 4000000 in
theorem ctX8_has (K : Kx) (h : Mm) (l0 : Int32) (l1 : Int32) {a : Bool} (hF : fX8_has h l0 l1 = some a) : Mt K yX8_has cX8_has 2 (some .boolean) 0 0 SHc [.int l0, .int l1] h (some (.int (md_bi a))) h := by
  refine Mt.of hF [(0, .int l0), (1, .int l1)] (by decide) (Nat.le_of_ble_eq_true rfl) rfl (fun Y C N => ?_)
  have C : Cx K Y (0, 0) cX8_has RX8 2 0 0 := C
  unfold fX8_has
  refine mj_iload_n C 0 dX8_has_0 (i := 0) rfl rfl ?_
  refine mj_iload_n C 1 dX8_has_1 (i := 1) rfl rfl ?_
  refine mj_ishr C dX8_has_2 ?_
  refine mj_iconst C (v := 1) dX8_has_3 rfl ?_
  refine mj_iand C dX8_has_4 ?_
  refine mj_iconst C (v := 1) dX8_has_5 rfl ?_
  refine mj_phi1 14 (fun (v_1 : Bool) => []) (fun (v_1 : Bool) => [.int (md_bi v_1)]) (fun (v_1 : Bool) => h) (fun P' kj_2 => ?_) (fun v_1 => ?_)
  · refine mj_icmp_ne C 13 dX8_has_6 (by decide) ?_ ?_
    · refine mj_iconst C (v := 0) dX8_has_13 rfl ?_
      exact mj_sub [] rfl (mj_some (kj_2 false))
    · refine mj_iconst C (v := 1) dX8_has_9 rfl ?_
      refine mj_goto C 14 dX8_has_10 (by decide) ?_
      exact mj_sub [] rfl (mj_some (kj_2 true))
  · exact mj_rZ C N dX8_has_14
noncomputable def fX8_bits_4 : Nat → Mm → Int32 → Int32 → Int32 → Option (Int32)
  | 0, _, _, _, _ => none
  | n + 1, h, l0, l1, l2 => (if (8 : Int32) ≤ l2 then some l1 else md_lt (l1 + ((l0 >>> (l2 &&& 31)) &&& (1 : Int32))) (fun l1_1 : Int32 => fX8_bits_4 n h l0 l1_1 (l2 + 1)))
set_option maxRecDepth 100000 in
set_option maxHeartbeats 4000000 in
theorem lX8_bits_4 {K : Kx} {Y : Yx} {cs : Nat × Nat} (C : Cx K Y cs cX8_bits RX8 3 0 0) {P : Int32 → Prop} : ∀ (n : Nat) (h : Mm) (l0 : Int32) (l1 : Int32) (l2 : Int32), (∀ (w1 : Int32), J SHc K Y cs (P w1) 24 [(1, .int w1)] [] h) → J SHc K Y cs (mj_O (fX8_bits_4 n h l0 l1 l2) P) 4 [(0, .int l0), (1, .int l1), (2, .int l2)] [] h := by
  intro n
  induction n with
  | zero => intro h l0 l1 l2 kk0; exact mj_none
  | succ n ih =>
    intro h l0 l1 l2 kk0
    rw [fX8_bits_4]
    refine mj_iload_n C 2 dX8_bits_4 (i := 2) rfl rfl ?_
    refine mj_bipush C (v := 8) dX8_bits_5 rfl ?_
    refine mj_icmp_ge C 24 dX8_bits_7 (by decide) ?_ ?_
    · exact mj_sub [1] rfl (mj_some (kk0 l1))
    · refine mj_iload_n C 1 dX8_bits_10 (i := 1) rfl rfl ?_
      refine mj_iload_n C 0 dX8_bits_11 (i := 0) rfl rfl ?_
      refine mj_iload_n C 2 dX8_bits_12 (i := 2) rfl rfl ?_
      refine mj_ishr C dX8_bits_13 ?_
      refine mj_iconst C (v := 1) dX8_bits_14 rfl ?_
      refine mj_iand C dX8_bits_15 ?_
      refine mj_iadd C dX8_bits_16 ?_
      refine mj_istore_nL C (fun l1_1 => [(1, .int l1_1), (0, .int l0), (2, .int l2)]) dX8_bits_17 (i := 1) rfl (by decide) rfl (fun l1_1 => ?_)
      refine mj_iinc C (l2 + 1) 2 [(2, .int (l2 + 1)), (1, .int l1_1), (0, .int l0)] dX8_bits_18 rfl rfl (by decide) rfl ?_
      refine mj_goto C 4 dX8_bits_21 (by decide) ?_
      exact mj_sub [2, 1, 0] rfl (ih h l0 l1_1 (l2 + 1) kk0)
noncomputable def fX8_bits (h : Mm) (l0 : Int32) : Option (Int32) := md_bd (fX8_bits_4 md_N h l0 (0 : Int32) (0 : Int32)) (fun (v_2 : Int32) => some v_2)
set_option maxRecDepth 100000 in
set_option maxHeartbeats 4000000 in
theorem ctX8_bits (K : Kx) (h : Mm) (l0 : Int32) {a : Int32} (hF : fX8_bits h l0 = some a) : Mt K yX8_bits cX8_bits 3 (some .int) 0 0 SHc [.int l0] h (some (.int a)) h := by
  refine Mt.of hF [(0, .int l0)] (by decide) (Nat.le_of_ble_eq_true rfl) rfl (fun Y C N => ?_)
  have C : Cx K Y (0, 0) cX8_bits RX8 3 0 0 := C
  unfold fX8_bits
  refine mj_iconst C (v := 0) dX8_bits_0 rfl ?_
  refine mj_istore_n C [(1, .int (0 : Int32)), (0, .int l0)] dX8_bits_1 (i := 1) rfl (by decide) rfl ?_
  refine mj_iconst C (v := 0) dX8_bits_2 rfl ?_
  refine mj_istore_n C [(2, .int (0 : Int32)), (1, .int (0 : Int32)), (0, .int l0)] dX8_bits_3 (i := 2) rfl (by decide) rfl ?_
  refine mj_phi1 24 (fun (v_2 : Int32) => [(1, .int v_2)]) (fun (v_2 : Int32) => []) (fun (v_2 : Int32) => h) (fun P' kj_3 => mj_sub [2, 1, 0] rfl (lX8_bits_4 C md_N h l0 (0 : Int32) (0 : Int32) kj_3)) (fun v_2 => ?_)
  refine mj_iload_n C 0 dX8_bits_24 (i := 1) rfl rfl ?_
  exact mj_rI C N dX8_bits_25
noncomputable def fX8_atMost (h : Mm) (l0 : Int32) : Option (Int32) := md_bd ((if (999999 : Int32) ≤ l0 then some (999999 : Int32) else some l0)) (fun (v_1 : Int32) => some v_1)
set_option maxRecDepth 100000 in
set_option maxHeartbeats 4000000 in
theorem ctX8_atMost (K : Kx) (h : Mm) (l0 : Int32) {a : Int32} (hF : fX8_atMost h l0 = some a) : Mt K yX8_atMost cX8_atMost 1 (some .int) 0 0 SHc [.int l0] h (some (.int a)) h := by
  refine Mt.of hF [(0, .int l0)] (by decide) (Nat.le_of_ble_eq_true rfl) rfl (fun Y C N => ?_)
  have C : Cx K Y (0, 0) cX8_atMost RX8 1 0 0 := C
  unfold fX8_atMost
  refine mj_iload_n C 0 dX8_atMost_0 (i := 0) rfl rfl ?_
  refine mj_ldc C kc_X8_102 dX8_atMost_1 ?_
  refine mj_phi1 12 (fun (v_1 : Int32) => []) (fun (v_1 : Int32) => [.int v_1]) (fun (v_1 : Int32) => h) (fun P' kj_2 => ?_) (fun v_1 => ?_)
  · refine mj_icmp_ge C 10 dX8_atMost_3 (by decide) ?_ ?_
    · refine mj_ldc C kc_X8_102 dX8_atMost_10 ?_
      exact mj_sub [] rfl (mj_some (kj_2 (999999 : Int32)))
    · refine mj_iload_n C 0 dX8_atMost_6 (i := 0) rfl rfl ?_
      refine mj_goto C 12 dX8_atMost_7 (by decide) ?_
      exact mj_sub [] rfl (mj_some (kj_2 l0))
  · exact mj_rI C N dX8_atMost_12
noncomputable def fX8_isIdea (h : Mm) (l1 : Int32) : Option (Bool) := md_bd (fX8_in h ((l1).toInt64) (0 : Int64) ((((h 84 2) - (1 : Int32))).toInt64)) (fun r_1 => some r_1)
set_option maxRecDepth 100000 in
set_option maxHeartbeats 4000000 in
theorem ctX8_isIdea (K : Kx) (h : Mm) (l1 : Int32) {a : Bool} (hF : fX8_isIdea h l1 = some a) : Mt K yX8_isIdea cX8_isIdea 2 (some .boolean) 1 25 SHc [rf K 84, .int l1] h (some (.int (md_bi a))) h := by
  refine Mt.of hF [(0, rf K 84), (1, .int l1)] (by decide) (Nat.le_of_ble_eq_true rfl) rfl (fun Y C N => ?_)
  have C : Cx K Y (0, 0) cX8_isIdea RX8 2 1 25 := C
  unfold fX8_isIdea
  refine mj_iload_n C 1 dX8_isIdea_0 (i := 1) rfl rfl ?_
  refine mj_i2l C dX8_isIdea_1 ?_
  refine mj_lconst C (v := 0) dX8_isIdea_2 rfl ?_
  refine mj_aload_n C 0 dX8_isIdea_3 (i := 0) rfl rfl ?_
  refine mj_getI C ff_X8_103 dX8_isIdea_4 sh_84 rfl ?_
  refine mj_iconst C (v := 1) dX8_isIdea_7 rfl ?_
  refine mj_isub C dX8_isIdea_8 ?_
  refine mj_i2l C dX8_isIdea_9 ?_
  refine mj_sB C my_X8_in ms_X8_106 dX8_isIdea_10 (fun a hF => ctX8_in K h ((l1).toInt64) (0 : Int64) ((((h 84 2) - (1 : Int32))).toInt64)  hF) (by decide) (by decide) rfl rfl (Nat.le_of_ble_eq_true rfl) (fun r_1 => ?_)
  exact mj_rZ C N dX8_isIdea_13
noncomputable def fX8_isSet (h : Mm) (l1 : Int32) : Option (Bool) := md_bd (fX8_in h ((l1).toInt64) (0 : Int64) (((((1 : Int32) <<< ((h 84 2) &&& 31)) - (1 : Int32))).toInt64)) (fun r_1 => some r_1)
set_option maxRecDepth 100000 in
set_option maxHeartbeats 4000000 in
theorem ctX8_isSet (K : Kx) (h : Mm) (l1 : Int32) {a : Bool} (hF : fX8_isSet h l1 = some a) : Mt K yX8_isSet cX8_isSet 2 (some .boolean) 1 25 SHc [rf K 84, .int l1] h (some (.int (md_bi a))) h := by
  refine Mt.of hF [(0, rf K 84), (1, .int l1)] (by decide) (Nat.le_of_ble_eq_true rfl) rfl (fun Y C N => ?_)
  have C : Cx K Y (0, 0) cX8_isSet RX8 2 1 25 := C
  unfold fX8_isSet
  refine mj_iload_n C 1 dX8_isSet_0 (i := 1) rfl rfl ?_
  refine mj_i2l C dX8_isSet_1 ?_
  refine mj_lconst C (v := 0) dX8_isSet_2 rfl ?_
  refine mj_iconst C (v := 1) dX8_isSet_3 rfl ?_
  refine mj_aload_n C 0 dX8_isSet_4 (i := 0) rfl rfl ?_
  refine mj_getI C ff_X8_103 dX8_isSet_5 sh_84 rfl ?_
  refine mj_ishl C dX8_isSet_8 ?_
  refine mj_iconst C (v := 1) dX8_isSet_9 rfl ?_
  refine mj_isub C dX8_isSet_10 ?_
  refine mj_i2l C dX8_isSet_11 ?_
  refine mj_sB C my_X8_in ms_X8_106 dX8_isSet_12 (fun a hF => ctX8_in K h ((l1).toInt64) (0 : Int64) (((((1 : Int32) <<< ((h 84 2) &&& 31)) - (1 : Int32))).toInt64)  hF) (by decide) (by decide) rfl rfl (Nat.le_of_ble_eq_true rfl) (fun r_1 => ?_)
  exact mj_rZ C N dX8_isSet_15
noncomputable def fX8_isTraveller (h : Mm) (l1 : Int32) : Option (Bool) := md_bd (fX8_in h ((l1).toInt64) (0 : Int64) ((((h 84 12) - (1 : Int32))).toInt64)) (fun r_1 => some r_1)
set_option maxRecDepth 100000 in
set_option maxHeartbeats 4000000 in
theorem ctX8_isTraveller (K : Kx) (h : Mm) (l1 : Int32) {a : Bool} (hF : fX8_isTraveller h l1 = some a) : Mt K yX8_isTraveller cX8_isTraveller 2 (some .boolean) 1 25 SHc [rf K 84, .int l1] h (some (.int (md_bi a))) h := by
  refine Mt.of hF [(0, rf K 84), (1, .int l1)] (by decide) (Nat.le_of_ble_eq_true rfl) rfl (fun Y C N => ?_)
  have C : Cx K Y (0, 0) cX8_isTraveller RX8 2 1 25 := C
  unfold fX8_isTraveller
  refine mj_iload_n C 1 dX8_isTraveller_0 (i := 1) rfl rfl ?_
  refine mj_i2l C dX8_isTraveller_1 ?_
  refine mj_lconst C (v := 0) dX8_isTraveller_2 rfl ?_
  refine mj_aload_n C 0 dX8_isTraveller_3 (i := 0) rfl rfl ?_
  refine mj_getI C ff_X8_110 dX8_isTraveller_4 sh_84 rfl ?_
  refine mj_iconst C (v := 1) dX8_isTraveller_7 rfl ?_
  refine mj_isub C dX8_isTraveller_8 ?_
  refine mj_i2l C dX8_isTraveller_9 ?_
  refine mj_sB C my_X8_in ms_X8_106 dX8_isTraveller_10 (fun a hF => ctX8_in K h ((l1).toInt64) (0 : Int64) ((((h 84 12) - (1 : Int32))).toInt64)  hF) (by decide) (by decide) rfl rfl (Nat.le_of_ble_eq_true rfl) (fun r_1 => ?_)
  exact mj_rZ C N dX8_isTraveller_13
noncomputable def fX8_feed (h : Mm) (l1 : Int32) : Option (Int32 × Mm) := md_bd (fX8_in h ((l1).toInt64) (0 : Int64) (255 : Int64)) (fun r_1 => (if r_1 = true then (if (h 84 16) = (240 : Int32) then some ((-1000000004 : Int32), h) else md_ck (md_in (h 84 16) 240) (md_lt (md_up h 93 ((h 84 16)).toNatClampNeg l1) (fun h_2 : Mm => md_lt (md_up h_2 84 16 ((h_2 84 16) + (1 : Int32))) (fun h_3 : Mm => some ((h_3 84 16), h_3))))) else some ((-1000000002 : Int32), h)))
set_option maxRecDepth 100000 in
set_option maxHeartbeats 4000000 in
theorem ctX8_feed (K : Kx) (h : Mm) (l1 : Int32) {a : Int32 × Mm} (hF : fX8_feed h l1 = some a) : Mt K yX8_feed cX8_feed 2 (some .int) 1 25 SHc [rf K 84, .int l1] h (some (.int a.1)) a.2 := by
  refine Mt.of hF [(0, rf K 84), (1, .int l1)] (by decide) (Nat.le_of_ble_eq_true rfl) rfl (fun Y C N => ?_)
  have C : Cx K Y (0, 0) cX8_feed RX8 2 1 25 := C
  unfold fX8_feed
  refine mj_iload_n C 1 dX8_feed_0 (i := 1) rfl rfl ?_
  refine mj_i2l C dX8_feed_1 ?_
  refine mj_lconst C (v := 0) dX8_feed_2 rfl ?_
  refine mj_ldc2 C kc_X8_113 dX8_feed_3 ?_
  refine mj_sB C my_X8_in ms_X8_106 dX8_feed_6 (fun a hF => ctX8_in K h ((l1).toInt64) (0 : Int64) (255 : Int64)  hF) (by decide) (by decide) rfl rfl (Nat.le_of_ble_eq_true rfl) (fun r_1 => ?_)
  refine mj_b_ne C 15 dX8_feed_9 (by decide) ?_ ?_
  · refine mj_aload_n C 0 dX8_feed_15 (i := 0) rfl rfl ?_
    refine mj_getI C ff_X8_116 dX8_feed_16 sh_84 rfl ?_
    refine mj_sipush C (v := 240) dX8_feed_19 rfl ?_
    refine mj_icmp_ne C 28 dX8_feed_22 (by decide) ?_ ?_
    · refine mj_aload_n C 0 dX8_feed_28 (i := 0) rfl rfl ?_
      refine mj_getR C ff_X8_34 dX8_feed_29 sh_84 rfl ?_
      refine mj_aload_n C 0 dX8_feed_32 (i := 0) rfl rfl ?_
      refine mj_getI C ff_X8_116 dX8_feed_33 sh_84 rfl ?_
      refine mj_iload_n C 1 dX8_feed_36 (i := 1) rfl rfl ?_
      refine mj_iast C dX8_feed_37 sh_93 (fun h_2 => ?_)
      refine mj_aload_n C 0 dX8_feed_38 (i := 0) rfl rfl ?_
      refine mj_dup C dX8_feed_39 rfl ?_
      refine mj_getI C ff_X8_116 dX8_feed_40 sh_84 rfl ?_
      refine mj_iconst C (v := 1) dX8_feed_43 rfl ?_
      refine mj_iadd C dX8_feed_44 ?_
      refine mj_putL C fp_X8_116 dX8_feed_45 sh_84 rfl rfl rfl (fun h_3 => ?_)
      refine mj_aload_n C 0 dX8_feed_48 (i := 0) rfl rfl ?_
      refine mj_getI C ff_X8_116 dX8_feed_49 sh_84 rfl ?_
      exact mj_rIM C N dX8_feed_52
    · refine mj_ldc C kc_X8_119 dX8_feed_25 ?_
      exact mj_rIM C N dX8_feed_27
  · refine mj_ldc C kc_X8_115 dX8_feed_12 ?_
    exact mj_rIM C N dX8_feed_14
noncomputable def fX8_here_0 : Nat → Mm → Option (Mm)
  | 0, _ => none
  | n + 1, h => (if (h 84 16) ≤ (h 84 18) then some h else md_ck (md_in (h 84 18) 240) ((if (h 93 ((h 84 18)).toNatClampNeg) = (32 : Int32) then md_lt (md_up h 84 18 ((h 84 18) + (1 : Int32))) (fun h_1 : Mm => fX8_here_0 n h_1) else some h)))
set_option maxRecDepth 100000 in
set_option maxHeartbeats 4000000 in
theorem lX8_here_0 {K : Kx} {Y : Yx} {cs : Nat × Nat} (C : Cx K Y cs cX8_here RX8 1 0 0) {P : Mm → Prop} : ∀ (n : Nat) (h : Mm), (∀ (hw : Mm), J SHc K Y cs (P hw) 38 [(0, rf K 84)] [] hw) → J SHc K Y cs (mj_O (fX8_here_0 n h) P) 0 [(0, rf K 84)] [] h := by
  intro n
  induction n with
  | zero => intro h kk0; exact mj_none
  | succ n ih =>
    intro h kk0
    rw [fX8_here_0]
    refine mj_aload_n C 0 dX8_here_0 (i := 0) rfl rfl ?_
    refine mj_getI C ff_X8_120 dX8_here_1 sh_84 rfl ?_
    refine mj_aload_n C 0 dX8_here_4 (i := 0) rfl rfl ?_
    refine mj_getI C ff_X8_116 dX8_here_5 sh_84 rfl ?_
    refine mj_icmp_ge C 38 dX8_here_8 (by decide) ?_ ?_
    · exact mj_sub [0] rfl (mj_some (kk0 h))
    · refine mj_aload_n C 0 dX8_here_11 (i := 0) rfl rfl ?_
      refine mj_getR C ff_X8_34 dX8_here_12 sh_84 rfl ?_
      refine mj_aload_n C 0 dX8_here_15 (i := 0) rfl rfl ?_
      refine mj_getI C ff_X8_120 dX8_here_16 sh_84 rfl ?_
      refine mj_iald C dX8_here_19 sh_93 ?_
      refine mj_bipush C (v := 32) dX8_here_20 rfl ?_
      refine mj_icmp_ne C 38 dX8_here_22 (by decide) ?_ ?_
      · exact mj_sub [0] rfl (mj_some (kk0 h))
      · refine mj_aload_n C 0 dX8_here_25 (i := 0) rfl rfl ?_
        refine mj_dup C dX8_here_26 rfl ?_
        refine mj_getI C ff_X8_120 dX8_here_27 sh_84 rfl ?_
        refine mj_iconst C (v := 1) dX8_here_30 rfl ?_
        refine mj_iadd C dX8_here_31 ?_
        refine mj_putL C fp_X8_120 dX8_here_32 sh_84 rfl rfl rfl (fun h_1 => ?_)
        refine mj_goto C 0 dX8_here_35 (by decide) ?_
        exact mj_sub [0] rfl (ih h_1  kk0)
noncomputable def fX8_here (h : Mm) : Option (Int32 × Mm) := md_bd (fX8_here_0 md_N h) (fun (h_2 : Mm) => md_bd ((if (h_2 84 16) ≤ (h_2 84 18) then some (-1 : Int32) else md_ck (md_in (h_2 84 18) 240) (some (h_2 93 ((h_2 84 18)).toNatClampNeg)))) (fun (v_3 : Int32) => some (v_3, h_2)))
set_option maxRecDepth 100000 in
set_option maxHeartbeats 4000000 in
theorem ctX8_here (K : Kx) (h : Mm) {a : Int32 × Mm} (hF : fX8_here h = some a) : Mt K yX8_here cX8_here 1 (some .int) 0 0 SHc [rf K 84] h (some (.int a.1)) a.2 := by
  refine Mt.of hF [(0, rf K 84)] (by decide) (Nat.le_of_ble_eq_true rfl) rfl (fun Y C N => ?_)
  have C : Cx K Y (0, 0) cX8_here RX8 1 0 0 := C
  unfold fX8_here
  refine mj_phi1 38 (fun (h_2 : Mm) => [(0, rf K 84)]) (fun (h_2 : Mm) => []) (fun (h_2 : Mm) => h_2) (fun P' kj_5 => mj_sub [0] rfl (lX8_here_0 C md_N h  kj_5)) (fun h_2 => ?_)
  refine mj_aload_n C 0 dX8_here_38 (i := 0) rfl rfl ?_
  refine mj_getI C ff_X8_120 dX8_here_39 sh_84 rfl ?_
  refine mj_aload_n C 0 dX8_here_42 (i := 0) rfl rfl ?_
  refine mj_getI C ff_X8_116 dX8_here_43 sh_84 rfl ?_
  refine mj_phi1 62 (fun (v_3 : Int32) => []) (fun (v_3 : Int32) => [.int v_3]) (fun (v_3 : Int32) => h_2) (fun P' kj_4 => ?_) (fun v_3 => ?_)
  · refine mj_icmp_ge C 61 dX8_here_46 (by decide) ?_ ?_
    · refine mj_iconst C (v := -1) dX8_here_61 rfl ?_
      exact mj_sub [] rfl (mj_some (kj_4 (-1 : Int32)))
    · refine mj_aload_n C 0 dX8_here_49 (i := 0) rfl rfl ?_
      refine mj_getR C ff_X8_34 dX8_here_50 sh_84 rfl ?_
      refine mj_aload_n C 0 dX8_here_53 (i := 0) rfl rfl ?_
      refine mj_getI C ff_X8_120 dX8_here_54 sh_84 rfl ?_
      refine mj_iald C dX8_here_57 sh_93 ?_
      refine mj_goto C 62 dX8_here_58 (by decide) ?_
      exact mj_sub [] rfl (mj_some (kj_4 (h_2 93 ((h_2 84 18)).toNatClampNeg)))
  · exact mj_rIM C N dX8_here_62
noncomputable def fX8_fails (h : Mm) (l1 : Int32) (l2 : Int32) : Option (Int32 × Mm) := md_lt (md_up h 84 17 l2) (fun h_1 : Mm => some (l1, h_1))
set_option maxRecDepth 100000 in
set_option maxHeartbeats 4000000 in
theorem ctX8_fails (K : Kx) (h : Mm) (l1 : Int32) (l2 : Int32) {a : Int32 × Mm} (hF : fX8_fails h l1 l2 = some a) : Mt K yX8_fails cX8_fails 3 (some .int) 0 0 SHc [rf K 84, .int l1, .int l2] h (some (.int a.1)) a.2 := by
  refine Mt.of hF [(0, rf K 84), (1, .int l1), (2, .int l2)] (by decide) (Nat.le_of_ble_eq_true rfl) rfl (fun Y C N => ?_)
  have C : Cx K Y (0, 0) cX8_fails RX8 3 0 0 := C
  unfold fX8_fails
  refine mj_aload_n C 0 dX8_fails_0 (i := 0) rfl rfl ?_
  refine mj_iload_n C 2 dX8_fails_1 (i := 2) rfl rfl ?_
  refine mj_putL C fp_X8_37 dX8_fails_2 sh_84 rfl rfl rfl (fun h_1 => ?_)
  refine mj_iload_n C 1 dX8_fails_5 (i := 1) rfl rfl ?_
  exact mj_rIM C N dX8_fails_6
noncomputable def fX8_takeNumber_42 : Nat → Mm → Int32 → Int32 → Option (Mm)
  | 0, _, _, _ => none
  | n + 1, h, l1, l2 => (if (h 84 16) ≤ (h 84 18) then some h else md_ck (md_in (h 84 18) 240) (md_bd (fX8_in h (((h 93 ((h 84 18)).toNatClampNeg)).toInt64) (48 : Int64) (57 : Int64)) (fun r_6 => (if r_6 = true then md_bd ((if (h 84 19) ≤ (10000 : Int32) then md_ck (md_in (h 84 18) 240) (some ((((10 : Int32) * (h 84 19)) + (h 93 ((h 84 18)).toNatClampNeg)) - (48 : Int32))) else some (h 84 19))) (fun (v_7 : Int32) => md_lt (md_up h 84 19 v_7) (fun h_9 : Mm => md_lt (md_up h_9 84 18 ((h_9 84 18) + (1 : Int32))) (fun h_10 : Mm => fX8_takeNumber_42 n h_10 l1 l2))) else some h))))
set_option maxRecDepth 100000 in
set_option maxHeartbeats 4000000 in
theorem lX8_takeNumber_42 {K : Kx} {Y : Yx} {cs : Nat × Nat} (C : Cx K Y cs cX8_takeNumber RX8 4 1 25) {P : Mm → Prop} : ∀ (n : Nat) (h : Mm) (l1 : Int32) (l2 : Int32), (∀ (hw : Mm), J SHc K Y cs (P hw) 129 [(0, rf K 84), (1, .int l1), (2, .int l2)] [] hw) → J SHc K Y cs (mj_O (fX8_takeNumber_42 n h l1 l2) P) 42 [(0, rf K 84), (1, .int l1), (2, .int l2)] [] h := by
  intro n
  induction n with
  | zero => intro h l1 l2 kk0; exact mj_none
  | succ n ih =>
    intro h l1 l2 kk0
    rw [fX8_takeNumber_42]
    refine mj_aload_n C 0 dX8_takeNumber_42 (i := 0) rfl rfl ?_
    refine mj_getI C ff_X8_120 dX8_takeNumber_43 sh_84 rfl ?_
    refine mj_aload_n C 0 dX8_takeNumber_46 (i := 0) rfl rfl ?_
    refine mj_getI C ff_X8_116 dX8_takeNumber_47 sh_84 rfl ?_
    refine mj_icmp_ge C 129 dX8_takeNumber_50 (by decide) ?_ ?_
    · exact mj_sub [0, 1, 2] rfl (mj_some (kk0 h))
    · refine mj_aload_n C 0 dX8_takeNumber_53 (i := 0) rfl rfl ?_
      refine mj_getR C ff_X8_34 dX8_takeNumber_54 sh_84 rfl ?_
      refine mj_aload_n C 0 dX8_takeNumber_57 (i := 0) rfl rfl ?_
      refine mj_getI C ff_X8_120 dX8_takeNumber_58 sh_84 rfl ?_
      refine mj_iald C dX8_takeNumber_61 sh_93 ?_
      refine mj_i2l C dX8_takeNumber_62 ?_
      refine mj_ldc2 C kc_X8_127 dX8_takeNumber_63 ?_
      refine mj_ldc2 C kc_X8_129 dX8_takeNumber_66 ?_
      refine mj_sB C my_X8_in ms_X8_106 dX8_takeNumber_69 (fun a hF => ctX8_in K h (((h 93 ((h 84 18)).toNatClampNeg)).toInt64) (48 : Int64) (57 : Int64)  hF) (by decide) (by decide) rfl rfl (Nat.le_of_ble_eq_true rfl) (fun r_6 => ?_)
      refine mj_b_eq C 129 dX8_takeNumber_72 (by decide) ?_ ?_
      · exact mj_sub [0, 1, 2] rfl (mj_some (kk0 h))
      · refine mj_aload_n C 0 dX8_takeNumber_75 (i := 0) rfl rfl ?_
        refine mj_aload_n C 0 dX8_takeNumber_76 (i := 0) rfl rfl ?_
        refine mj_getI C ff_X8_138 dX8_takeNumber_77 sh_84 rfl ?_
        refine mj_sipush C (v := 10000) dX8_takeNumber_80 rfl ?_
        refine mj_phi1 113 (fun (v_7 : Int32) => [(0, rf K 84), (1, .int l1), (2, .int l2)]) (fun (v_7 : Int32) => [.int v_7, rf K 84]) (fun (v_7 : Int32) => h) (fun P' kj_8 => ?_) (fun v_7 => ?_)
        · refine mj_icmp_le C 93 dX8_takeNumber_83 (by decide) ?_ ?_
          · refine mj_bipush C (v := 10) dX8_takeNumber_93 rfl ?_
            refine mj_aload_n C 0 dX8_takeNumber_95 (i := 0) rfl rfl ?_
            refine mj_getI C ff_X8_138 dX8_takeNumber_96 sh_84 rfl ?_
            refine mj_imul C dX8_takeNumber_99 ?_
            refine mj_aload_n C 0 dX8_takeNumber_100 (i := 0) rfl rfl ?_
            refine mj_getR C ff_X8_34 dX8_takeNumber_101 sh_84 rfl ?_
            refine mj_aload_n C 0 dX8_takeNumber_104 (i := 0) rfl rfl ?_
            refine mj_getI C ff_X8_120 dX8_takeNumber_105 sh_84 rfl ?_
            refine mj_iald C dX8_takeNumber_108 sh_93 ?_
            refine mj_iadd C dX8_takeNumber_109 ?_
            refine mj_bipush C (v := 48) dX8_takeNumber_110 rfl ?_
            refine mj_isub C dX8_takeNumber_112 ?_
            exact mj_sub [0, 1, 2] rfl (mj_some (kj_8 ((((10 : Int32) * (h 84 19)) + (h 93 ((h 84 18)).toNatClampNeg)) - (48 : Int32))))
          · refine mj_aload_n C 0 dX8_takeNumber_86 (i := 0) rfl rfl ?_
            refine mj_getI C ff_X8_138 dX8_takeNumber_87 sh_84 rfl ?_
            refine mj_goto C 113 dX8_takeNumber_90 (by decide) ?_
            exact mj_sub [0, 1, 2] rfl (mj_some (kj_8 (h 84 19)))
        · refine mj_putL C fp_X8_138 dX8_takeNumber_113 sh_84 rfl rfl rfl (fun h_9 => ?_)
          refine mj_aload_n C 0 dX8_takeNumber_116 (i := 0) rfl rfl ?_
          refine mj_dup C dX8_takeNumber_117 rfl ?_
          refine mj_getI C ff_X8_120 dX8_takeNumber_118 sh_84 rfl ?_
          refine mj_iconst C (v := 1) dX8_takeNumber_121 rfl ?_
          refine mj_iadd C dX8_takeNumber_122 ?_
          refine mj_putL C fp_X8_120 dX8_takeNumber_123 sh_84 rfl rfl rfl (fun h_10 => ?_)
          refine mj_goto C 42 dX8_takeNumber_126 (by decide) ?_
          exact mj_sub [0, 1, 2] rfl (ih h_10 l1 l2 kk0)
noncomputable def fX8_takeNumber (h : Mm) (l1 : Int32) (l2 : Int32) : Option (Int32 × Mm) := md_b2 (fX8_here h) (fun r_1 h_2 => md_bd (fX8_in h_2 ((r_1).toInt64) (48 : Int64) (57 : Int64)) (fun r_3 => (if r_3 = true then md_lt (md_up h_2 84 20 (h_2 84 18)) (fun h_4 : Mm => md_lt (md_up h_4 84 19 (0 : Int32)) (fun h_5 : Mm => md_bd (fX8_takeNumber_42 md_N h_5 l1 l2) (fun (h_11 : Mm) => md_b2 ((if (3 : Int32) < ((h_11 84 18) - (h_11 84 20)) then md_b2 (fX8_fails h_11 (2 : Int32) (h_11 84 20)) (fun r_15 h_16 => some (r_15, h_16)) else md_bd (fX8_in h_11 (((h_11 84 19)).toInt64) ((l1).toInt64) ((l2).toInt64)) (fun r_17 => (if r_17 = true then some ((0 : Int32), h_11) else md_b2 (fX8_fails h_11 (2 : Int32) (h_11 84 20)) (fun r_18 h_19 => some (r_18, h_19)))))) (fun (v_12 : Int32) (h_13 : Mm) => some (v_12, h_13))))) else md_b2 (fX8_fails h_2 (1 : Int32) (h_2 84 18)) (fun r_21 h_22 => some (r_21, h_22)))))
set_option maxRecDepth 100000 in
set_option maxHeartbeats 4000000 in
theorem ctX8_takeNumber (K : Kx) (h : Mm) (l1 : Int32) (l2 : Int32) {a : Int32 × Mm} (hF : fX8_takeNumber h l1 l2 = some a) : Mt K yX8_takeNumber cX8_takeNumber 4 (some .int) 1 25 SHc [rf K 84, .int l1, .int l2] h (some (.int a.1)) a.2 := by
  refine Mt.of hF [(0, rf K 84), (1, .int l1), (2, .int l2)] (by decide) (Nat.le_of_ble_eq_true rfl) rfl (fun Y C N => ?_)
  have C : Cx K Y (0, 0) cX8_takeNumber RX8 4 1 25 := C
  unfold fX8_takeNumber
  refine mj_aload_n C 0 dX8_takeNumber_0 (i := 0) rfl rfl ?_
  refine mj_vIM C my_X8_here mv_X8_123 dX8_takeNumber_1 sh_84 rfl (fun a hF => ctX8_here K h   hF) (by decide) (by decide) rfl rfl (Nat.le_of_ble_eq_true rfl) (fun r_1 h_2 => ?_)
  refine mj_istore_n C [(3, .int r_1), (0, rf K 84), (1, .int l1), (2, .int l2)] dX8_takeNumber_4 (i := 3) rfl (by decide) rfl ?_
  refine mj_iload_n C 0 dX8_takeNumber_5 (i := 3) rfl rfl ?_
  refine mj_i2l C dX8_takeNumber_6 ?_
  refine mj_ldc2 C kc_X8_127 dX8_takeNumber_7 ?_
  refine mj_ldc2 C kc_X8_129 dX8_takeNumber_10 ?_
  refine mj_sB C my_X8_in ms_X8_106 dX8_takeNumber_13 (fun a hF => ctX8_in K h_2 ((r_1).toInt64) (48 : Int64) (57 : Int64)  hF) (by decide) (by decide) rfl rfl (Nat.le_of_ble_eq_true rfl) (fun r_3 => ?_)
  refine mj_b_ne C 29 dX8_takeNumber_16 (by decide) ?_ ?_
  · refine mj_aload_n C 1 dX8_takeNumber_29 (i := 0) rfl rfl ?_
    refine mj_aload_n C 1 dX8_takeNumber_30 (i := 0) rfl rfl ?_
    refine mj_getI C ff_X8_120 dX8_takeNumber_31 sh_84 rfl ?_
    refine mj_putL C fp_X8_135 dX8_takeNumber_34 sh_84 rfl rfl rfl (fun h_4 => ?_)
    refine mj_aload_n C 1 dX8_takeNumber_37 (i := 0) rfl rfl ?_
    refine mj_iconst C (v := 0) dX8_takeNumber_38 rfl ?_
    refine mj_putL C fp_X8_138 dX8_takeNumber_39 sh_84 rfl rfl rfl (fun h_5 => ?_)
    refine mj_phi1 129 (fun (h_11 : Mm) => [(0, rf K 84), (1, .int l1), (2, .int l2)]) (fun (h_11 : Mm) => []) (fun (h_11 : Mm) => h_11) (fun P' kj_20 => mj_sub [1, 2, 3] rfl (lX8_takeNumber_42 C md_N h_5 l1 l2 kj_20)) (fun h_11 => ?_)
    refine mj_aload_n C 0 dX8_takeNumber_129 (i := 0) rfl rfl ?_
    refine mj_getI C ff_X8_120 dX8_takeNumber_130 sh_84 rfl ?_
    refine mj_aload_n C 0 dX8_takeNumber_133 (i := 0) rfl rfl ?_
    refine mj_getI C ff_X8_135 dX8_takeNumber_134 sh_84 rfl ?_
    refine mj_isub C dX8_takeNumber_137 ?_
    refine mj_iconst C (v := 3) dX8_takeNumber_138 rfl ?_
    refine mj_phi2 170 (fun (v_12 : Int32) (h_13 : Mm) => []) (fun (v_12 : Int32) (h_13 : Mm) => [.int v_12]) (fun (v_12 : Int32) (h_13 : Mm) => h_13) (fun P' kj_14 => ?_) (fun v_12 h_13 => ?_)
    · refine mj_icmp_gt C 157 dX8_takeNumber_139 (by decide) ?_ ?_
      · refine mj_aload_n C 0 dX8_takeNumber_157 (i := 0) rfl rfl ?_
        refine mj_iconst C (v := 2) dX8_takeNumber_158 rfl ?_
        refine mj_aload_n C 0 dX8_takeNumber_159 (i := 0) rfl rfl ?_
        refine mj_getI C ff_X8_135 dX8_takeNumber_160 sh_84 rfl ?_
        refine mj_vIM C my_X8_fails mv_X8_131 dX8_takeNumber_163 sh_84 rfl (fun a hF => ctX8_fails K h_11 (2 : Int32) (h_11 84 20)  hF) (by decide) (by decide) rfl rfl (Nat.le_of_ble_eq_true rfl) (fun r_15 h_16 => ?_)
        refine mj_goto C 170 dX8_takeNumber_166 (by decide) ?_
        exact mj_sub [] rfl (mj_some (kj_14 r_15 h_16))
      · refine mj_aload_n C 0 dX8_takeNumber_142 (i := 0) rfl rfl ?_
        refine mj_getI C ff_X8_138 dX8_takeNumber_143 sh_84 rfl ?_
        refine mj_i2l C dX8_takeNumber_146 ?_
        refine mj_iload_n C 1 dX8_takeNumber_147 (i := 1) rfl rfl ?_
        refine mj_i2l C dX8_takeNumber_148 ?_
        refine mj_iload_n C 2 dX8_takeNumber_149 (i := 2) rfl rfl ?_
        refine mj_i2l C dX8_takeNumber_150 ?_
        refine mj_sB C my_X8_in ms_X8_106 dX8_takeNumber_151 (fun a hF => ctX8_in K h_11 (((h_11 84 19)).toInt64) ((l1).toInt64) ((l2).toInt64)  hF) (by decide) (by decide) rfl rfl (Nat.le_of_ble_eq_true rfl) (fun r_17 => ?_)
        refine mj_b_ne C 169 dX8_takeNumber_154 (by decide) ?_ ?_
        · refine mj_iconst C (v := 0) dX8_takeNumber_169 rfl ?_
          exact mj_sub [] rfl (mj_some (kj_14 (0 : Int32) h_11))
        · refine mj_aload_n C 0 dX8_takeNumber_157 (i := 0) rfl rfl ?_
          refine mj_iconst C (v := 2) dX8_takeNumber_158 rfl ?_
          refine mj_aload_n C 0 dX8_takeNumber_159 (i := 0) rfl rfl ?_
          refine mj_getI C ff_X8_135 dX8_takeNumber_160 sh_84 rfl ?_
          refine mj_vIM C my_X8_fails mv_X8_131 dX8_takeNumber_163 sh_84 rfl (fun a hF => ctX8_fails K h_11 (2 : Int32) (h_11 84 20)  hF) (by decide) (by decide) rfl rfl (Nat.le_of_ble_eq_true rfl) (fun r_18 h_19 => ?_)
          refine mj_goto C 170 dX8_takeNumber_166 (by decide) ?_
          exact mj_sub [] rfl (mj_some (kj_14 r_18 h_19))
    · exact mj_rIM C N dX8_takeNumber_170
  · refine mj_aload_n C 1 dX8_takeNumber_19 (i := 0) rfl rfl ?_
    refine mj_iconst C (v := 1) dX8_takeNumber_20 rfl ?_
    refine mj_aload_n C 1 dX8_takeNumber_21 (i := 0) rfl rfl ?_
    refine mj_getI C ff_X8_120 dX8_takeNumber_22 sh_84 rfl ?_
    refine mj_vIM C my_X8_fails mv_X8_131 dX8_takeNumber_25 sh_84 rfl (fun a hF => ctX8_fails K h_2 (1 : Int32) (h_2 84 18)  hF) (by decide) (by decide) rfl rfl (Nat.le_of_ble_eq_true rfl) (fun r_21 h_22 => ?_)
    exact mj_rIM C N dX8_takeNumber_28
noncomputable def fX8_into (h : Mm) (a1 : Nat) (n1 : Nat) (l2 : Int32) (l3 : Int32) (l4 : Int32) : Option (Int32 × Mm) := md_b2 (fX8_takeNumber h l3 l4) (fun r_1 h_2 => md_ck (md_in l2 n1) (md_lt (md_up h_2 a1 (l2).toNatClampNeg (h_2 84 19)) (fun h_3 : Mm => some (r_1, h_3))))
set_option maxRecDepth 100000 in
set_option maxHeartbeats 4000000 in
theorem ctX8_into (K : Kx) (h : Mm) (a1 : Nat) (n1 : Nat) (l2 : Int32) (l3 : Int32) (l4 : Int32) (ha1 : SHc[a1]? = some (.inr (0, n1, 0, 0))) {a : Int32 × Mm} (hF : fX8_into h a1 n1 l2 l3 l4 = some a) : Mt K yX8_into cX8_into 6 (some .int) 2 48 SHc [rf K 84, rf K a1, .int l2, .int l3, .int l4] h (some (.int a.1)) a.2 := by
  refine Mt.of hF [(0, rf K 84), (1, rf K a1), (2, .int l2), (3, .int l3), (4, .int l4)] (by decide) (Nat.le_of_ble_eq_true rfl) rfl (fun Y C N => ?_)
  have C : Cx K Y (0, 0) cX8_into RX8 6 2 48 := C
  unfold fX8_into
  refine mj_aload_n C 0 dX8_into_0 (i := 0) rfl rfl ?_
  refine mj_iload_n C 3 dX8_into_1 (i := 3) rfl rfl ?_
  refine mj_iload C 4 dX8_into_2 rfl ?_
  refine mj_vIM C my_X8_takeNumber mv_X8_141 dX8_into_4 sh_84 rfl (fun a hF => ctX8_takeNumber K h l3 l4  hF) (by decide) (by decide) rfl rfl (Nat.le_of_ble_eq_true rfl) (fun r_1 h_2 => ?_)
  refine mj_istore C [(5, .int r_1), (0, rf K 84), (1, rf K a1), (2, .int l2), (3, .int l3), (4, .int l4)] dX8_into_7 (by decide) rfl ?_
  refine mj_aload_n C 2 dX8_into_9 (i := 1) rfl rfl ?_
  refine mj_iload_n C 3 dX8_into_10 (i := 2) rfl rfl ?_
  refine mj_aload_n C 1 dX8_into_11 (i := 0) rfl rfl ?_
  refine mj_getI C ff_X8_138 dX8_into_12 sh_84 rfl ?_
  refine mj_iast C dX8_into_15 ha1 (fun h_3 => ?_)
  refine mj_iload C 0 dX8_into_16 rfl ?_
  exact mj_rIM C N dX8_into_18
noncomputable def fX8_takeGate (h : Mm) : Option (Int32 × Mm) := md_b2 (fX8_into h 94 2 (0 : Int32) (1 : Int32) (999 : Int32)) (fun r_1 h_2 => md_b2 ((if r_1 ≤ 0 then md_b2 (fX8_into h_2 94 2 (1 : Int32) (0 : Int32) (99 : Int32)) (fun r_6 h_7 => some (r_6, h_7)) else some (r_1, h_2))) (fun (v_3 : Int32) (h_4 : Mm) => some (v_3, h_4)))
set_option maxRecDepth 100000 in
set_option maxHeartbeats 4000000 in
theorem ctX8_takeGate (K : Kx) (h : Mm) {a : Int32 × Mm} (hF : fX8_takeGate h = some a) : Mt K yX8_takeGate cX8_takeGate 2 (some .int) 3 73 SHc [rf K 84] h (some (.int a.1)) a.2 := by
  refine Mt.of hF [(0, rf K 84)] (by decide) (Nat.le_of_ble_eq_true rfl) rfl (fun Y C N => ?_)
  have C : Cx K Y (0, 0) cX8_takeGate RX8 2 3 73 := C
  unfold fX8_takeGate
  refine mj_aload_n C 0 dX8_takeGate_0 (i := 0) rfl rfl ?_
  refine mj_aload_n C 0 dX8_takeGate_1 (i := 0) rfl rfl ?_
  refine mj_getR C ff_X8_41 dX8_takeGate_2 sh_84 rfl ?_
  refine mj_iconst C (v := 0) dX8_takeGate_5 rfl ?_
  refine mj_iconst C (v := 1) dX8_takeGate_6 rfl ?_
  refine mj_sipush C (v := 999) dX8_takeGate_7 rfl ?_
  refine mj_vIM C my_X8_into mv_X8_144 dX8_takeGate_10 sh_84 rfl (fun a hF => ctX8_into K h 94 2 (0 : Int32) (1 : Int32) (999 : Int32) sh_94 hF) (by decide) (by decide) rfl rfl (Nat.le_of_ble_eq_true rfl) (fun r_1 h_2 => ?_)
  refine mj_istore_n C [(1, .int r_1), (0, rf K 84)] dX8_takeGate_13 (i := 1) rfl (by decide) rfl ?_
  refine mj_iload_n C 0 dX8_takeGate_14 (i := 1) rfl rfl ?_
  refine mj_phi2 34 (fun (v_3 : Int32) (h_4 : Mm) => []) (fun (v_3 : Int32) (h_4 : Mm) => [.int v_3]) (fun (v_3 : Int32) (h_4 : Mm) => h_4) (fun P' kj_5 => ?_) (fun v_3 h_4 => ?_)
  · refine mj_if_le C 22 dX8_takeGate_15 (by decide) ?_ ?_
    · refine mj_aload_n C 1 dX8_takeGate_22 (i := 0) rfl rfl ?_
      refine mj_aload_n C 1 dX8_takeGate_23 (i := 0) rfl rfl ?_
      refine mj_getR C ff_X8_41 dX8_takeGate_24 sh_84 rfl ?_
      refine mj_iconst C (v := 1) dX8_takeGate_27 rfl ?_
      refine mj_iconst C (v := 0) dX8_takeGate_28 rfl ?_
      refine mj_bipush C (v := 99) dX8_takeGate_29 rfl ?_
      refine mj_vIM C my_X8_into mv_X8_144 dX8_takeGate_31 sh_84 rfl (fun a hF => ctX8_into K h_2 94 2 (1 : Int32) (0 : Int32) (99 : Int32) sh_94 hF) (by decide) (by decide) rfl rfl (Nat.le_of_ble_eq_true rfl) (fun r_6 h_7 => ?_)
      exact mj_sub [] rfl (mj_some (kj_5 r_6 h_7))
    · refine mj_iload_n C 0 dX8_takeGate_18 (i := 1) rfl rfl ?_
      refine mj_goto C 34 dX8_takeGate_19 (by decide) ?_
      exact mj_sub [] rfl (mj_some (kj_5 r_1 h_2))
  · exact mj_rIM C N dX8_takeGate_34
noncomputable def fX8_takeIdea (h : Mm) : Option (Int32 × Mm) := md_lt (h 84 22) (fun l1_1 : Int32 => md_lt (md_up h 84 22 ((h 84 22) + (1 : Int32))) (fun h_2 : Mm => md_b2 (fX8_into h_2 95 8 l1_1 (1 : Int32) (99 : Int32)) (fun r_3 h_4 => some (r_3, h_4))))
set_option maxRecDepth 100000 in
set_option maxHeartbeats 4000000 in
theorem ctX8_takeIdea (K : Kx) (h : Mm) {a : Int32 × Mm} (hF : fX8_takeIdea h = some a) : Mt K yX8_takeIdea cX8_takeIdea 2 (some .int) 3 73 SHc [rf K 84] h (some (.int a.1)) a.2 := by
  refine Mt.of hF [(0, rf K 84)] (by decide) (Nat.le_of_ble_eq_true rfl) rfl (fun Y C N => ?_)
  have C : Cx K Y (0, 0) cX8_takeIdea RX8 2 3 73 := C
  unfold fX8_takeIdea
  refine mj_aload_n C 0 dX8_takeIdea_0 (i := 0) rfl rfl ?_
  refine mj_getI C ff_X8_148 dX8_takeIdea_1 sh_84 rfl ?_
  refine mj_istore_nL C (fun l1_1 => [(1, .int l1_1), (0, rf K 84)]) dX8_takeIdea_4 (i := 1) rfl (by decide) rfl (fun l1_1 => ?_)
  refine mj_aload_n C 1 dX8_takeIdea_5 (i := 0) rfl rfl ?_
  refine mj_dup C dX8_takeIdea_6 rfl ?_
  refine mj_getI C ff_X8_148 dX8_takeIdea_7 sh_84 rfl ?_
  refine mj_iconst C (v := 1) dX8_takeIdea_10 rfl ?_
  refine mj_iadd C dX8_takeIdea_11 ?_
  refine mj_putL C fp_X8_148 dX8_takeIdea_12 sh_84 rfl rfl rfl (fun h_2 => ?_)
  refine mj_aload_n C 1 dX8_takeIdea_15 (i := 0) rfl rfl ?_
  refine mj_aload_n C 1 dX8_takeIdea_16 (i := 0) rfl rfl ?_
  refine mj_getR C ff_X8_44 dX8_takeIdea_17 sh_84 rfl ?_
  refine mj_iload_n C 0 dX8_takeIdea_20 (i := 1) rfl rfl ?_
  refine mj_iconst C (v := 1) dX8_takeIdea_21 rfl ?_
  refine mj_bipush C (v := 99) dX8_takeIdea_22 rfl ?_
  refine mj_vIM C my_X8_into mv_X8_144 dX8_takeIdea_24 sh_84 rfl (fun a hF => ctX8_into K h_2 95 8 l1_1 (1 : Int32) (99 : Int32) sh_95 hF) (by decide) (by decide) rfl rfl (Nat.le_of_ble_eq_true rfl) (fun r_3 h_4 => ?_)
  exact mj_rIM C N dX8_takeIdea_27
noncomputable def fX8_takeJoin (h : Mm) : Option (Int32 × Mm) := md_lt (h 84 24) (fun l1_1 : Int32 => md_lt (md_up h 84 24 ((h 84 24) + (1 : Int32))) (fun h_2 : Mm => md_b2 (fX8_into h_2 96 10 l1_1 (0 : Int32) ((h_2 84 22) - (1 : Int32))) (fun r_3 h_4 => md_b2 ((if r_3 ≤ 0 then md_b2 (fX8_into h_4 97 10 l1_1 (0 : Int32) ((h_4 84 22) - (1 : Int32))) (fun r_8 h_9 => some (r_8, h_9)) else some (r_3, h_4))) (fun (v_5 : Int32) (h_6 : Mm) => md_b2 ((if v_5 ≤ 0 then md_b2 (fX8_into h_6 98 10 l1_1 (0 : Int32) ((h_6 84 22) - (1 : Int32))) (fun r_13 h_14 => some (r_13, h_14)) else some (v_5, h_6))) (fun (v_10 : Int32) (h_11 : Mm) => (if v_10 = 0 then md_ck (md_in l1_1 10) (md_ck (md_in l1_1 10) ((if (h_11 98 (l1_1).toNatClampNeg) = (h_11 96 (l1_1).toNatClampNeg) then md_b2 (fX8_fails h_11 (4 : Int32) (h_11 84 20)) (fun r_15 h_16 => some (r_15, h_16)) else md_ck (md_in l1_1 10) (md_ck (md_in l1_1 10) ((if (h_11 98 (l1_1).toNatClampNeg) = (h_11 97 (l1_1).toNatClampNeg) then md_b2 (fX8_fails h_11 (4 : Int32) (h_11 84 20)) (fun r_17 h_18 => some (r_17, h_18)) else some (v_10, h_11))))))) else some (v_10, h_11)))))))
set_option maxRecDepth 100000 in
set_option maxHeartbeats 4000000 in
theorem ctX8_takeJoin (K : Kx) (h : Mm) {a : Int32 × Mm} (hF : fX8_takeJoin h = some a) : Mt K yX8_takeJoin cX8_takeJoin 3 (some .int) 3 73 SHc [rf K 84] h (some (.int a.1)) a.2 := by
  refine Mt.of hF [(0, rf K 84)] (by decide) (Nat.le_of_ble_eq_true rfl) rfl (fun Y C N => ?_)
  have C : Cx K Y (0, 0) cX8_takeJoin RX8 3 3 73 := C
  unfold fX8_takeJoin
  refine mj_aload_n C 0 dX8_takeJoin_0 (i := 0) rfl rfl ?_
  refine mj_getI C ff_X8_151 dX8_takeJoin_1 sh_84 rfl ?_
  refine mj_istore_nL C (fun l1_1 => [(1, .int l1_1), (0, rf K 84)]) dX8_takeJoin_4 (i := 1) rfl (by decide) rfl (fun l1_1 => ?_)
  refine mj_aload_n C 1 dX8_takeJoin_5 (i := 0) rfl rfl ?_
  refine mj_dup C dX8_takeJoin_6 rfl ?_
  refine mj_getI C ff_X8_151 dX8_takeJoin_7 sh_84 rfl ?_
  refine mj_iconst C (v := 1) dX8_takeJoin_10 rfl ?_
  refine mj_iadd C dX8_takeJoin_11 ?_
  refine mj_putL C fp_X8_151 dX8_takeJoin_12 sh_84 rfl rfl rfl (fun h_2 => ?_)
  refine mj_aload_n C 1 dX8_takeJoin_15 (i := 0) rfl rfl ?_
  refine mj_aload_n C 1 dX8_takeJoin_16 (i := 0) rfl rfl ?_
  refine mj_getR C ff_X8_47 dX8_takeJoin_17 sh_84 rfl ?_
  refine mj_iload_n C 0 dX8_takeJoin_20 (i := 1) rfl rfl ?_
  refine mj_iconst C (v := 0) dX8_takeJoin_21 rfl ?_
  refine mj_aload_n C 1 dX8_takeJoin_22 (i := 0) rfl rfl ?_
  refine mj_getI C ff_X8_148 dX8_takeJoin_23 sh_84 rfl ?_
  refine mj_iconst C (v := 1) dX8_takeJoin_26 rfl ?_
  refine mj_isub C dX8_takeJoin_27 ?_
  refine mj_vIM C my_X8_into mv_X8_144 dX8_takeJoin_28 sh_84 rfl (fun a hF => ctX8_into K h_2 96 10 l1_1 (0 : Int32) ((h_2 84 22) - (1 : Int32)) sh_96 hF) (by decide) (by decide) rfl rfl (Nat.le_of_ble_eq_true rfl) (fun r_3 h_4 => ?_)
  refine mj_istore_n C [(2, .int r_3), (1, .int l1_1), (0, rf K 84)] dX8_takeJoin_31 (i := 2) rfl (by decide) rfl ?_
  refine mj_iload_n C 0 dX8_takeJoin_32 (i := 2) rfl rfl ?_
  refine mj_phi2 56 (fun (v_5 : Int32) (h_6 : Mm) => [(0, rf K 84), (1, .int l1_1)]) (fun (v_5 : Int32) (h_6 : Mm) => [.int v_5]) (fun (v_5 : Int32) (h_6 : Mm) => h_6) (fun P' kj_7 => ?_) (fun v_5 h_6 => ?_)
  · refine mj_if_le C 40 dX8_takeJoin_33 (by decide) ?_ ?_
    · refine mj_aload_n C 2 dX8_takeJoin_40 (i := 0) rfl rfl ?_
      refine mj_aload_n C 2 dX8_takeJoin_41 (i := 0) rfl rfl ?_
      refine mj_getR C ff_X8_50 dX8_takeJoin_42 sh_84 rfl ?_
      refine mj_iload_n C 1 dX8_takeJoin_45 (i := 1) rfl rfl ?_
      refine mj_iconst C (v := 0) dX8_takeJoin_46 rfl ?_
      refine mj_aload_n C 2 dX8_takeJoin_47 (i := 0) rfl rfl ?_
      refine mj_getI C ff_X8_148 dX8_takeJoin_48 sh_84 rfl ?_
      refine mj_iconst C (v := 1) dX8_takeJoin_51 rfl ?_
      refine mj_isub C dX8_takeJoin_52 ?_
      refine mj_vIM C my_X8_into mv_X8_144 dX8_takeJoin_53 sh_84 rfl (fun a hF => ctX8_into K h_4 97 10 l1_1 (0 : Int32) ((h_4 84 22) - (1 : Int32)) sh_97 hF) (by decide) (by decide) rfl rfl (Nat.le_of_ble_eq_true rfl) (fun r_8 h_9 => ?_)
      exact mj_sub [2, 1] rfl (mj_some (kj_7 r_8 h_9))
    · refine mj_iload_n C 0 dX8_takeJoin_36 (i := 2) rfl rfl ?_
      refine mj_goto C 56 dX8_takeJoin_37 (by decide) ?_
      exact mj_sub [2, 1] rfl (mj_some (kj_7 r_3 h_4))
  · refine mj_istore_n C [(2, .int v_5), (0, rf K 84), (1, .int l1_1)] dX8_takeJoin_56 (i := 2) rfl (by decide) rfl ?_
    refine mj_iload_n C 0 dX8_takeJoin_57 (i := 2) rfl rfl ?_
    refine mj_phi2 81 (fun (v_10 : Int32) (h_11 : Mm) => [(0, rf K 84), (1, .int l1_1)]) (fun (v_10 : Int32) (h_11 : Mm) => [.int v_10]) (fun (v_10 : Int32) (h_11 : Mm) => h_11) (fun P' kj_12 => ?_) (fun v_10 h_11 => ?_)
    · refine mj_if_le C 65 dX8_takeJoin_58 (by decide) ?_ ?_
      · refine mj_aload_n C 1 dX8_takeJoin_65 (i := 0) rfl rfl ?_
        refine mj_aload_n C 1 dX8_takeJoin_66 (i := 0) rfl rfl ?_
        refine mj_getR C ff_X8_53 dX8_takeJoin_67 sh_84 rfl ?_
        refine mj_iload_n C 2 dX8_takeJoin_70 (i := 1) rfl rfl ?_
        refine mj_iconst C (v := 0) dX8_takeJoin_71 rfl ?_
        refine mj_aload_n C 1 dX8_takeJoin_72 (i := 0) rfl rfl ?_
        refine mj_getI C ff_X8_148 dX8_takeJoin_73 sh_84 rfl ?_
        refine mj_iconst C (v := 1) dX8_takeJoin_76 rfl ?_
        refine mj_isub C dX8_takeJoin_77 ?_
        refine mj_vIM C my_X8_into mv_X8_144 dX8_takeJoin_78 sh_84 rfl (fun a hF => ctX8_into K h_6 98 10 l1_1 (0 : Int32) ((h_6 84 22) - (1 : Int32)) sh_98 hF) (by decide) (by decide) rfl rfl (Nat.le_of_ble_eq_true rfl) (fun r_13 h_14 => ?_)
        exact mj_sub [1, 2] rfl (mj_some (kj_12 r_13 h_14))
      · refine mj_iload_n C 0 dX8_takeJoin_61 (i := 2) rfl rfl ?_
        refine mj_goto C 81 dX8_takeJoin_62 (by decide) ?_
        exact mj_sub [1, 2] rfl (mj_some (kj_12 v_5 h_6))
    · refine mj_istore_n C [(2, .int v_10), (0, rf K 84), (1, .int l1_1)] dX8_takeJoin_81 (i := 2) rfl (by decide) rfl ?_
      refine mj_iload_n C 0 dX8_takeJoin_82 (i := 2) rfl rfl ?_
      refine mj_if_ne C 126 dX8_takeJoin_83 (by decide) ?_ ?_
      · refine mj_iload_n C 0 dX8_takeJoin_126 (i := 2) rfl rfl ?_
        exact mj_rIM C N dX8_takeJoin_127
      · refine mj_aload_n C 1 dX8_takeJoin_86 (i := 0) rfl rfl ?_
        refine mj_getR C ff_X8_53 dX8_takeJoin_87 sh_84 rfl ?_
        refine mj_iload_n C 2 dX8_takeJoin_90 (i := 1) rfl rfl ?_
        refine mj_iald C dX8_takeJoin_91 sh_98 ?_
        refine mj_aload_n C 1 dX8_takeJoin_92 (i := 0) rfl rfl ?_
        refine mj_getR C ff_X8_47 dX8_takeJoin_93 sh_84 rfl ?_
        refine mj_iload_n C 2 dX8_takeJoin_96 (i := 1) rfl rfl ?_
        refine mj_iald C dX8_takeJoin_97 sh_96 ?_
        refine mj_icmp_eq C 116 dX8_takeJoin_98 (by decide) ?_ ?_
        · refine mj_aload_n C 1 dX8_takeJoin_116 (i := 0) rfl rfl ?_
          refine mj_iconst C (v := 4) dX8_takeJoin_117 rfl ?_
          refine mj_aload_n C 1 dX8_takeJoin_118 (i := 0) rfl rfl ?_
          refine mj_getI C ff_X8_135 dX8_takeJoin_119 sh_84 rfl ?_
          refine mj_vIM C my_X8_fails mv_X8_131 dX8_takeJoin_122 sh_84 rfl (fun a hF => ctX8_fails K h_11 (4 : Int32) (h_11 84 20)  hF) (by decide) (by decide) rfl rfl (Nat.le_of_ble_eq_true rfl) (fun r_15 h_16 => ?_)
          exact mj_rIM C N dX8_takeJoin_125
        · refine mj_aload_n C 1 dX8_takeJoin_101 (i := 0) rfl rfl ?_
          refine mj_getR C ff_X8_53 dX8_takeJoin_102 sh_84 rfl ?_
          refine mj_iload_n C 2 dX8_takeJoin_105 (i := 1) rfl rfl ?_
          refine mj_iald C dX8_takeJoin_106 sh_98 ?_
          refine mj_aload_n C 1 dX8_takeJoin_107 (i := 0) rfl rfl ?_
          refine mj_getR C ff_X8_50 dX8_takeJoin_108 sh_84 rfl ?_
          refine mj_iload_n C 2 dX8_takeJoin_111 (i := 1) rfl rfl ?_
          refine mj_iald C dX8_takeJoin_112 sh_97 ?_
          refine mj_icmp_ne C 126 dX8_takeJoin_113 (by decide) ?_ ?_
          · refine mj_iload_n C 0 dX8_takeJoin_126 (i := 2) rfl rfl ?_
            exact mj_rIM C N dX8_takeJoin_127
          · refine mj_aload_n C 1 dX8_takeJoin_116 (i := 0) rfl rfl ?_
            refine mj_iconst C (v := 4) dX8_takeJoin_117 rfl ?_
            refine mj_aload_n C 1 dX8_takeJoin_118 (i := 0) rfl rfl ?_
            refine mj_getI C ff_X8_135 dX8_takeJoin_119 sh_84 rfl ?_
            refine mj_vIM C my_X8_fails mv_X8_131 dX8_takeJoin_122 sh_84 rfl (fun a hF => ctX8_fails K h_11 (4 : Int32) (h_11 84 20)  hF) (by decide) (by decide) rfl rfl (Nat.le_of_ble_eq_true rfl) (fun r_17 h_18 => ?_)
            exact mj_rIM C N dX8_takeJoin_125
noncomputable def fX8_takeTalk (h : Mm) : Option (Int32 × Mm) := md_lt (h 84 28) (fun l1_1 : Int32 => md_lt (md_up h 84 28 ((h 84 28) + (1 : Int32))) (fun h_2 : Mm => md_b2 (fX8_into h_2 99 10 l1_1 (0 : Int32) ((h_2 84 22) - (1 : Int32))) (fun r_3 h_4 => md_b2 ((if r_3 ≤ 0 then md_b2 (fX8_into h_4 100 10 l1_1 (0 : Int32) ((h_4 84 22) - (1 : Int32))) (fun r_8 h_9 => some (r_8, h_9)) else some (r_3, h_4))) (fun (v_5 : Int32) (h_6 : Mm) => (if v_5 = 0 then md_ck (md_in l1_1 10) (md_ck (md_in l1_1 10) ((if (h_6 100 (l1_1).toNatClampNeg) = (h_6 99 (l1_1).toNatClampNeg) then md_b2 (fX8_fails h_6 (4 : Int32) (h_6 84 20)) (fun r_15 h_16 => some (r_15, h_16)) else md_ck (md_in l1_1 10) (md_ck (md_in (h_6 100 (l1_1).toNatClampNeg) 8) (md_ck (md_in l1_1 10) (md_ck (md_in (h_6 99 (l1_1).toNatClampNeg) 8) ((if (h_6 95 ((h_6 100 (l1_1).toNatClampNeg)).toNatClampNeg) ≤ (h_6 95 ((h_6 99 (l1_1).toNatClampNeg)).toNatClampNeg) then md_b2 ((if v_5 ≤ 0 then md_b2 (fX8_into h_6 101 10 l1_1 (1 : Int32) (99 : Int32)) (fun r_20 h_21 => some (r_20, h_21)) else some (v_5, h_6))) (fun (v_17 : Int32) (h_18 : Mm) => some (v_17, h_18)) else md_b2 (fX8_fails h_6 (4 : Int32) (h_6 84 20)) (fun r_22 h_23 => some (r_22, h_23)))))))))) else md_b2 ((if v_5 ≤ 0 then md_b2 (fX8_into h_6 101 10 l1_1 (1 : Int32) (99 : Int32)) (fun r_13 h_14 => some (r_13, h_14)) else some (v_5, h_6))) (fun (v_10 : Int32) (h_11 : Mm) => some (v_10, h_11)))))))
set_option maxRecDepth 100000 in
set_option maxHeartbeats 4000000 in
theorem ctX8_takeTalk (K : Kx) (h : Mm) {a : Int32 × Mm} (hF : fX8_takeTalk h = some a) : Mt K yX8_takeTalk cX8_takeTalk 3 (some .int) 3 73 SHc [rf K 84] h (some (.int a.1)) a.2 := by
  refine Mt.of hF [(0, rf K 84)] (by decide) (Nat.le_of_ble_eq_true rfl) rfl (fun Y C N => ?_)
  have C : Cx K Y (0, 0) cX8_takeTalk RX8 3 3 73 := C
  unfold fX8_takeTalk
  refine mj_aload_n C 0 dX8_takeTalk_0 (i := 0) rfl rfl ?_
  refine mj_getI C ff_X8_154 dX8_takeTalk_1 sh_84 rfl ?_
  refine mj_istore_nL C (fun l1_1 => [(1, .int l1_1), (0, rf K 84)]) dX8_takeTalk_4 (i := 1) rfl (by decide) rfl (fun l1_1 => ?_)
  refine mj_aload_n C 1 dX8_takeTalk_5 (i := 0) rfl rfl ?_
  refine mj_dup C dX8_takeTalk_6 rfl ?_
  refine mj_getI C ff_X8_154 dX8_takeTalk_7 sh_84 rfl ?_
  refine mj_iconst C (v := 1) dX8_takeTalk_10 rfl ?_
  refine mj_iadd C dX8_takeTalk_11 ?_
  refine mj_putL C fp_X8_154 dX8_takeTalk_12 sh_84 rfl rfl rfl (fun h_2 => ?_)
  refine mj_aload_n C 1 dX8_takeTalk_15 (i := 0) rfl rfl ?_
  refine mj_aload_n C 1 dX8_takeTalk_16 (i := 0) rfl rfl ?_
  refine mj_getR C ff_X8_56 dX8_takeTalk_17 sh_84 rfl ?_
  refine mj_iload_n C 0 dX8_takeTalk_20 (i := 1) rfl rfl ?_
  refine mj_iconst C (v := 0) dX8_takeTalk_21 rfl ?_
  refine mj_aload_n C 1 dX8_takeTalk_22 (i := 0) rfl rfl ?_
  refine mj_getI C ff_X8_148 dX8_takeTalk_23 sh_84 rfl ?_
  refine mj_iconst C (v := 1) dX8_takeTalk_26 rfl ?_
  refine mj_isub C dX8_takeTalk_27 ?_
  refine mj_vIM C my_X8_into mv_X8_144 dX8_takeTalk_28 sh_84 rfl (fun a hF => ctX8_into K h_2 99 10 l1_1 (0 : Int32) ((h_2 84 22) - (1 : Int32)) sh_99 hF) (by decide) (by decide) rfl rfl (Nat.le_of_ble_eq_true rfl) (fun r_3 h_4 => ?_)
  refine mj_istore_n C [(2, .int r_3), (1, .int l1_1), (0, rf K 84)] dX8_takeTalk_31 (i := 2) rfl (by decide) rfl ?_
  refine mj_iload_n C 0 dX8_takeTalk_32 (i := 2) rfl rfl ?_
  refine mj_phi2 56 (fun (v_5 : Int32) (h_6 : Mm) => [(0, rf K 84), (1, .int l1_1)]) (fun (v_5 : Int32) (h_6 : Mm) => [.int v_5]) (fun (v_5 : Int32) (h_6 : Mm) => h_6) (fun P' kj_7 => ?_) (fun v_5 h_6 => ?_)
  · refine mj_if_le C 40 dX8_takeTalk_33 (by decide) ?_ ?_
    · refine mj_aload_n C 2 dX8_takeTalk_40 (i := 0) rfl rfl ?_
      refine mj_aload_n C 2 dX8_takeTalk_41 (i := 0) rfl rfl ?_
      refine mj_getR C ff_X8_59 dX8_takeTalk_42 sh_84 rfl ?_
      refine mj_iload_n C 1 dX8_takeTalk_45 (i := 1) rfl rfl ?_
      refine mj_iconst C (v := 0) dX8_takeTalk_46 rfl ?_
      refine mj_aload_n C 2 dX8_takeTalk_47 (i := 0) rfl rfl ?_
      refine mj_getI C ff_X8_148 dX8_takeTalk_48 sh_84 rfl ?_
      refine mj_iconst C (v := 1) dX8_takeTalk_51 rfl ?_
      refine mj_isub C dX8_takeTalk_52 ?_
      refine mj_vIM C my_X8_into mv_X8_144 dX8_takeTalk_53 sh_84 rfl (fun a hF => ctX8_into K h_4 100 10 l1_1 (0 : Int32) ((h_4 84 22) - (1 : Int32)) sh_100 hF) (by decide) (by decide) rfl rfl (Nat.le_of_ble_eq_true rfl) (fun r_8 h_9 => ?_)
      exact mj_sub [2, 1] rfl (mj_some (kj_7 r_8 h_9))
    · refine mj_iload_n C 0 dX8_takeTalk_36 (i := 2) rfl rfl ?_
      refine mj_goto C 56 dX8_takeTalk_37 (by decide) ?_
      exact mj_sub [2, 1] rfl (mj_some (kj_7 r_3 h_4))
  · refine mj_istore_n C [(2, .int v_5), (0, rf K 84), (1, .int l1_1)] dX8_takeTalk_56 (i := 2) rfl (by decide) rfl ?_
    refine mj_iload_n C 0 dX8_takeTalk_57 (i := 2) rfl rfl ?_
    refine mj_if_ne C 111 dX8_takeTalk_58 (by decide) ?_ ?_
    · refine mj_iload_n C 0 dX8_takeTalk_111 (i := 2) rfl rfl ?_
      refine mj_phi2 131 (fun (v_10 : Int32) (h_11 : Mm) => []) (fun (v_10 : Int32) (h_11 : Mm) => [.int v_10]) (fun (v_10 : Int32) (h_11 : Mm) => h_11) (fun P' kj_12 => ?_) (fun v_10 h_11 => ?_)
      · refine mj_if_le C 119 dX8_takeTalk_112 (by decide) ?_ ?_
        · refine mj_aload_n C 1 dX8_takeTalk_119 (i := 0) rfl rfl ?_
          refine mj_aload_n C 1 dX8_takeTalk_120 (i := 0) rfl rfl ?_
          refine mj_getR C ff_X8_62 dX8_takeTalk_121 sh_84 rfl ?_
          refine mj_iload_n C 2 dX8_takeTalk_124 (i := 1) rfl rfl ?_
          refine mj_iconst C (v := 1) dX8_takeTalk_125 rfl ?_
          refine mj_bipush C (v := 99) dX8_takeTalk_126 rfl ?_
          refine mj_vIM C my_X8_into mv_X8_144 dX8_takeTalk_128 sh_84 rfl (fun a hF => ctX8_into K h_6 101 10 l1_1 (1 : Int32) (99 : Int32) sh_101 hF) (by decide) (by decide) rfl rfl (Nat.le_of_ble_eq_true rfl) (fun r_13 h_14 => ?_)
          exact mj_sub [] rfl (mj_some (kj_12 r_13 h_14))
        · refine mj_iload_n C 0 dX8_takeTalk_115 (i := 2) rfl rfl ?_
          refine mj_goto C 131 dX8_takeTalk_116 (by decide) ?_
          exact mj_sub [] rfl (mj_some (kj_12 v_5 h_6))
      · exact mj_rIM C N dX8_takeTalk_131
    · refine mj_aload_n C 1 dX8_takeTalk_61 (i := 0) rfl rfl ?_
      refine mj_getR C ff_X8_59 dX8_takeTalk_62 sh_84 rfl ?_
      refine mj_iload_n C 2 dX8_takeTalk_65 (i := 1) rfl rfl ?_
      refine mj_iald C dX8_takeTalk_66 sh_100 ?_
      refine mj_aload_n C 1 dX8_takeTalk_67 (i := 0) rfl rfl ?_
      refine mj_getR C ff_X8_56 dX8_takeTalk_68 sh_84 rfl ?_
      refine mj_iload_n C 2 dX8_takeTalk_71 (i := 1) rfl rfl ?_
      refine mj_iald C dX8_takeTalk_72 sh_99 ?_
      refine mj_icmp_eq C 101 dX8_takeTalk_73 (by decide) ?_ ?_
      · refine mj_aload_n C 1 dX8_takeTalk_101 (i := 0) rfl rfl ?_
        refine mj_iconst C (v := 4) dX8_takeTalk_102 rfl ?_
        refine mj_aload_n C 1 dX8_takeTalk_103 (i := 0) rfl rfl ?_
        refine mj_getI C ff_X8_135 dX8_takeTalk_104 sh_84 rfl ?_
        refine mj_vIM C my_X8_fails mv_X8_131 dX8_takeTalk_107 sh_84 rfl (fun a hF => ctX8_fails K h_6 (4 : Int32) (h_6 84 20)  hF) (by decide) (by decide) rfl rfl (Nat.le_of_ble_eq_true rfl) (fun r_15 h_16 => ?_)
        exact mj_rIM C N dX8_takeTalk_110
      · refine mj_aload_n C 1 dX8_takeTalk_76 (i := 0) rfl rfl ?_
        refine mj_getR C ff_X8_44 dX8_takeTalk_77 sh_84 rfl ?_
        refine mj_aload_n C 1 dX8_takeTalk_80 (i := 0) rfl rfl ?_
        refine mj_getR C ff_X8_59 dX8_takeTalk_81 sh_84 rfl ?_
        refine mj_iload_n C 2 dX8_takeTalk_84 (i := 1) rfl rfl ?_
        refine mj_iald C dX8_takeTalk_85 sh_100 ?_
        refine mj_iald C dX8_takeTalk_86 sh_95 ?_
        refine mj_aload_n C 1 dX8_takeTalk_87 (i := 0) rfl rfl ?_
        refine mj_getR C ff_X8_44 dX8_takeTalk_88 sh_84 rfl ?_
        refine mj_aload_n C 1 dX8_takeTalk_91 (i := 0) rfl rfl ?_
        refine mj_getR C ff_X8_56 dX8_takeTalk_92 sh_84 rfl ?_
        refine mj_iload_n C 2 dX8_takeTalk_95 (i := 1) rfl rfl ?_
        refine mj_iald C dX8_takeTalk_96 sh_99 ?_
        refine mj_iald C dX8_takeTalk_97 sh_95 ?_
        refine mj_icmp_le C 111 dX8_takeTalk_98 (by decide) ?_ ?_
        · refine mj_iload_n C 0 dX8_takeTalk_111 (i := 2) rfl rfl ?_
          refine mj_phi2 131 (fun (v_17 : Int32) (h_18 : Mm) => []) (fun (v_17 : Int32) (h_18 : Mm) => [.int v_17]) (fun (v_17 : Int32) (h_18 : Mm) => h_18) (fun P' kj_19 => ?_) (fun v_17 h_18 => ?_)
          · refine mj_if_le C 119 dX8_takeTalk_112 (by decide) ?_ ?_
            · refine mj_aload_n C 1 dX8_takeTalk_119 (i := 0) rfl rfl ?_
              refine mj_aload_n C 1 dX8_takeTalk_120 (i := 0) rfl rfl ?_
              refine mj_getR C ff_X8_62 dX8_takeTalk_121 sh_84 rfl ?_
              refine mj_iload_n C 2 dX8_takeTalk_124 (i := 1) rfl rfl ?_
              refine mj_iconst C (v := 1) dX8_takeTalk_125 rfl ?_
              refine mj_bipush C (v := 99) dX8_takeTalk_126 rfl ?_
              refine mj_vIM C my_X8_into mv_X8_144 dX8_takeTalk_128 sh_84 rfl (fun a hF => ctX8_into K h_6 101 10 l1_1 (1 : Int32) (99 : Int32) sh_101 hF) (by decide) (by decide) rfl rfl (Nat.le_of_ble_eq_true rfl) (fun r_20 h_21 => ?_)
              exact mj_sub [] rfl (mj_some (kj_19 r_20 h_21))
            · refine mj_iload_n C 0 dX8_takeTalk_115 (i := 2) rfl rfl ?_
              refine mj_goto C 131 dX8_takeTalk_116 (by decide) ?_
              exact mj_sub [] rfl (mj_some (kj_19 v_5 h_6))
          · exact mj_rIM C N dX8_takeTalk_131
        · refine mj_aload_n C 1 dX8_takeTalk_101 (i := 0) rfl rfl ?_
          refine mj_iconst C (v := 4) dX8_takeTalk_102 rfl ?_
          refine mj_aload_n C 1 dX8_takeTalk_103 (i := 0) rfl rfl ?_
          refine mj_getI C ff_X8_135 dX8_takeTalk_104 sh_84 rfl ?_
          refine mj_vIM C my_X8_fails mv_X8_131 dX8_takeTalk_107 sh_84 rfl (fun a hF => ctX8_fails K h_6 (4 : Int32) (h_6 84 20)  hF) (by decide) (by decide) rfl rfl (Nat.le_of_ble_eq_true rfl) (fun r_22 h_23 => ?_)
          exact mj_rIM C N dX8_takeTalk_110
noncomputable def fX8_takeRegistered (h : Mm) : Option (Int32 × Mm) := md_b2 (fX8_takeNumber h (0 : Int32) ((h 84 22) - (1 : Int32))) (fun r_1 h_2 => (if r_1 = 0 then md_bd (fX8_has h_2 (h_2 84 32) (h_2 84 19)) (fun r_6 => (if r_6 = true then md_b2 (fX8_fails h_2 (4 : Int32) (h_2 84 20)) (fun r_10 h_11 => some (r_10, h_11)) else md_bd ((if r_1 = 0 then md_lt (md_up h_2 84 32 ((h_2 84 32) ||| ((1 : Int32) <<< ((h_2 84 19) &&& 31)))) (fun h_9 : Mm => some h_9) else some h_2)) (fun (h_7 : Mm) => some (r_1, h_7)))) else md_bd ((if r_1 = 0 then md_lt (md_up h_2 84 32 ((h_2 84 32) ||| ((1 : Int32) <<< ((h_2 84 19) &&& 31)))) (fun h_5 : Mm => some h_5) else some h_2)) (fun (h_3 : Mm) => some (r_1, h_3))))
set_option maxRecDepth 100000 in
set_option maxHeartbeats 4000000 in
theorem ctX8_takeRegistered (K : Kx) (h : Mm) {a : Int32 × Mm} (hF : fX8_takeRegistered h = some a) : Mt K yX8_takeRegistered cX8_takeRegistered 2 (some .int) 2 48 SHc [rf K 84] h (some (.int a.1)) a.2 := by
  refine Mt.of hF [(0, rf K 84)] (by decide) (Nat.le_of_ble_eq_true rfl) rfl (fun Y C N => ?_)
  have C : Cx K Y (0, 0) cX8_takeRegistered RX8 2 2 48 := C
  unfold fX8_takeRegistered
  refine mj_aload_n C 0 dX8_takeRegistered_0 (i := 0) rfl rfl ?_
  refine mj_iconst C (v := 0) dX8_takeRegistered_1 rfl ?_
  refine mj_aload_n C 0 dX8_takeRegistered_2 (i := 0) rfl rfl ?_
  refine mj_getI C ff_X8_148 dX8_takeRegistered_3 sh_84 rfl ?_
  refine mj_iconst C (v := 1) dX8_takeRegistered_6 rfl ?_
  refine mj_isub C dX8_takeRegistered_7 ?_
  refine mj_vIM C my_X8_takeNumber mv_X8_141 dX8_takeRegistered_8 sh_84 rfl (fun a hF => ctX8_takeNumber K h (0 : Int32) ((h 84 22) - (1 : Int32))  hF) (by decide) (by decide) rfl rfl (Nat.le_of_ble_eq_true rfl) (fun r_1 h_2 => ?_)
  refine mj_istore_n C [(1, .int r_1), (0, rf K 84)] dX8_takeRegistered_11 (i := 1) rfl (by decide) rfl ?_
  refine mj_iload_n C 0 dX8_takeRegistered_12 (i := 1) rfl rfl ?_
  refine mj_if_ne C 40 dX8_takeRegistered_13 (by decide) ?_ ?_
  · refine mj_iload_n C 0 dX8_takeRegistered_40 (i := 1) rfl rfl ?_
    refine mj_phi1 59 (fun (h_3 : Mm) => [(1, .int r_1)]) (fun (h_3 : Mm) => []) (fun (h_3 : Mm) => h_3) (fun P' kj_4 => ?_) (fun h_3 => ?_)
    · refine mj_if_ne C 59 dX8_takeRegistered_41 (by decide) ?_ ?_
      · exact mj_sub [0] rfl (mj_some (kj_4 h_2))
      · refine mj_aload_n C 1 dX8_takeRegistered_44 (i := 0) rfl rfl ?_
        refine mj_dup C dX8_takeRegistered_45 rfl ?_
        refine mj_getI C ff_X8_157 dX8_takeRegistered_46 sh_84 rfl ?_
        refine mj_iconst C (v := 1) dX8_takeRegistered_49 rfl ?_
        refine mj_aload_n C 1 dX8_takeRegistered_50 (i := 0) rfl rfl ?_
        refine mj_getI C ff_X8_138 dX8_takeRegistered_51 sh_84 rfl ?_
        refine mj_ishl C dX8_takeRegistered_54 ?_
        refine mj_ior C dX8_takeRegistered_55 ?_
        refine mj_putL C fp_X8_157 dX8_takeRegistered_56 sh_84 rfl rfl rfl (fun h_5 => ?_)
        exact mj_sub [0] rfl (mj_some (kj_4 h_5))
    · refine mj_iload_n C 0 dX8_takeRegistered_59 (i := 1) rfl rfl ?_
      exact mj_rIM C N dX8_takeRegistered_60
  · refine mj_aload_n C 1 dX8_takeRegistered_16 (i := 0) rfl rfl ?_
    refine mj_getI C ff_X8_157 dX8_takeRegistered_17 sh_84 rfl ?_
    refine mj_aload_n C 1 dX8_takeRegistered_20 (i := 0) rfl rfl ?_
    refine mj_getI C ff_X8_138 dX8_takeRegistered_21 sh_84 rfl ?_
    refine mj_sB C my_X8_has ms_X8_160 dX8_takeRegistered_24 (fun a hF => ctX8_has K h_2 (h_2 84 32) (h_2 84 19)  hF) (by decide) (by decide) rfl rfl (Nat.le_of_ble_eq_true rfl) (fun r_6 => ?_)
    refine mj_b_eq C 40 dX8_takeRegistered_27 (by decide) ?_ ?_
    · refine mj_iload_n C 0 dX8_takeRegistered_40 (i := 1) rfl rfl ?_
      refine mj_phi1 59 (fun (h_7 : Mm) => [(1, .int r_1)]) (fun (h_7 : Mm) => []) (fun (h_7 : Mm) => h_7) (fun P' kj_8 => ?_) (fun h_7 => ?_)
      · refine mj_if_ne C 59 dX8_takeRegistered_41 (by decide) ?_ ?_
        · exact mj_sub [0] rfl (mj_some (kj_8 h_2))
        · refine mj_aload_n C 1 dX8_takeRegistered_44 (i := 0) rfl rfl ?_
          refine mj_dup C dX8_takeRegistered_45 rfl ?_
          refine mj_getI C ff_X8_157 dX8_takeRegistered_46 sh_84 rfl ?_
          refine mj_iconst C (v := 1) dX8_takeRegistered_49 rfl ?_
          refine mj_aload_n C 1 dX8_takeRegistered_50 (i := 0) rfl rfl ?_
          refine mj_getI C ff_X8_138 dX8_takeRegistered_51 sh_84 rfl ?_
          refine mj_ishl C dX8_takeRegistered_54 ?_
          refine mj_ior C dX8_takeRegistered_55 ?_
          refine mj_putL C fp_X8_157 dX8_takeRegistered_56 sh_84 rfl rfl rfl (fun h_9 => ?_)
          exact mj_sub [0] rfl (mj_some (kj_8 h_9))
      · refine mj_iload_n C 0 dX8_takeRegistered_59 (i := 1) rfl rfl ?_
        exact mj_rIM C N dX8_takeRegistered_60
    · refine mj_aload_n C 1 dX8_takeRegistered_30 (i := 0) rfl rfl ?_
      refine mj_iconst C (v := 4) dX8_takeRegistered_31 rfl ?_
      refine mj_aload_n C 1 dX8_takeRegistered_32 (i := 0) rfl rfl ?_
      refine mj_getI C ff_X8_135 dX8_takeRegistered_33 sh_84 rfl ?_
      refine mj_vIM C my_X8_fails mv_X8_131 dX8_takeRegistered_36 sh_84 rfl (fun a hF => ctX8_fails K h_2 (4 : Int32) (h_2 84 20)  hF) (by decide) (by decide) rfl rfl (Nat.le_of_ble_eq_true rfl) (fun r_10 h_11 => ?_)
      exact mj_rIM C N dX8_takeRegistered_39
noncomputable def fX8_takeTraveller (h : Mm) : Option (Int32 × Mm) := md_lt (h 84 33) (fun l1_1 : Int32 => md_lt (md_up h 84 33 ((h 84 33) + (1 : Int32))) (fun h_2 : Mm => md_b2 (fX8_into h_2 102 5 l1_1 (0 : Int32) (((1 : Int32) <<< ((h_2 84 22) &&& 31)) - (1 : Int32))) (fun r_3 h_4 => some (r_3, h_4))))
set_option maxRecDepth 100000 in
set_option maxHeartbeats 4000000 in
theorem ctX8_takeTraveller (K : Kx) (h : Mm) {a : Int32 × Mm} (hF : fX8_takeTraveller h = some a) : Mt K yX8_takeTraveller cX8_takeTraveller 2 (some .int) 3 73 SHc [rf K 84] h (some (.int a.1)) a.2 := by
  refine Mt.of hF [(0, rf K 84)] (by decide) (Nat.le_of_ble_eq_true rfl) rfl (fun Y C N => ?_)
  have C : Cx K Y (0, 0) cX8_takeTraveller RX8 2 3 73 := C
  unfold fX8_takeTraveller
  refine mj_aload_n C 0 dX8_takeTraveller_0 (i := 0) rfl rfl ?_
  refine mj_getI C ff_X8_164 dX8_takeTraveller_1 sh_84 rfl ?_
  refine mj_istore_nL C (fun l1_1 => [(1, .int l1_1), (0, rf K 84)]) dX8_takeTraveller_4 (i := 1) rfl (by decide) rfl (fun l1_1 => ?_)
  refine mj_aload_n C 1 dX8_takeTraveller_5 (i := 0) rfl rfl ?_
  refine mj_dup C dX8_takeTraveller_6 rfl ?_
  refine mj_getI C ff_X8_164 dX8_takeTraveller_7 sh_84 rfl ?_
  refine mj_iconst C (v := 1) dX8_takeTraveller_10 rfl ?_
  refine mj_iadd C dX8_takeTraveller_11 ?_
  refine mj_putL C fp_X8_164 dX8_takeTraveller_12 sh_84 rfl rfl rfl (fun h_2 => ?_)
  refine mj_aload_n C 1 dX8_takeTraveller_15 (i := 0) rfl rfl ?_
  refine mj_aload_n C 1 dX8_takeTraveller_16 (i := 0) rfl rfl ?_
  refine mj_getR C ff_X8_65 dX8_takeTraveller_17 sh_84 rfl ?_
  refine mj_iload_n C 0 dX8_takeTraveller_20 (i := 1) rfl rfl ?_
  refine mj_iconst C (v := 0) dX8_takeTraveller_21 rfl ?_
  refine mj_iconst C (v := 1) dX8_takeTraveller_22 rfl ?_
  refine mj_aload_n C 1 dX8_takeTraveller_23 (i := 0) rfl rfl ?_
  refine mj_getI C ff_X8_148 dX8_takeTraveller_24 sh_84 rfl ?_
  refine mj_ishl C dX8_takeTraveller_27 ?_
  refine mj_iconst C (v := 1) dX8_takeTraveller_28 rfl ?_
  refine mj_isub C dX8_takeTraveller_29 ?_
  refine mj_vIM C my_X8_into mv_X8_144 dX8_takeTraveller_30 sh_84 rfl (fun a hF => ctX8_into K h_2 102 5 l1_1 (0 : Int32) (((1 : Int32) <<< ((h_2 84 22) &&& 31)) - (1 : Int32)) sh_102 hF) (by decide) (by decide) rfl rfl (Nat.le_of_ble_eq_true rfl) (fun r_3 h_4 => ?_)
  exact mj_rIM C N dX8_takeTraveller_33
noncomputable def fX8_whichClause (h : Mm) (l1 : Int32) : Option (Int32) := md_bd ((if l1 = (103 : Int32) then some (0 : Int32) else (if l1 = (105 : Int32) then some (1 : Int32) else (if l1 = (106 : Int32) then some (2 : Int32) else (if l1 = (100 : Int32) then some (3 : Int32) else (if l1 = (114 : Int32) then some (4 : Int32) else (if l1 = (116 : Int32) then some (5 : Int32) else some (-1 : Int32)))))))) (fun (v_1 : Int32) => some v_1)
set_option maxRecDepth 100000 in
set_option maxHeartbeats 4000000 in
theorem ctX8_whichClause (K : Kx) (h : Mm) (l1 : Int32) {a : Int32} (hF : fX8_whichClause h l1 = some a) : Mt K yX8_whichClause cX8_whichClause 2 (some .int) 0 0 SHc [rf K 84, .int l1] h (some (.int a)) h := by
  refine Mt.of hF [(0, rf K 84), (1, .int l1)] (by decide) (Nat.le_of_ble_eq_true rfl) rfl (fun Y C N => ?_)
  have C : Cx K Y (0, 0) cX8_whichClause RX8 2 0 0 := C
  unfold fX8_whichClause
  refine mj_iload_n C 1 dX8_whichClause_0 (i := 1) rfl rfl ?_
  refine mj_bipush C (v := 103) dX8_whichClause_1 rfl ?_
  refine mj_phi1 61 (fun (v_1 : Int32) => []) (fun (v_1 : Int32) => [.int v_1]) (fun (v_1 : Int32) => h) (fun P' kj_2 => ?_) (fun v_1 => ?_)
  · refine mj_icmp_ne C 10 dX8_whichClause_3 (by decide) ?_ ?_
    · refine mj_iload_n C 1 dX8_whichClause_10 (i := 1) rfl rfl ?_
      refine mj_bipush C (v := 105) dX8_whichClause_11 rfl ?_
      refine mj_icmp_ne C 20 dX8_whichClause_13 (by decide) ?_ ?_
      · refine mj_iload_n C 1 dX8_whichClause_20 (i := 1) rfl rfl ?_
        refine mj_bipush C (v := 106) dX8_whichClause_21 rfl ?_
        refine mj_icmp_ne C 30 dX8_whichClause_23 (by decide) ?_ ?_
        · refine mj_iload_n C 1 dX8_whichClause_30 (i := 1) rfl rfl ?_
          refine mj_bipush C (v := 100) dX8_whichClause_31 rfl ?_
          refine mj_icmp_ne C 40 dX8_whichClause_33 (by decide) ?_ ?_
          · refine mj_iload_n C 1 dX8_whichClause_40 (i := 1) rfl rfl ?_
            refine mj_bipush C (v := 114) dX8_whichClause_41 rfl ?_
            refine mj_icmp_ne C 50 dX8_whichClause_43 (by decide) ?_ ?_
            · refine mj_iload_n C 1 dX8_whichClause_50 (i := 1) rfl rfl ?_
              refine mj_bipush C (v := 116) dX8_whichClause_51 rfl ?_
              refine mj_icmp_ne C 60 dX8_whichClause_53 (by decide) ?_ ?_
              · refine mj_iconst C (v := -1) dX8_whichClause_60 rfl ?_
                exact mj_sub [] rfl (mj_some (kj_2 (-1 : Int32)))
              · refine mj_iconst C (v := 5) dX8_whichClause_56 rfl ?_
                refine mj_goto C 61 dX8_whichClause_57 (by decide) ?_
                exact mj_sub [] rfl (mj_some (kj_2 (5 : Int32)))
            · refine mj_iconst C (v := 4) dX8_whichClause_46 rfl ?_
              refine mj_goto C 61 dX8_whichClause_47 (by decide) ?_
              exact mj_sub [] rfl (mj_some (kj_2 (4 : Int32)))
          · refine mj_iconst C (v := 3) dX8_whichClause_36 rfl ?_
            refine mj_goto C 61 dX8_whichClause_37 (by decide) ?_
            exact mj_sub [] rfl (mj_some (kj_2 (3 : Int32)))
        · refine mj_iconst C (v := 2) dX8_whichClause_26 rfl ?_
          refine mj_goto C 61 dX8_whichClause_27 (by decide) ?_
          exact mj_sub [] rfl (mj_some (kj_2 (2 : Int32)))
      · refine mj_iconst C (v := 1) dX8_whichClause_16 rfl ?_
        refine mj_goto C 61 dX8_whichClause_17 (by decide) ?_
        exact mj_sub [] rfl (mj_some (kj_2 (1 : Int32)))
    · refine mj_iconst C (v := 0) dX8_whichClause_6 rfl ?_
      refine mj_goto C 61 dX8_whichClause_7 (by decide) ?_
      exact mj_sub [] rfl (mj_some (kj_2 (0 : Int32)))
  · exact mj_rI C N dX8_whichClause_61
noncomputable def fX8_isFull (h : Mm) (l1 : Int32) : Option (Bool) := (if l1 = 0 then md_ck (md_in (0 : Int32) 2) (md_bd ((if (h 94 ((0 : Int32)).toNatClampNeg) ≤ 0 then some false else some true)) (fun (v_1 : Bool) => some v_1)) else if l1 = 1 then md_bd ((if (h 84 22) = (8 : Int32) then some true else some false)) (fun (v_3 : Bool) => some v_3) else if l1 = 2 then md_bd ((if (h 84 24) = (10 : Int32) then some true else some false)) (fun (v_5 : Bool) => some v_5) else if l1 = 3 then md_bd ((if (h 84 28) = (10 : Int32) then some true else some false)) (fun (v_7 : Bool) => some v_7) else if l1 = 4 then some false else md_bd ((if (h 84 33) = (5 : Int32) then some true else some false)) (fun (v_9 : Bool) => some v_9))
set_option maxRecDepth 100000 in
set_option maxHeartbeats 4000000 in
theorem ctX8_isFull (K : Kx) (h : Mm) (l1 : Int32) {a : Bool} (hF : fX8_isFull h l1 = some a) : Mt K yX8_isFull cX8_isFull 2 (some .boolean) 0 0 SHc [rf K 84, .int l1] h (some (.int (md_bi a))) h := by
  refine Mt.of hF [(0, rf K 84), (1, .int l1)] (by decide) (Nat.le_of_ble_eq_true rfl) rfl (fun Y C N => ?_)
  have C : Cx K Y (0, 0) cX8_isFull RX8 2 0 0 := C
  unfold fX8_isFull
  refine mj_iload_n C 1 dX8_isFull_0 (i := 1) rfl rfl ?_
  refine mj_sw0 ?_
  refine mj_tcase C 0 36 dX8_isFull_1 (by decide) (by decide) rfl (by decide) ?_ ?_
  · refine mj_aload_n C 0 dX8_isFull_36 (i := 0) rfl rfl ?_
    refine mj_getR C ff_X8_41 dX8_isFull_37 sh_84 rfl ?_
    refine mj_iconst C (v := 0) dX8_isFull_40 rfl ?_
    refine mj_iald C dX8_isFull_41 sh_94 ?_
    refine mj_phi1 50 (fun (v_1 : Bool) => []) (fun (v_1 : Bool) => [.int (md_bi v_1)]) (fun (v_1 : Bool) => h) (fun P' kj_2 => ?_) (fun v_1 => ?_)
    · refine mj_if_le C 49 dX8_isFull_42 (by decide) ?_ ?_
      · refine mj_iconst C (v := 0) dX8_isFull_49 rfl ?_
        exact mj_sub [] rfl (mj_some (kj_2 false))
      · refine mj_iconst C (v := 1) dX8_isFull_45 rfl ?_
        refine mj_goto C 50 dX8_isFull_46 (by decide) ?_
        exact mj_sub [] rfl (mj_some (kj_2 true))
    · exact mj_rZ C N dX8_isFull_50
  refine mj_tcase C 1 51 dX8_isFull_1 (by decide) (by decide) rfl (by decide) ?_ ?_
  · refine mj_aload_n C 0 dX8_isFull_51 (i := 0) rfl rfl ?_
    refine mj_getI C ff_X8_148 dX8_isFull_52 sh_84 rfl ?_
    refine mj_bipush C (v := 8) dX8_isFull_55 rfl ?_
    refine mj_phi1 65 (fun (v_3 : Bool) => []) (fun (v_3 : Bool) => [.int (md_bi v_3)]) (fun (v_3 : Bool) => h) (fun P' kj_4 => ?_) (fun v_3 => ?_)
    · refine mj_icmp_ne C 64 dX8_isFull_57 (by decide) ?_ ?_
      · refine mj_iconst C (v := 0) dX8_isFull_64 rfl ?_
        exact mj_sub [] rfl (mj_some (kj_4 false))
      · refine mj_iconst C (v := 1) dX8_isFull_60 rfl ?_
        refine mj_goto C 65 dX8_isFull_61 (by decide) ?_
        exact mj_sub [] rfl (mj_some (kj_4 true))
    · exact mj_rZ C N dX8_isFull_65
  refine mj_tcase C 2 66 dX8_isFull_1 (by decide) (by decide) rfl (by decide) ?_ ?_
  · refine mj_aload_n C 0 dX8_isFull_66 (i := 0) rfl rfl ?_
    refine mj_getI C ff_X8_151 dX8_isFull_67 sh_84 rfl ?_
    refine mj_bipush C (v := 10) dX8_isFull_70 rfl ?_
    refine mj_phi1 80 (fun (v_5 : Bool) => []) (fun (v_5 : Bool) => [.int (md_bi v_5)]) (fun (v_5 : Bool) => h) (fun P' kj_6 => ?_) (fun v_5 => ?_)
    · refine mj_icmp_ne C 79 dX8_isFull_72 (by decide) ?_ ?_
      · refine mj_iconst C (v := 0) dX8_isFull_79 rfl ?_
        exact mj_sub [] rfl (mj_some (kj_6 false))
      · refine mj_iconst C (v := 1) dX8_isFull_75 rfl ?_
        refine mj_goto C 80 dX8_isFull_76 (by decide) ?_
        exact mj_sub [] rfl (mj_some (kj_6 true))
    · exact mj_rZ C N dX8_isFull_80
  refine mj_tcase C 3 81 dX8_isFull_1 (by decide) (by decide) rfl (by decide) ?_ ?_
  · refine mj_aload_n C 0 dX8_isFull_81 (i := 0) rfl rfl ?_
    refine mj_getI C ff_X8_154 dX8_isFull_82 sh_84 rfl ?_
    refine mj_bipush C (v := 10) dX8_isFull_85 rfl ?_
    refine mj_phi1 95 (fun (v_7 : Bool) => []) (fun (v_7 : Bool) => [.int (md_bi v_7)]) (fun (v_7 : Bool) => h) (fun P' kj_8 => ?_) (fun v_7 => ?_)
    · refine mj_icmp_ne C 94 dX8_isFull_87 (by decide) ?_ ?_
      · refine mj_iconst C (v := 0) dX8_isFull_94 rfl ?_
        exact mj_sub [] rfl (mj_some (kj_8 false))
      · refine mj_iconst C (v := 1) dX8_isFull_90 rfl ?_
        refine mj_goto C 95 dX8_isFull_91 (by decide) ?_
        exact mj_sub [] rfl (mj_some (kj_8 true))
    · exact mj_rZ C N dX8_isFull_95
  refine mj_tcase C 4 96 dX8_isFull_1 (by decide) (by decide) rfl (by decide) ?_ ?_
  · refine mj_iconst C (v := 0) dX8_isFull_96 rfl ?_
    exact mj_rZ C N dX8_isFull_97
  refine mj_tdflt2 C 98 5 dX8_isFull_1 (by decide) (by decide) (by decide) ?_
  refine mj_aload_n C 0 dX8_isFull_98 (i := 0) rfl rfl ?_
  refine mj_getI C ff_X8_164 dX8_isFull_99 sh_84 rfl ?_
  refine mj_iconst C (v := 5) dX8_isFull_102 rfl ?_
  refine mj_phi1 111 (fun (v_9 : Bool) => []) (fun (v_9 : Bool) => [.int (md_bi v_9)]) (fun (v_9 : Bool) => h) (fun P' kj_10 => ?_) (fun v_9 => ?_)
  · refine mj_icmp_ne C 110 dX8_isFull_103 (by decide) ?_ ?_
    · refine mj_iconst C (v := 0) dX8_isFull_110 rfl ?_
      exact mj_sub [] rfl (mj_some (kj_10 false))
    · refine mj_iconst C (v := 1) dX8_isFull_106 rfl ?_
      refine mj_goto C 111 dX8_isFull_107 (by decide) ?_
      exact mj_sub [] rfl (mj_some (kj_10 true))
  · exact mj_rZ C N dX8_isFull_111
noncomputable def fX8_takeBody (h : Mm) (l1 : Int32) : Option (Int32 × Mm) := (if l1 = 0 then md_b2 (fX8_takeGate h) (fun r_1 h_2 => some (r_1, h_2)) else if l1 = 1 then md_b2 (fX8_takeIdea h) (fun r_3 h_4 => some (r_3, h_4)) else if l1 = 2 then md_b2 (fX8_takeJoin h) (fun r_5 h_6 => some (r_5, h_6)) else if l1 = 3 then md_b2 (fX8_takeTalk h) (fun r_7 h_8 => some (r_7, h_8)) else if l1 = 4 then md_b2 (fX8_takeRegistered h) (fun r_9 h_10 => some (r_9, h_10)) else md_b2 (fX8_takeTraveller h) (fun r_11 h_12 => some (r_11, h_12)))
set_option maxRecDepth 100000 in
set_option maxHeartbeats 4000000 in
theorem ctX8_takeBody (K : Kx) (h : Mm) (l1 : Int32) {a : Int32 × Mm} (hF : fX8_takeBody h l1 = some a) : Mt K yX8_takeBody cX8_takeBody 2 (some .int) 4 95 SHc [rf K 84, .int l1] h (some (.int a.1)) a.2 := by
  refine Mt.of hF [(0, rf K 84), (1, .int l1)] (by decide) (Nat.le_of_ble_eq_true rfl) rfl (fun Y C N => ?_)
  have C : Cx K Y (0, 0) cX8_takeBody RX8 2 4 95 := C
  unfold fX8_takeBody
  refine mj_iload_n C 1 dX8_takeBody_0 (i := 1) rfl rfl ?_
  refine mj_sw0 ?_
  refine mj_tcase C 0 36 dX8_takeBody_1 (by decide) (by decide) rfl (by decide) ?_ ?_
  · refine mj_aload_n C 0 dX8_takeBody_36 (i := 0) rfl rfl ?_
    refine mj_vIM C my_X8_takeGate mv_X8_167 dX8_takeBody_37 sh_84 rfl (fun a hF => ctX8_takeGate K h   hF) (by decide) (by decide) rfl rfl (Nat.le_of_ble_eq_true rfl) (fun r_1 h_2 => ?_)
    exact mj_rIM C N dX8_takeBody_40
  refine mj_tcase C 1 41 dX8_takeBody_1 (by decide) (by decide) rfl (by decide) ?_ ?_
  · refine mj_aload_n C 0 dX8_takeBody_41 (i := 0) rfl rfl ?_
    refine mj_vIM C my_X8_takeIdea mv_X8_170 dX8_takeBody_42 sh_84 rfl (fun a hF => ctX8_takeIdea K h   hF) (by decide) (by decide) rfl rfl (Nat.le_of_ble_eq_true rfl) (fun r_3 h_4 => ?_)
    exact mj_rIM C N dX8_takeBody_45
  refine mj_tcase C 2 46 dX8_takeBody_1 (by decide) (by decide) rfl (by decide) ?_ ?_
  · refine mj_aload_n C 0 dX8_takeBody_46 (i := 0) rfl rfl ?_
    refine mj_vIM C my_X8_takeJoin mv_X8_173 dX8_takeBody_47 sh_84 rfl (fun a hF => ctX8_takeJoin K h   hF) (by decide) (by decide) rfl rfl (Nat.le_of_ble_eq_true rfl) (fun r_5 h_6 => ?_)
    exact mj_rIM C N dX8_takeBody_50
  refine mj_tcase C 3 51 dX8_takeBody_1 (by decide) (by decide) rfl (by decide) ?_ ?_
  · refine mj_aload_n C 0 dX8_takeBody_51 (i := 0) rfl rfl ?_
    refine mj_vIM C my_X8_takeTalk mv_X8_176 dX8_takeBody_52 sh_84 rfl (fun a hF => ctX8_takeTalk K h   hF) (by decide) (by decide) rfl rfl (Nat.le_of_ble_eq_true rfl) (fun r_7 h_8 => ?_)
    exact mj_rIM C N dX8_takeBody_55
  refine mj_tcase C 4 56 dX8_takeBody_1 (by decide) (by decide) rfl (by decide) ?_ ?_
  · refine mj_aload_n C 0 dX8_takeBody_56 (i := 0) rfl rfl ?_
    refine mj_vIM C my_X8_takeRegistered mv_X8_179 dX8_takeBody_57 sh_84 rfl (fun a hF => ctX8_takeRegistered K h   hF) (by decide) (by decide) rfl rfl (Nat.le_of_ble_eq_true rfl) (fun r_9 h_10 => ?_)
    exact mj_rIM C N dX8_takeBody_60
  refine mj_tdflt2 C 61 5 dX8_takeBody_1 (by decide) (by decide) (by decide) ?_
  refine mj_aload_n C 0 dX8_takeBody_61 (i := 0) rfl rfl ?_
  refine mj_vIM C my_X8_takeTraveller mv_X8_182 dX8_takeBody_62 sh_84 rfl (fun a hF => ctX8_takeTraveller K h   hF) (by decide) (by decide) rfl rfl (Nat.le_of_ble_eq_true rfl) (fun r_11 h_12 => ?_)
  exact mj_rIM C N dX8_takeBody_65
noncomputable def fX8_takeClause (h : Mm) : Option (Int32 × Mm) := md_b2 (fX8_here h) (fun r_1 h_2 => md_bd (fX8_whichClause h_2 r_1) (fun r_3 => (if r_3 < 0 then md_b2 (fX8_fails h_2 (1 : Int32) (h_2 84 18)) (fun r_4 h_5 => some (r_4, h_5)) else (if r_3 ≤ 0 then md_bd (fX8_isFull h_2 r_3) (fun r_6 => (if r_6 = true then md_b2 (fX8_fails h_2 (3 : Int32) (h_2 84 18)) (fun r_16 h_17 => some (r_16, h_17)) else md_lt (md_up h_2 84 18 ((h_2 84 18) + (1 : Int32))) (fun h_7 : Mm => md_b2 (fX8_takeBody h_7 r_3) (fun r_8 h_9 => (if r_8 = 0 then md_b2 (fX8_here h_9) (fun r_11 h_12 => (if r_11 = (59 : Int32) then md_lt (md_up h_12 84 18 ((h_12 84 18) + (1 : Int32))) (fun h_13 : Mm => some (r_8, h_13)) else md_b2 (fX8_fails h_12 (1 : Int32) (h_12 84 18)) (fun r_14 h_15 => some (r_14, h_15)))) else md_lt (md_up h_9 84 18 ((h_9 84 18) + (1 : Int32))) (fun h_10 : Mm => some (r_8, h_10))))))) else md_ck (md_in (0 : Int32) 2) ((if (h_2 94 ((0 : Int32)).toNatClampNeg) = 0 then md_b2 (fX8_fails h_2 (1 : Int32) (h_2 84 18)) (fun r_30 h_31 => some (r_30, h_31)) else md_bd (fX8_isFull h_2 r_3) (fun r_18 => (if r_18 = true then md_b2 (fX8_fails h_2 (3 : Int32) (h_2 84 18)) (fun r_28 h_29 => some (r_28, h_29)) else md_lt (md_up h_2 84 18 ((h_2 84 18) + (1 : Int32))) (fun h_19 : Mm => md_b2 (fX8_takeBody h_19 r_3) (fun r_20 h_21 => (if r_20 = 0 then md_b2 (fX8_here h_21) (fun r_23 h_24 => (if r_23 = (59 : Int32) then md_lt (md_up h_24 84 18 ((h_24 84 18) + (1 : Int32))) (fun h_25 : Mm => some (r_20, h_25)) else md_b2 (fX8_fails h_24 (1 : Int32) (h_24 84 18)) (fun r_26 h_27 => some (r_26, h_27)))) else md_lt (md_up h_21 84 18 ((h_21 84 18) + (1 : Int32))) (fun h_22 : Mm => some (r_20, h_22)))))))))))))
set_option maxRecDepth 100000 in
set_option maxHeartbeats 4000000 in
theorem ctX8_takeClause (K : Kx) (h : Mm) {a : Int32 × Mm} (hF : fX8_takeClause h = some a) : Mt K yX8_takeClause cX8_takeClause 3 (some .int) 5 116 SHc [rf K 84] h (some (.int a.1)) a.2 := by
  refine Mt.of hF [(0, rf K 84)] (by decide) (Nat.le_of_ble_eq_true rfl) rfl (fun Y C N => ?_)
  have C : Cx K Y (0, 0) cX8_takeClause RX8 3 5 116 := C
  unfold fX8_takeClause
  refine mj_aload_n C 0 dX8_takeClause_0 (i := 0) rfl rfl ?_
  refine mj_aload_n C 0 dX8_takeClause_1 (i := 0) rfl rfl ?_
  refine mj_vIM C my_X8_here mv_X8_123 dX8_takeClause_2 sh_84 rfl (fun a hF => ctX8_here K h   hF) (by decide) (by decide) rfl rfl (Nat.le_of_ble_eq_true rfl) (fun r_1 h_2 => ?_)
  refine mj_vI C my_X8_whichClause mv_X8_185 dX8_takeClause_5 sh_84 rfl (fun a hF => ctX8_whichClause K h_2 r_1  hF) (by decide) (by decide) rfl rfl (Nat.le_of_ble_eq_true rfl) (fun r_3 => ?_)
  refine mj_istore_n C [(1, .int r_3), (0, rf K 84)] dX8_takeClause_8 (i := 1) rfl (by decide) rfl ?_
  refine mj_iload_n C 0 dX8_takeClause_9 (i := 1) rfl rfl ?_
  refine mj_if_lt C 26 dX8_takeClause_10 (by decide) ?_ ?_
  · refine mj_aload_n C 1 dX8_takeClause_26 (i := 0) rfl rfl ?_
    refine mj_iconst C (v := 1) dX8_takeClause_27 rfl ?_
    refine mj_aload_n C 1 dX8_takeClause_28 (i := 0) rfl rfl ?_
    refine mj_getI C ff_X8_120 dX8_takeClause_29 sh_84 rfl ?_
    refine mj_vIM C my_X8_fails mv_X8_131 dX8_takeClause_32 sh_84 rfl (fun a hF => ctX8_fails K h_2 (1 : Int32) (h_2 84 18)  hF) (by decide) (by decide) rfl rfl (Nat.le_of_ble_eq_true rfl) (fun r_4 h_5 => ?_)
    exact mj_rIM C N dX8_takeClause_35
  · refine mj_iload_n C 0 dX8_takeClause_13 (i := 1) rfl rfl ?_
    refine mj_if_le C 36 dX8_takeClause_14 (by decide) ?_ ?_
    · refine mj_aload_n C 1 dX8_takeClause_36 (i := 0) rfl rfl ?_
      refine mj_iload_n C 0 dX8_takeClause_37 (i := 1) rfl rfl ?_
      refine mj_vB C my_X8_isFull mv_X8_189 dX8_takeClause_38 sh_84 rfl (fun a hF => ctX8_isFull K h_2 r_3  hF) (by decide) (by decide) rfl rfl (Nat.le_of_ble_eq_true rfl) (fun r_6 => ?_)
      refine mj_b_eq C 54 dX8_takeClause_41 (by decide) ?_ ?_
      · refine mj_aload_n C 1 dX8_takeClause_54 (i := 0) rfl rfl ?_
        refine mj_dup C dX8_takeClause_55 rfl ?_
        refine mj_getI C ff_X8_120 dX8_takeClause_56 sh_84 rfl ?_
        refine mj_iconst C (v := 1) dX8_takeClause_59 rfl ?_
        refine mj_iadd C dX8_takeClause_60 ?_
        refine mj_putL C fp_X8_120 dX8_takeClause_61 sh_84 rfl rfl rfl (fun h_7 => ?_)
        refine mj_aload_n C 1 dX8_takeClause_64 (i := 0) rfl rfl ?_
        refine mj_iload_n C 0 dX8_takeClause_65 (i := 1) rfl rfl ?_
        refine mj_vIM C my_X8_takeBody mv_X8_193 dX8_takeClause_66 sh_84 rfl (fun a hF => ctX8_takeBody K h_7 r_3  hF) (by decide) (by decide) rfl rfl (Nat.le_of_ble_eq_true rfl) (fun r_8 h_9 => ?_)
        refine mj_istore_n C [(2, .int r_8), (1, .int r_3), (0, rf K 84)] dX8_takeClause_69 (i := 2) rfl (by decide) rfl ?_
        refine mj_iload_n C 0 dX8_takeClause_70 (i := 2) rfl rfl ?_
        refine mj_if_ne C 93 dX8_takeClause_71 (by decide) ?_ ?_
        · refine mj_aload_n C 2 dX8_takeClause_93 (i := 0) rfl rfl ?_
          refine mj_dup C dX8_takeClause_94 rfl ?_
          refine mj_getI C ff_X8_120 dX8_takeClause_95 sh_84 rfl ?_
          refine mj_iconst C (v := 1) dX8_takeClause_98 rfl ?_
          refine mj_iadd C dX8_takeClause_99 ?_
          refine mj_putL C fp_X8_120 dX8_takeClause_100 sh_84 rfl rfl rfl (fun h_10 => ?_)
          refine mj_iload_n C 0 dX8_takeClause_103 (i := 2) rfl rfl ?_
          exact mj_rIM C N dX8_takeClause_104
        · refine mj_aload_n C 2 dX8_takeClause_74 (i := 0) rfl rfl ?_
          refine mj_vIM C my_X8_here mv_X8_123 dX8_takeClause_75 sh_84 rfl (fun a hF => ctX8_here K h_9   hF) (by decide) (by decide) rfl rfl (Nat.le_of_ble_eq_true rfl) (fun r_11 h_12 => ?_)
          refine mj_bipush C (v := 59) dX8_takeClause_78 rfl ?_
          refine mj_icmp_eq C 93 dX8_takeClause_80 (by decide) ?_ ?_
          · refine mj_aload_n C 2 dX8_takeClause_93 (i := 0) rfl rfl ?_
            refine mj_dup C dX8_takeClause_94 rfl ?_
            refine mj_getI C ff_X8_120 dX8_takeClause_95 sh_84 rfl ?_
            refine mj_iconst C (v := 1) dX8_takeClause_98 rfl ?_
            refine mj_iadd C dX8_takeClause_99 ?_
            refine mj_putL C fp_X8_120 dX8_takeClause_100 sh_84 rfl rfl rfl (fun h_13 => ?_)
            refine mj_iload_n C 0 dX8_takeClause_103 (i := 2) rfl rfl ?_
            exact mj_rIM C N dX8_takeClause_104
          · refine mj_aload_n C 2 dX8_takeClause_83 (i := 0) rfl rfl ?_
            refine mj_iconst C (v := 1) dX8_takeClause_84 rfl ?_
            refine mj_aload_n C 2 dX8_takeClause_85 (i := 0) rfl rfl ?_
            refine mj_getI C ff_X8_120 dX8_takeClause_86 sh_84 rfl ?_
            refine mj_vIM C my_X8_fails mv_X8_131 dX8_takeClause_89 sh_84 rfl (fun a hF => ctX8_fails K h_12 (1 : Int32) (h_12 84 18)  hF) (by decide) (by decide) rfl rfl (Nat.le_of_ble_eq_true rfl) (fun r_14 h_15 => ?_)
            exact mj_rIM C N dX8_takeClause_92
      · refine mj_aload_n C 1 dX8_takeClause_44 (i := 0) rfl rfl ?_
        refine mj_iconst C (v := 3) dX8_takeClause_45 rfl ?_
        refine mj_aload_n C 1 dX8_takeClause_46 (i := 0) rfl rfl ?_
        refine mj_getI C ff_X8_120 dX8_takeClause_47 sh_84 rfl ?_
        refine mj_vIM C my_X8_fails mv_X8_131 dX8_takeClause_50 sh_84 rfl (fun a hF => ctX8_fails K h_2 (3 : Int32) (h_2 84 18)  hF) (by decide) (by decide) rfl rfl (Nat.le_of_ble_eq_true rfl) (fun r_16 h_17 => ?_)
        exact mj_rIM C N dX8_takeClause_53
    · refine mj_aload_n C 1 dX8_takeClause_17 (i := 0) rfl rfl ?_
      refine mj_getR C ff_X8_41 dX8_takeClause_18 sh_84 rfl ?_
      refine mj_iconst C (v := 0) dX8_takeClause_21 rfl ?_
      refine mj_iald C dX8_takeClause_22 sh_94 ?_
      refine mj_if_ne C 36 dX8_takeClause_23 (by decide) ?_ ?_
      · refine mj_aload_n C 1 dX8_takeClause_36 (i := 0) rfl rfl ?_
        refine mj_iload_n C 0 dX8_takeClause_37 (i := 1) rfl rfl ?_
        refine mj_vB C my_X8_isFull mv_X8_189 dX8_takeClause_38 sh_84 rfl (fun a hF => ctX8_isFull K h_2 r_3  hF) (by decide) (by decide) rfl rfl (Nat.le_of_ble_eq_true rfl) (fun r_18 => ?_)
        refine mj_b_eq C 54 dX8_takeClause_41 (by decide) ?_ ?_
        · refine mj_aload_n C 1 dX8_takeClause_54 (i := 0) rfl rfl ?_
          refine mj_dup C dX8_takeClause_55 rfl ?_
          refine mj_getI C ff_X8_120 dX8_takeClause_56 sh_84 rfl ?_
          refine mj_iconst C (v := 1) dX8_takeClause_59 rfl ?_
          refine mj_iadd C dX8_takeClause_60 ?_
          refine mj_putL C fp_X8_120 dX8_takeClause_61 sh_84 rfl rfl rfl (fun h_19 => ?_)
          refine mj_aload_n C 1 dX8_takeClause_64 (i := 0) rfl rfl ?_
          refine mj_iload_n C 0 dX8_takeClause_65 (i := 1) rfl rfl ?_
          refine mj_vIM C my_X8_takeBody mv_X8_193 dX8_takeClause_66 sh_84 rfl (fun a hF => ctX8_takeBody K h_19 r_3  hF) (by decide) (by decide) rfl rfl (Nat.le_of_ble_eq_true rfl) (fun r_20 h_21 => ?_)
          refine mj_istore_n C [(2, .int r_20), (1, .int r_3), (0, rf K 84)] dX8_takeClause_69 (i := 2) rfl (by decide) rfl ?_
          refine mj_iload_n C 0 dX8_takeClause_70 (i := 2) rfl rfl ?_
          refine mj_if_ne C 93 dX8_takeClause_71 (by decide) ?_ ?_
          · refine mj_aload_n C 2 dX8_takeClause_93 (i := 0) rfl rfl ?_
            refine mj_dup C dX8_takeClause_94 rfl ?_
            refine mj_getI C ff_X8_120 dX8_takeClause_95 sh_84 rfl ?_
            refine mj_iconst C (v := 1) dX8_takeClause_98 rfl ?_
            refine mj_iadd C dX8_takeClause_99 ?_
            refine mj_putL C fp_X8_120 dX8_takeClause_100 sh_84 rfl rfl rfl (fun h_22 => ?_)
            refine mj_iload_n C 0 dX8_takeClause_103 (i := 2) rfl rfl ?_
            exact mj_rIM C N dX8_takeClause_104
          · refine mj_aload_n C 2 dX8_takeClause_74 (i := 0) rfl rfl ?_
            refine mj_vIM C my_X8_here mv_X8_123 dX8_takeClause_75 sh_84 rfl (fun a hF => ctX8_here K h_21   hF) (by decide) (by decide) rfl rfl (Nat.le_of_ble_eq_true rfl) (fun r_23 h_24 => ?_)
            refine mj_bipush C (v := 59) dX8_takeClause_78 rfl ?_
            refine mj_icmp_eq C 93 dX8_takeClause_80 (by decide) ?_ ?_
            · refine mj_aload_n C 2 dX8_takeClause_93 (i := 0) rfl rfl ?_
              refine mj_dup C dX8_takeClause_94 rfl ?_
              refine mj_getI C ff_X8_120 dX8_takeClause_95 sh_84 rfl ?_
              refine mj_iconst C (v := 1) dX8_takeClause_98 rfl ?_
              refine mj_iadd C dX8_takeClause_99 ?_
              refine mj_putL C fp_X8_120 dX8_takeClause_100 sh_84 rfl rfl rfl (fun h_25 => ?_)
              refine mj_iload_n C 0 dX8_takeClause_103 (i := 2) rfl rfl ?_
              exact mj_rIM C N dX8_takeClause_104
            · refine mj_aload_n C 2 dX8_takeClause_83 (i := 0) rfl rfl ?_
              refine mj_iconst C (v := 1) dX8_takeClause_84 rfl ?_
              refine mj_aload_n C 2 dX8_takeClause_85 (i := 0) rfl rfl ?_
              refine mj_getI C ff_X8_120 dX8_takeClause_86 sh_84 rfl ?_
              refine mj_vIM C my_X8_fails mv_X8_131 dX8_takeClause_89 sh_84 rfl (fun a hF => ctX8_fails K h_24 (1 : Int32) (h_24 84 18)  hF) (by decide) (by decide) rfl rfl (Nat.le_of_ble_eq_true rfl) (fun r_26 h_27 => ?_)
              exact mj_rIM C N dX8_takeClause_92
        · refine mj_aload_n C 1 dX8_takeClause_44 (i := 0) rfl rfl ?_
          refine mj_iconst C (v := 3) dX8_takeClause_45 rfl ?_
          refine mj_aload_n C 1 dX8_takeClause_46 (i := 0) rfl rfl ?_
          refine mj_getI C ff_X8_120 dX8_takeClause_47 sh_84 rfl ?_
          refine mj_vIM C my_X8_fails mv_X8_131 dX8_takeClause_50 sh_84 rfl (fun a hF => ctX8_fails K h_2 (3 : Int32) (h_2 84 18)  hF) (by decide) (by decide) rfl rfl (Nat.le_of_ble_eq_true rfl) (fun r_28 h_29 => ?_)
          exact mj_rIM C N dX8_takeClause_53
      · refine mj_aload_n C 1 dX8_takeClause_26 (i := 0) rfl rfl ?_
        refine mj_iconst C (v := 1) dX8_takeClause_27 rfl ?_
        refine mj_aload_n C 1 dX8_takeClause_28 (i := 0) rfl rfl ?_
        refine mj_getI C ff_X8_120 dX8_takeClause_29 sh_84 rfl ?_
        refine mj_vIM C my_X8_fails mv_X8_131 dX8_takeClause_32 sh_84 rfl (fun a hF => ctX8_fails K h_2 (1 : Int32) (h_2 84 18)  hF) (by decide) (by decide) rfl rfl (Nat.le_of_ble_eq_true rfl) (fun r_30 h_31 => ?_)
        exact mj_rIM C N dX8_takeClause_35
noncomputable def fX8_takeRead_54 : Nat → Mm → Int32 → Option (Mm)
  | 0, _, _ => none
  | n + 1, h, l1 => (if (h 84 2) ≤ l1 then some h else md_ck (md_in l1 8) (md_ck (md_in l1 8) (md_lt (md_up h 85 (l1).toNatClampNeg (h 95 (l1).toNatClampNeg)) (fun h_7 : Mm => fX8_takeRead_54 n h_7 (l1 + 1)))))
set_option maxRecDepth 100000 in
set_option maxHeartbeats 4000000 in
theorem lX8_takeRead_54 {K : Kx} {Y : Yx} {cs : Nat × Nat} (C : Cx K Y cs cX8_takeRead RX8 2 0 0) {P : Mm → Prop} : ∀ (n : Nat) (h : Mm) (l1 : Int32), (∀ (hw : Mm), J SHc K Y cs (P hw) 80 [(0, rf K 84)] [] hw) → J SHc K Y cs (mj_O (fX8_takeRead_54 n h l1) P) 54 [(0, rf K 84), (1, .int l1)] [] h := by
  intro n
  induction n with
  | zero => intro h l1 kk0; exact mj_none
  | succ n ih =>
    intro h l1 kk0
    rw [fX8_takeRead_54]
    refine mj_iload_n C 1 dX8_takeRead_54 (i := 1) rfl rfl ?_
    refine mj_aload_n C 0 dX8_takeRead_55 (i := 0) rfl rfl ?_
    refine mj_getI C ff_X8_103 dX8_takeRead_56 sh_84 rfl ?_
    refine mj_icmp_ge C 80 dX8_takeRead_59 (by decide) ?_ ?_
    · exact mj_sub [0] rfl (mj_some (kk0 h))
    · refine mj_aload_n C 0 dX8_takeRead_62 (i := 0) rfl rfl ?_
      refine mj_getR C ff_X8_7 dX8_takeRead_63 sh_84 rfl ?_
      refine mj_iload_n C 1 dX8_takeRead_66 (i := 1) rfl rfl ?_
      refine mj_aload_n C 0 dX8_takeRead_67 (i := 0) rfl rfl ?_
      refine mj_getR C ff_X8_44 dX8_takeRead_68 sh_84 rfl ?_
      refine mj_iload_n C 1 dX8_takeRead_71 (i := 1) rfl rfl ?_
      refine mj_iald C dX8_takeRead_72 sh_95 ?_
      refine mj_iast C dX8_takeRead_73 sh_85 (fun h_7 => ?_)
      refine mj_iinc C (l1 + 1) 1 [(1, .int (l1 + 1)), (0, rf K 84)] dX8_takeRead_74 rfl rfl (by decide) rfl ?_
      refine mj_goto C 54 dX8_takeRead_77 (by decide) ?_
      exact mj_sub [1, 0] rfl (ih h_7 (l1 + 1) kk0)
noncomputable def fX8_takeRead_82 : Nat → Mm → Int32 → Option (Mm)
  | 0, _, _ => none
  | n + 1, h, l1 => (if (10 : Int32) ≤ l1 then some h else md_ck (md_in l1 10) (md_ck (md_in l1 10) (md_lt (md_up h 86 (l1).toNatClampNeg (h 96 (l1).toNatClampNeg)) (fun h_9 : Mm => md_ck (md_in l1 10) (md_ck (md_in l1 10) (md_lt (md_up h_9 87 (l1).toNatClampNeg (h_9 97 (l1).toNatClampNeg)) (fun h_10 : Mm => md_ck (md_in l1 10) (md_ck (md_in l1 10) (md_lt (md_up h_10 88 (l1).toNatClampNeg (h_10 98 (l1).toNatClampNeg)) (fun h_11 : Mm => md_ck (md_in l1 10) (md_ck (md_in l1 10) (md_lt (md_up h_11 89 (l1).toNatClampNeg (h_11 99 (l1).toNatClampNeg)) (fun h_12 : Mm => md_ck (md_in l1 10) (md_ck (md_in l1 10) (md_lt (md_up h_12 90 (l1).toNatClampNeg (h_12 100 (l1).toNatClampNeg)) (fun h_13 : Mm => md_ck (md_in l1 10) (md_ck (md_in l1 10) (md_lt (md_up h_13 91 (l1).toNatClampNeg (h_13 101 (l1).toNatClampNeg)) (fun h_14 : Mm => fX8_takeRead_82 n h_14 (l1 + 1))))))))))))))))))))
set_option maxRecDepth 100000 in
set_option maxHeartbeats 4000000 in
theorem lX8_takeRead_82 {K : Kx} {Y : Yx} {cs : Nat × Nat} (C : Cx K Y cs cX8_takeRead RX8 2 0 0) {P : Mm → Prop} : ∀ (n : Nat) (h : Mm) (l1 : Int32), (∀ (hw : Mm), J SHc K Y cs (P hw) 166 [(0, rf K 84)] [] hw) → J SHc K Y cs (mj_O (fX8_takeRead_82 n h l1) P) 82 [(0, rf K 84), (1, .int l1)] [] h := by
  intro n
  induction n with
  | zero => intro h l1 kk0; exact mj_none
  | succ n ih =>
    intro h l1 kk0
    rw [fX8_takeRead_82]
    refine mj_iload_n C 1 dX8_takeRead_82 (i := 1) rfl rfl ?_
    refine mj_bipush C (v := 10) dX8_takeRead_83 rfl ?_
    refine mj_icmp_ge C 166 dX8_takeRead_85 (by decide) ?_ ?_
    · exact mj_sub [0] rfl (mj_some (kk0 h))
    · refine mj_aload_n C 0 dX8_takeRead_88 (i := 0) rfl rfl ?_
      refine mj_getR C ff_X8_13 dX8_takeRead_89 sh_84 rfl ?_
      refine mj_iload_n C 1 dX8_takeRead_92 (i := 1) rfl rfl ?_
      refine mj_aload_n C 0 dX8_takeRead_93 (i := 0) rfl rfl ?_
      refine mj_getR C ff_X8_47 dX8_takeRead_94 sh_84 rfl ?_
      refine mj_iload_n C 1 dX8_takeRead_97 (i := 1) rfl rfl ?_
      refine mj_iald C dX8_takeRead_98 sh_96 ?_
      refine mj_iast C dX8_takeRead_99 sh_86 (fun h_9 => ?_)
      refine mj_aload_n C 0 dX8_takeRead_100 (i := 0) rfl rfl ?_
      refine mj_getR C ff_X8_16 dX8_takeRead_101 sh_84 rfl ?_
      refine mj_iload_n C 1 dX8_takeRead_104 (i := 1) rfl rfl ?_
      refine mj_aload_n C 0 dX8_takeRead_105 (i := 0) rfl rfl ?_
      refine mj_getR C ff_X8_50 dX8_takeRead_106 sh_84 rfl ?_
      refine mj_iload_n C 1 dX8_takeRead_109 (i := 1) rfl rfl ?_
      refine mj_iald C dX8_takeRead_110 sh_97 ?_
      refine mj_iast C dX8_takeRead_111 sh_87 (fun h_10 => ?_)
      refine mj_aload_n C 0 dX8_takeRead_112 (i := 0) rfl rfl ?_
      refine mj_getR C ff_X8_19 dX8_takeRead_113 sh_84 rfl ?_
      refine mj_iload_n C 1 dX8_takeRead_116 (i := 1) rfl rfl ?_
      refine mj_aload_n C 0 dX8_takeRead_117 (i := 0) rfl rfl ?_
      refine mj_getR C ff_X8_53 dX8_takeRead_118 sh_84 rfl ?_
      refine mj_iload_n C 1 dX8_takeRead_121 (i := 1) rfl rfl ?_
      refine mj_iald C dX8_takeRead_122 sh_98 ?_
      refine mj_iast C dX8_takeRead_123 sh_88 (fun h_11 => ?_)
      refine mj_aload_n C 0 dX8_takeRead_124 (i := 0) rfl rfl ?_
      refine mj_getR C ff_X8_22 dX8_takeRead_125 sh_84 rfl ?_
      refine mj_iload_n C 1 dX8_takeRead_128 (i := 1) rfl rfl ?_
      refine mj_aload_n C 0 dX8_takeRead_129 (i := 0) rfl rfl ?_
      refine mj_getR C ff_X8_56 dX8_takeRead_130 sh_84 rfl ?_
      refine mj_iload_n C 1 dX8_takeRead_133 (i := 1) rfl rfl ?_
      refine mj_iald C dX8_takeRead_134 sh_99 ?_
      refine mj_iast C dX8_takeRead_135 sh_89 (fun h_12 => ?_)
      refine mj_aload_n C 0 dX8_takeRead_136 (i := 0) rfl rfl ?_
      refine mj_getR C ff_X8_25 dX8_takeRead_137 sh_84 rfl ?_
      refine mj_iload_n C 1 dX8_takeRead_140 (i := 1) rfl rfl ?_
      refine mj_aload_n C 0 dX8_takeRead_141 (i := 0) rfl rfl ?_
      refine mj_getR C ff_X8_59 dX8_takeRead_142 sh_84 rfl ?_
      refine mj_iload_n C 1 dX8_takeRead_145 (i := 1) rfl rfl ?_
      refine mj_iald C dX8_takeRead_146 sh_100 ?_
      refine mj_iast C dX8_takeRead_147 sh_90 (fun h_13 => ?_)
      refine mj_aload_n C 0 dX8_takeRead_148 (i := 0) rfl rfl ?_
      refine mj_getR C ff_X8_28 dX8_takeRead_149 sh_84 rfl ?_
      refine mj_iload_n C 1 dX8_takeRead_152 (i := 1) rfl rfl ?_
      refine mj_aload_n C 0 dX8_takeRead_153 (i := 0) rfl rfl ?_
      refine mj_getR C ff_X8_62 dX8_takeRead_154 sh_84 rfl ?_
      refine mj_iload_n C 1 dX8_takeRead_157 (i := 1) rfl rfl ?_
      refine mj_iald C dX8_takeRead_158 sh_101 ?_
      refine mj_iast C dX8_takeRead_159 sh_91 (fun h_14 => ?_)
      refine mj_iinc C (l1 + 1) 1 [(1, .int (l1 + 1)), (0, rf K 84)] dX8_takeRead_160 rfl rfl (by decide) rfl ?_
      refine mj_goto C 82 dX8_takeRead_163 (by decide) ?_
      exact mj_sub [1, 0] rfl (ih h_14 (l1 + 1) kk0)
noncomputable def fX8_takeRead_168 : Nat → Mm → Int32 → Option (Mm)
  | 0, _, _ => none
  | n + 1, h, l1 => (if (9 : Int32) ≤ l1 then some h else md_ck (md_in l1 9) (md_lt (md_up h 92 (l1).toNatClampNeg (0 : Int32)) (fun h_16 : Mm => fX8_takeRead_168 n h_16 (l1 + 1))))
set_option maxRecDepth 100000 in
set_option maxHeartbeats 4000000 in
theorem lX8_takeRead_168 {K : Kx} {Y : Yx} {cs : Nat × Nat} (C : Cx K Y cs cX8_takeRead RX8 2 0 0) {P : Mm → Prop} : ∀ (n : Nat) (h : Mm) (l1 : Int32), (∀ (hw : Mm), J SHc K Y cs (P hw) 187 [(0, rf K 84)] [] hw) → J SHc K Y cs (mj_O (fX8_takeRead_168 n h l1) P) 168 [(0, rf K 84), (1, .int l1)] [] h := by
  intro n
  induction n with
  | zero => intro h l1 kk0; exact mj_none
  | succ n ih =>
    intro h l1 kk0
    rw [fX8_takeRead_168]
    refine mj_iload_n C 1 dX8_takeRead_168 (i := 1) rfl rfl ?_
    refine mj_bipush C (v := 9) dX8_takeRead_169 rfl ?_
    refine mj_icmp_ge C 187 dX8_takeRead_171 (by decide) ?_ ?_
    · exact mj_sub [0] rfl (mj_some (kk0 h))
    · refine mj_aload_n C 0 dX8_takeRead_174 (i := 0) rfl rfl ?_
      refine mj_getR C ff_X8_31 dX8_takeRead_175 sh_84 rfl ?_
      refine mj_iload_n C 1 dX8_takeRead_178 (i := 1) rfl rfl ?_
      refine mj_iconst C (v := 0) dX8_takeRead_179 rfl ?_
      refine mj_iast C dX8_takeRead_180 sh_92 (fun h_16 => ?_)
      refine mj_iinc C (l1 + 1) 1 [(1, .int (l1 + 1)), (0, rf K 84)] dX8_takeRead_181 rfl rfl (by decide) rfl ?_
      refine mj_goto C 168 dX8_takeRead_184 (by decide) ?_
      exact mj_sub [1, 0] rfl (ih h_16 (l1 + 1) kk0)
noncomputable def fX8_takeRead_199 : Nat → Mm → Int32 → Option (Mm)
  | 0, _, _ => none
  | n + 1, h, l1 => (if (h 84 12) ≤ l1 then some h else md_ck (md_in l1 5) (md_ck (md_in ((2 : Int32) + l1) 9) (md_lt (md_up h 92 (((2 : Int32) + l1)).toNatClampNeg (h 102 (l1).toNatClampNeg)) (fun h_19 : Mm => fX8_takeRead_199 n h_19 (l1 + 1)))))
set_option maxRecDepth 100000 in
set_option maxHeartbeats 4000000 in
theorem lX8_takeRead_199 {K : Kx} {Y : Yx} {cs : Nat × Nat} (C : Cx K Y cs cX8_takeRead RX8 2 0 0) {P : Mm → Prop} : ∀ (n : Nat) (h : Mm) (l1 : Int32), (∀ (hw : Mm), J SHc K Y cs (P hw) 227 [] [] hw) → J SHc K Y cs (mj_O (fX8_takeRead_199 n h l1) P) 199 [(0, rf K 84), (1, .int l1)] [] h := by
  intro n
  induction n with
  | zero => intro h l1 kk0; exact mj_none
  | succ n ih =>
    intro h l1 kk0
    rw [fX8_takeRead_199]
    refine mj_iload_n C 1 dX8_takeRead_199 (i := 1) rfl rfl ?_
    refine mj_aload_n C 0 dX8_takeRead_200 (i := 0) rfl rfl ?_
    refine mj_getI C ff_X8_110 dX8_takeRead_201 sh_84 rfl ?_
    refine mj_icmp_ge C 227 dX8_takeRead_204 (by decide) ?_ ?_
    · exact mj_sub [] rfl (mj_some (kk0 h))
    · refine mj_aload_n C 0 dX8_takeRead_207 (i := 0) rfl rfl ?_
      refine mj_getR C ff_X8_31 dX8_takeRead_208 sh_84 rfl ?_
      refine mj_iconst C (v := 2) dX8_takeRead_211 rfl ?_
      refine mj_iload_n C 1 dX8_takeRead_212 (i := 1) rfl rfl ?_
      refine mj_iadd C dX8_takeRead_213 ?_
      refine mj_aload_n C 0 dX8_takeRead_214 (i := 0) rfl rfl ?_
      refine mj_getR C ff_X8_65 dX8_takeRead_215 sh_84 rfl ?_
      refine mj_iload_n C 1 dX8_takeRead_218 (i := 1) rfl rfl ?_
      refine mj_iald C dX8_takeRead_219 sh_102 ?_
      refine mj_iast C dX8_takeRead_220 sh_92 (fun h_19 => ?_)
      refine mj_iinc C (l1 + 1) 1 [(1, .int (l1 + 1)), (0, rf K 84)] dX8_takeRead_221 rfl rfl (by decide) rfl ?_
      refine mj_goto C 199 dX8_takeRead_224 (by decide) ?_
      exact mj_sub [1, 0] rfl (ih h_19 (l1 + 1) kk0)
noncomputable def fX8_takeRead (h : Mm) : Option (Mm) := md_ck (md_in (0 : Int32) 2) (md_lt (md_up h 84 0 (h 94 ((0 : Int32)).toNatClampNeg)) (fun h_1 : Mm => md_ck (md_in (1 : Int32) 2) (md_lt (md_up h_1 84 1 (h_1 94 ((1 : Int32)).toNatClampNeg)) (fun h_2 : Mm => md_lt (md_up h_2 84 2 (h_2 84 22)) (fun h_3 : Mm => md_lt (md_up h_3 84 4 (h_3 84 24)) (fun h_4 : Mm => md_lt (md_up h_4 84 8 (h_4 84 28)) (fun h_5 : Mm => md_lt (md_up h_5 84 12 (h_5 84 33)) (fun h_6 : Mm => md_bd (fX8_takeRead_54 md_N h_6 (0 : Int32)) (fun (h_8 : Mm) => md_bd (fX8_takeRead_82 md_N h_8 (0 : Int32)) (fun (h_15 : Mm) => md_bd (fX8_takeRead_168 md_N h_15 (0 : Int32)) (fun (h_17 : Mm) => md_ck (md_in (0 : Int32) 9) (md_lt (md_up h_17 92 ((0 : Int32)).toNatClampNeg (h_17 84 32)) (fun h_18 : Mm => md_bd (fX8_takeRead_199 md_N h_18 (0 : Int32)) (fun (h_20 : Mm) => some h_20))))))))))))))
set_option maxRecDepth 100000 in
set_option maxHeartbeats 4000000 in
theorem ctX8_takeRead (K : Kx) (h : Mm) {a : Mm} (hF : fX8_takeRead h = some a) : Mt K yX8_takeRead cX8_takeRead 2 none 0 0 SHc [rf K 84] h none a := by
  refine Mt.of hF [(0, rf K 84)] (by decide) (Nat.le_of_ble_eq_true rfl) rfl (fun Y C N => ?_)
  have C : Cx K Y (0, 0) cX8_takeRead RX8 2 0 0 := C
  unfold fX8_takeRead
  refine mj_aload_n C 0 dX8_takeRead_0 (i := 0) rfl rfl ?_
  refine mj_aload_n C 0 dX8_takeRead_1 (i := 0) rfl rfl ?_
  refine mj_getR C ff_X8_41 dX8_takeRead_2 sh_84 rfl ?_
  refine mj_iconst C (v := 0) dX8_takeRead_5 rfl ?_
  refine mj_iald C dX8_takeRead_6 sh_94 ?_
  refine mj_putL C fp_X8_99 dX8_takeRead_7 sh_84 rfl rfl rfl (fun h_1 => ?_)
  refine mj_aload_n C 0 dX8_takeRead_10 (i := 0) rfl rfl ?_
  refine mj_aload_n C 0 dX8_takeRead_11 (i := 0) rfl rfl ?_
  refine mj_getR C ff_X8_41 dX8_takeRead_12 sh_84 rfl ?_
  refine mj_iconst C (v := 1) dX8_takeRead_15 rfl ?_
  refine mj_iald C dX8_takeRead_16 sh_94 ?_
  refine mj_putL C fp_X8_196 dX8_takeRead_17 sh_84 rfl rfl rfl (fun h_2 => ?_)
  refine mj_aload_n C 0 dX8_takeRead_20 (i := 0) rfl rfl ?_
  refine mj_aload_n C 0 dX8_takeRead_21 (i := 0) rfl rfl ?_
  refine mj_getI C ff_X8_148 dX8_takeRead_22 sh_84 rfl ?_
  refine mj_putL C fp_X8_103 dX8_takeRead_25 sh_84 rfl rfl rfl (fun h_3 => ?_)
  refine mj_aload_n C 0 dX8_takeRead_28 (i := 0) rfl rfl ?_
  refine mj_aload_n C 0 dX8_takeRead_29 (i := 0) rfl rfl ?_
  refine mj_getI C ff_X8_151 dX8_takeRead_30 sh_84 rfl ?_
  refine mj_putL C fp_X8_199 dX8_takeRead_33 sh_84 rfl rfl rfl (fun h_4 => ?_)
  refine mj_aload_n C 0 dX8_takeRead_36 (i := 0) rfl rfl ?_
  refine mj_aload_n C 0 dX8_takeRead_37 (i := 0) rfl rfl ?_
  refine mj_getI C ff_X8_154 dX8_takeRead_38 sh_84 rfl ?_
  refine mj_putL C fp_X8_202 dX8_takeRead_41 sh_84 rfl rfl rfl (fun h_5 => ?_)
  refine mj_aload_n C 0 dX8_takeRead_44 (i := 0) rfl rfl ?_
  refine mj_aload_n C 0 dX8_takeRead_45 (i := 0) rfl rfl ?_
  refine mj_getI C ff_X8_164 dX8_takeRead_46 sh_84 rfl ?_
  refine mj_putL C fp_X8_110 dX8_takeRead_49 sh_84 rfl rfl rfl (fun h_6 => ?_)
  refine mj_iconst C (v := 0) dX8_takeRead_52 rfl ?_
  refine mj_istore_n C [(1, .int (0 : Int32)), (0, rf K 84)] dX8_takeRead_53 (i := 1) rfl (by decide) rfl ?_
  refine mj_phi1 80 (fun (h_8 : Mm) => [(0, rf K 84)]) (fun (h_8 : Mm) => []) (fun (h_8 : Mm) => h_8) (fun P' kj_24 => mj_sub [1, 0] rfl (lX8_takeRead_54 C md_N h_6 (0 : Int32) kj_24)) (fun h_8 => ?_)
  refine mj_iconst C (v := 0) dX8_takeRead_80 rfl ?_
  refine mj_istore_n C [(1, .int (0 : Int32)), (0, rf K 84)] dX8_takeRead_81 (i := 1) rfl (by decide) rfl ?_
  refine mj_phi1 166 (fun (h_15 : Mm) => [(0, rf K 84)]) (fun (h_15 : Mm) => []) (fun (h_15 : Mm) => h_15) (fun P' kj_23 => mj_sub [1, 0] rfl (lX8_takeRead_82 C md_N h_8 (0 : Int32) kj_23)) (fun h_15 => ?_)
  refine mj_iconst C (v := 0) dX8_takeRead_166 rfl ?_
  refine mj_istore_n C [(1, .int (0 : Int32)), (0, rf K 84)] dX8_takeRead_167 (i := 1) rfl (by decide) rfl ?_
  refine mj_phi1 187 (fun (h_17 : Mm) => [(0, rf K 84)]) (fun (h_17 : Mm) => []) (fun (h_17 : Mm) => h_17) (fun P' kj_22 => mj_sub [1, 0] rfl (lX8_takeRead_168 C md_N h_15 (0 : Int32) kj_22)) (fun h_17 => ?_)
  refine mj_aload_n C 0 dX8_takeRead_187 (i := 0) rfl rfl ?_
  refine mj_getR C ff_X8_31 dX8_takeRead_188 sh_84 rfl ?_
  refine mj_iconst C (v := 0) dX8_takeRead_191 rfl ?_
  refine mj_aload_n C 0 dX8_takeRead_192 (i := 0) rfl rfl ?_
  refine mj_getI C ff_X8_157 dX8_takeRead_193 sh_84 rfl ?_
  refine mj_iast C dX8_takeRead_196 sh_92 (fun h_18 => ?_)
  refine mj_iconst C (v := 0) dX8_takeRead_197 rfl ?_
  refine mj_istore_n C [(1, .int (0 : Int32)), (0, rf K 84)] dX8_takeRead_198 (i := 1) rfl (by decide) rfl ?_
  refine mj_phi1 227 (fun (h_20 : Mm) => []) (fun (h_20 : Mm) => []) (fun (h_20 : Mm) => h_20) (fun P' kj_21 => mj_sub [1, 0] rfl (lX8_takeRead_199 C md_N h_18 (0 : Int32) kj_21)) (fun h_20 => ?_)
  exact mj_rV C N dX8_takeRead_227
noncomputable def fX8_thePass_51 : Nat → Mm → Int32 → Option (Int32 × Mm)
  | 0, _, _ => none
  | n + 1, h, l1 => (if l1 = 0 then md_b2 (fX8_here h) (fun r_10 h_11 => (if r_10 < 0 then some (l1, h_11) else md_b2 (fX8_takeClause h_11) (fun r_12 h_13 => fX8_thePass_51 n h_13 r_12))) else some (l1, h))
set_option maxRecDepth 100000 in
set_option maxHeartbeats 4000000 in
theorem lX8_thePass_51 {K : Kx} {Y : Yx} {cs : Nat × Nat} (C : Cx K Y cs cX8_thePass RX8 2 6 138) {P : Int32 × Mm → Prop} : ∀ (n : Nat) (h : Mm) (l1 : Int32), (∀ (w1 : Int32) (hw : Mm), J SHc K Y cs (P (w1, hw)) 70 [(0, rf K 84), (1, .int w1)] [] hw) → J SHc K Y cs (mj_O (fX8_thePass_51 n h l1) P) 51 [(0, rf K 84), (1, .int l1)] [] h := by
  intro n
  induction n with
  | zero => intro h l1 kk0; exact mj_none
  | succ n ih =>
    intro h l1 kk0
    rw [fX8_thePass_51]
    refine mj_iload_n C 1 dX8_thePass_51 (i := 1) rfl rfl ?_
    refine mj_if_ne C 70 dX8_thePass_52 (by decide) ?_ ?_
    · exact mj_sub [0, 1] rfl (mj_some (kk0 l1 h))
    · refine mj_aload_n C 0 dX8_thePass_55 (i := 0) rfl rfl ?_
      refine mj_vIM C my_X8_here mv_X8_123 dX8_thePass_56 sh_84 rfl (fun a hF => ctX8_here K h   hF) (by decide) (by decide) rfl rfl (Nat.le_of_ble_eq_true rfl) (fun r_10 h_11 => ?_)
      refine mj_if_lt C 70 dX8_thePass_59 (by decide) ?_ ?_
      · exact mj_sub [0, 1] rfl (mj_some (kk0 l1 h_11))
      · refine mj_aload_n C 0 dX8_thePass_62 (i := 0) rfl rfl ?_
        refine mj_vIM C my_X8_takeClause mv_X8_205 dX8_thePass_63 sh_84 rfl (fun a hF => ctX8_takeClause K h_11   hF) (by decide) (by decide) rfl rfl (Nat.le_of_ble_eq_true rfl) (fun r_12 h_13 => ?_)
        refine mj_istore_n C [(1, .int r_12), (0, rf K 84)] dX8_thePass_66 (i := 1) rfl (by decide) rfl ?_
        refine mj_goto C 51 dX8_thePass_67 (by decide) ?_
        exact mj_sub [1, 0] rfl (ih h_13 r_12 kk0)
noncomputable def fX8_thePass (h : Mm) : Option (Int32 × Mm) := md_lt (md_up h 84 17 (-1 : Int32)) (fun h_1 : Mm => md_lt (md_up h_1 84 18 (0 : Int32)) (fun h_2 : Mm => md_ck (md_in (0 : Int32) 2) (md_lt (md_up h_2 94 ((0 : Int32)).toNatClampNeg (0 : Int32)) (fun h_3 : Mm => md_ck (md_in (1 : Int32) 2) (md_lt (md_up h_3 94 ((1 : Int32)).toNatClampNeg (0 : Int32)) (fun h_4 : Mm => md_lt (md_up h_4 84 22 (0 : Int32)) (fun h_5 : Mm => md_lt (md_up h_5 84 24 (0 : Int32)) (fun h_6 : Mm => md_lt (md_up h_6 84 28 (0 : Int32)) (fun h_7 : Mm => md_lt (md_up h_7 84 32 (0 : Int32)) (fun h_8 : Mm => md_lt (md_up h_8 84 33 (0 : Int32)) (fun h_9 : Mm => md_b2 (fX8_thePass_51 md_N h_9 (0 : Int32)) (fun (v_14 : Int32) (h_15 : Mm) => md_lt (md_up h_15 84 16 (0 : Int32)) (fun h_16 : Mm => (if v_14 ≤ 0 then md_bd (fX8_takeRead h_16) (fun h_17 => md_lt (md_up h_17 84 38 (0 : Int32)) (fun h_18 : Mm => md_lt (md_up h_18 84 43 (0 : Int32)) (fun h_19 : Mm => md_lt (md_up h_19 84 35 (0 : Int32)) (fun h_20 : Mm => md_ck (md_in (0 : Int32) 2) (md_lt (md_up h_20 112 ((0 : Int32)).toNatClampNeg (md_bi false)) (fun h_21 : Mm => md_ck (md_in (1 : Int32) 2) (md_lt (md_up h_21 112 ((1 : Int32)).toNatClampNeg (md_bi false)) (fun h_22 : Mm => some ((h_22 84 2), h_22))))))))) else some (((-10 : Int32) - v_14), h_16)))))))))))))))
set_option maxRecDepth 100000 in
set_option maxHeartbeats 4000000 in
theorem ctX8_thePass (K : Kx) (h : Mm) {a : Int32 × Mm} (hF : fX8_thePass h = some a) : Mt K yX8_thePass cX8_thePass 2 (some .int) 6 138 SHc [rf K 84] h (some (.int a.1)) a.2 := by
  refine Mt.of hF [(0, rf K 84)] (by decide) (Nat.le_of_ble_eq_true rfl) rfl (fun Y C N => ?_)
  have C : Cx K Y (0, 0) cX8_thePass RX8 2 6 138 := C
  unfold fX8_thePass
  refine mj_aload_n C 0 dX8_thePass_0 (i := 0) rfl rfl ?_
  refine mj_iconst C (v := -1) dX8_thePass_1 rfl ?_
  refine mj_putL C fp_X8_37 dX8_thePass_2 sh_84 rfl rfl rfl (fun h_1 => ?_)
  refine mj_aload_n C 0 dX8_thePass_5 (i := 0) rfl rfl ?_
  refine mj_iconst C (v := 0) dX8_thePass_6 rfl ?_
  refine mj_putL C fp_X8_120 dX8_thePass_7 sh_84 rfl rfl rfl (fun h_2 => ?_)
  refine mj_aload_n C 0 dX8_thePass_10 (i := 0) rfl rfl ?_
  refine mj_getR C ff_X8_41 dX8_thePass_11 sh_84 rfl ?_
  refine mj_iconst C (v := 0) dX8_thePass_14 rfl ?_
  refine mj_iconst C (v := 0) dX8_thePass_15 rfl ?_
  refine mj_iast C dX8_thePass_16 sh_94 (fun h_3 => ?_)
  refine mj_aload_n C 0 dX8_thePass_17 (i := 0) rfl rfl ?_
  refine mj_getR C ff_X8_41 dX8_thePass_18 sh_84 rfl ?_
  refine mj_iconst C (v := 1) dX8_thePass_21 rfl ?_
  refine mj_iconst C (v := 0) dX8_thePass_22 rfl ?_
  refine mj_iast C dX8_thePass_23 sh_94 (fun h_4 => ?_)
  refine mj_aload_n C 0 dX8_thePass_24 (i := 0) rfl rfl ?_
  refine mj_iconst C (v := 0) dX8_thePass_25 rfl ?_
  refine mj_putL C fp_X8_148 dX8_thePass_26 sh_84 rfl rfl rfl (fun h_5 => ?_)
  refine mj_aload_n C 0 dX8_thePass_29 (i := 0) rfl rfl ?_
  refine mj_iconst C (v := 0) dX8_thePass_30 rfl ?_
  refine mj_putL C fp_X8_151 dX8_thePass_31 sh_84 rfl rfl rfl (fun h_6 => ?_)
  refine mj_aload_n C 0 dX8_thePass_34 (i := 0) rfl rfl ?_
  refine mj_iconst C (v := 0) dX8_thePass_35 rfl ?_
  refine mj_putL C fp_X8_154 dX8_thePass_36 sh_84 rfl rfl rfl (fun h_7 => ?_)
  refine mj_aload_n C 0 dX8_thePass_39 (i := 0) rfl rfl ?_
  refine mj_iconst C (v := 0) dX8_thePass_40 rfl ?_
  refine mj_putL C fp_X8_157 dX8_thePass_41 sh_84 rfl rfl rfl (fun h_8 => ?_)
  refine mj_aload_n C 0 dX8_thePass_44 (i := 0) rfl rfl ?_
  refine mj_iconst C (v := 0) dX8_thePass_45 rfl ?_
  refine mj_putL C fp_X8_164 dX8_thePass_46 sh_84 rfl rfl rfl (fun h_9 => ?_)
  refine mj_iconst C (v := 0) dX8_thePass_49 rfl ?_
  refine mj_istore_n C [(1, .int (0 : Int32)), (0, rf K 84)] dX8_thePass_50 (i := 1) rfl (by decide) rfl ?_
  refine mj_phi2 70 (fun (v_14 : Int32) (h_15 : Mm) => [(0, rf K 84), (1, .int v_14)]) (fun (v_14 : Int32) (h_15 : Mm) => []) (fun (v_14 : Int32) (h_15 : Mm) => h_15) (fun P' kj_23 => mj_sub [1, 0] rfl (lX8_thePass_51 C md_N h_9 (0 : Int32) kj_23)) (fun v_14 h_15 => ?_)
  refine mj_aload_n C 0 dX8_thePass_70 (i := 0) rfl rfl ?_
  refine mj_iconst C (v := 0) dX8_thePass_71 rfl ?_
  refine mj_putL C fp_X8_116 dX8_thePass_72 sh_84 rfl rfl rfl (fun h_16 => ?_)
  refine mj_iload_n C 1 dX8_thePass_75 (i := 1) rfl rfl ?_
  refine mj_if_le C 84 dX8_thePass_76 (by decide) ?_ ?_
  · refine mj_aload_n C 0 dX8_thePass_84 (i := 0) rfl rfl ?_
    refine mj_vM C my_X8_takeRead mv_X8_208 dX8_thePass_85 sh_84 rfl (fun a hF => ctX8_takeRead K h_16   hF) (by decide) (by decide) rfl rfl (Nat.le_of_ble_eq_true rfl) (fun h_17 => ?_)
    refine mj_aload_n C 0 dX8_thePass_88 (i := 0) rfl rfl ?_
    refine mj_iconst C (v := 0) dX8_thePass_89 rfl ?_
    refine mj_putL C fp_X8_211 dX8_thePass_90 sh_84 rfl rfl rfl (fun h_18 => ?_)
    refine mj_aload_n C 0 dX8_thePass_93 (i := 0) rfl rfl ?_
    refine mj_iconst C (v := 0) dX8_thePass_94 rfl ?_
    refine mj_putL C fp_X8_214 dX8_thePass_95 sh_84 rfl rfl rfl (fun h_19 => ?_)
    refine mj_aload_n C 0 dX8_thePass_98 (i := 0) rfl rfl ?_
    refine mj_iconst C (v := 0) dX8_thePass_99 rfl ?_
    refine mj_putL C fp_X8_217 dX8_thePass_100 sh_84 rfl rfl rfl (fun h_20 => ?_)
    refine mj_aload_n C 0 dX8_thePass_103 (i := 0) rfl rfl ?_
    refine mj_getR C ff_X8_96 dX8_thePass_104 sh_84 rfl ?_
    refine mj_iconst C (v := 0) dX8_thePass_107 rfl ?_
    refine mj_iconst C (v := 0) dX8_thePass_108 rfl ?_
    refine mj_zast C (v := false) dX8_thePass_109 sh_112 (fun h_21 => ?_)
    refine mj_aload_n C 0 dX8_thePass_110 (i := 0) rfl rfl ?_
    refine mj_getR C ff_X8_96 dX8_thePass_111 sh_84 rfl ?_
    refine mj_iconst C (v := 1) dX8_thePass_114 rfl ?_
    refine mj_iconst C (v := 0) dX8_thePass_115 rfl ?_
    refine mj_zast C (v := false) dX8_thePass_116 sh_112 (fun h_22 => ?_)
    refine mj_aload_n C 0 dX8_thePass_117 (i := 0) rfl rfl ?_
    refine mj_getI C ff_X8_103 dX8_thePass_118 sh_84 rfl ?_
    exact mj_rIM C N dX8_thePass_121
  · refine mj_bipush C (v := -10) dX8_thePass_79 rfl ?_
    refine mj_iload_n C 1 dX8_thePass_81 (i := 1) rfl rfl ?_
    refine mj_isub C dX8_thePass_82 ?_
    exact mj_rIM C N dX8_thePass_83
noncomputable def fX8_fault (h : Mm) : Option (Int32) := some (h 84 17)
set_option maxRecDepth 100000 in
set_option maxHeartbeats 4000000 in
theorem ctX8_fault (K : Kx) (h : Mm) {a : Int32} (hF : fX8_fault h = some a) : Mt K yX8_fault cX8_fault 1 (some .int) 0 0 SHc [rf K 84] h (some (.int a)) h := by
  refine Mt.of hF [(0, rf K 84)] (by decide) (Nat.le_of_ble_eq_true rfl) rfl (fun Y C N => ?_)
  have C : Cx K Y (0, 0) cX8_fault RX8 1 0 0 := C
  unfold fX8_fault
  refine mj_aload_n C 0 dX8_fault_0 (i := 0) rfl rfl ?_
  refine mj_getI C ff_X8_37 dX8_fault_1 sh_84 rfl ?_
  exact mj_rI C N dX8_fault_4
noncomputable def fX8_close_13 : Nat → Mm → Int32 → Bool → Int32 → Option (Int32 × Bool)
  | 0, _, _, _, _ => none
  | n + 1, h, l2, l3, l4 => (if (h 84 4) ≤ l4 then some (l2, l3) else md_ck (md_in l4 10) (md_bd (fX8_has h l2 (h 86 (l4).toNatClampNeg)) (fun r_1 => md_b2 ((if r_1 = true then md_ck (md_in l4 10) (md_bd (fX8_has h l2 (h 87 (l4).toNatClampNeg)) (fun r_5 => (if r_5 = true then md_ck (md_in l4 10) (md_bd (fX8_has h l2 (h 88 (l4).toNatClampNeg)) (fun r_6 => (if r_6 = true then some (l2, l3) else md_ck (md_in l4 10) (md_lt (l2 ||| ((1 : Int32) <<< ((h 88 (l4).toNatClampNeg) &&& 31))) (fun l2_7 : Int32 => some (l2_7, true)))))) else some (l2, l3)))) else some (l2, l3))) (fun (v_2 : Int32) (v_3 : Bool) => fX8_close_13 n h v_2 v_3 (l4 + 1)))))
set_option maxRecDepth 100000 in
set_option maxHeartbeats 4000000 in
theorem lX8_close_13 {K : Kx} {Y : Yx} {cs : Nat × Nat} (C : Cx K Y cs cX8_close RX8 5 1 21) {P : Int32 × Bool → Prop} : ∀ (n : Nat) (h : Mm) (l2 : Int32) (l3 : Bool) (l4 : Int32), (∀ (w2 : Int32) (w3 : Bool), J SHc K Y cs (P (w2, w3)) 84 [(0, rf K 84), (2, .int w2), (3, .int (md_bi w3))] [] h) → J SHc K Y cs (mj_O (fX8_close_13 n h l2 l3 l4) P) 13 [(0, rf K 84), (2, .int l2), (3, .int (md_bi l3)), (4, .int l4)] [] h := by
  intro n
  induction n with
  | zero => intro h l2 l3 l4 kk0; exact mj_none
  | succ n ih =>
    intro h l2 l3 l4 kk0
    rw [fX8_close_13]
    refine mj_iload C 3 dX8_close_13 rfl ?_
    refine mj_aload_n C 0 dX8_close_15 (i := 0) rfl rfl ?_
    refine mj_getI C ff_X8_199 dX8_close_16 sh_84 rfl ?_
    refine mj_icmp_ge C 84 dX8_close_19 (by decide) ?_ ?_
    · exact mj_sub [0, 1, 2] rfl (mj_some (kk0 l2 l3))
    · refine mj_iload_n C 1 dX8_close_22 (i := 2) rfl rfl ?_
      refine mj_aload_n C 0 dX8_close_23 (i := 0) rfl rfl ?_
      refine mj_getR C ff_X8_13 dX8_close_24 sh_84 rfl ?_
      refine mj_iload C 3 dX8_close_27 rfl ?_
      refine mj_iald C dX8_close_29 sh_86 ?_
      refine mj_sB C my_X8_has ms_X8_160 dX8_close_30 (fun a hF => ctX8_has K h l2 (h 86 (l4).toNatClampNeg)  hF) (by decide) (by decide) rfl rfl (Nat.le_of_ble_eq_true rfl) (fun r_1 => ?_)
      refine mj_phi2 78 (fun (v_2 : Int32) (v_3 : Bool) => [(0, rf K 84), (2, .int v_2), (3, .int (md_bi v_3)), (4, .int l4)]) (fun (v_2 : Int32) (v_3 : Bool) => []) (fun (v_2 : Int32) (v_3 : Bool) => h) (fun P' kj_4 => ?_) (fun v_2 v_3 => ?_)
      · refine mj_b_eq C 78 dX8_close_33 (by decide) ?_ ?_
        · exact mj_sub [0, 1, 2, 3] rfl (mj_some (kj_4 l2 l3))
        · refine mj_iload_n C 1 dX8_close_36 (i := 2) rfl rfl ?_
          refine mj_aload_n C 0 dX8_close_37 (i := 0) rfl rfl ?_
          refine mj_getR C ff_X8_16 dX8_close_38 sh_84 rfl ?_
          refine mj_iload C 3 dX8_close_41 rfl ?_
          refine mj_iald C dX8_close_43 sh_87 ?_
          refine mj_sB C my_X8_has ms_X8_160 dX8_close_44 (fun a hF => ctX8_has K h l2 (h 87 (l4).toNatClampNeg)  hF) (by decide) (by decide) rfl rfl (Nat.le_of_ble_eq_true rfl) (fun r_5 => ?_)
          refine mj_b_eq C 78 dX8_close_47 (by decide) ?_ ?_
          · exact mj_sub [0, 1, 2, 3] rfl (mj_some (kj_4 l2 l3))
          · refine mj_iload_n C 1 dX8_close_50 (i := 2) rfl rfl ?_
            refine mj_aload_n C 0 dX8_close_51 (i := 0) rfl rfl ?_
            refine mj_getR C ff_X8_19 dX8_close_52 sh_84 rfl ?_
            refine mj_iload C 3 dX8_close_55 rfl ?_
            refine mj_iald C dX8_close_57 sh_88 ?_
            refine mj_sB C my_X8_has ms_X8_160 dX8_close_58 (fun a hF => ctX8_has K h l2 (h 88 (l4).toNatClampNeg)  hF) (by decide) (by decide) rfl rfl (Nat.le_of_ble_eq_true rfl) (fun r_6 => ?_)
            refine mj_b_ne C 78 dX8_close_61 (by decide) ?_ ?_
            · exact mj_sub [0, 1, 2, 3] rfl (mj_some (kj_4 l2 l3))
            · refine mj_iload_n C 1 dX8_close_64 (i := 2) rfl rfl ?_
              refine mj_iconst C (v := 1) dX8_close_65 rfl ?_
              refine mj_aload_n C 0 dX8_close_66 (i := 0) rfl rfl ?_
              refine mj_getR C ff_X8_19 dX8_close_67 sh_84 rfl ?_
              refine mj_iload C 3 dX8_close_70 rfl ?_
              refine mj_iald C dX8_close_72 sh_88 ?_
              refine mj_ishl C dX8_close_73 ?_
              refine mj_ior C dX8_close_74 ?_
              refine mj_istore_nL C (fun l2_7 => [(2, .int l2_7), (0, rf K 84), (3, .int (md_bi l3)), (4, .int l4)]) dX8_close_75 (i := 2) rfl (by decide) rfl (fun l2_7 => ?_)
              refine mj_iconst C (v := 1) dX8_close_76 rfl ?_
              refine mj_istore_n C [(3, .int (1 : Int32)), (2, .int l2_7), (0, rf K 84), (4, .int l4)] dX8_close_77 (i := 3) rfl (by decide) rfl ?_
              exact mj_sub [2, 1, 0, 3] rfl (mj_some (kj_4 l2_7 true))
      · refine mj_iinc C (l4 + 1) 3 [(4, .int (l4 + 1)), (0, rf K 84), (2, .int v_2), (3, .int (md_bi v_3))] dX8_close_78 rfl rfl (by decide) rfl ?_
        refine mj_goto C 13 dX8_close_81 (by decide) ?_
        exact mj_sub [1, 2, 3, 0] rfl (ih h v_2 v_3 (l4 + 1) kk0)
noncomputable def fX8_close_4 : Nat → Mm → Int32 → Bool → Option (Int32)
  | 0, _, _, _ => none
  | n + 1, h, l2, l3 => (if l3 = true then md_b2 (fX8_close_13 md_N h l2 false (0 : Int32)) (fun (v_8 : Int32) (v_9 : Bool) => fX8_close_4 n h v_8 v_9) else some l2)
set_option maxRecDepth 100000 in
set_option maxHeartbeats 4000000 in
theorem lX8_close_4 {K : Kx} {Y : Yx} {cs : Nat × Nat} (C : Cx K Y cs cX8_close RX8 5 1 21) {P : Int32 → Prop} : ∀ (n : Nat) (h : Mm) (l2 : Int32) (l3 : Bool), (∀ (w2 : Int32), J SHc K Y cs (P w2) 87 [(2, .int w2)] [] h) → J SHc K Y cs (mj_O (fX8_close_4 n h l2 l3) P) 4 [(0, rf K 84), (2, .int l2), (3, .int (md_bi l3))] [] h := by
  intro n
  induction n with
  | zero => intro h l2 l3 kk0; exact mj_none
  | succ n ih =>
    intro h l2 l3 kk0
    rw [fX8_close_4]
    refine mj_iload_n C 2 dX8_close_4 (i := 3) rfl rfl ?_
    refine mj_b_eq C 87 dX8_close_5 (by decide) ?_ ?_
    · exact mj_sub [1] rfl (mj_some (kk0 l2))
    · refine mj_iconst C (v := 0) dX8_close_8 rfl ?_
      refine mj_istore_n C [(3, .int (0 : Int32)), (0, rf K 84), (2, .int l2)] dX8_close_9 (i := 3) rfl (by decide) rfl ?_
      refine mj_iconst C (v := 0) dX8_close_10 rfl ?_
      refine mj_istore C [(4, .int (0 : Int32)), (3, .int (0 : Int32)), (0, rf K 84), (2, .int l2)] dX8_close_11 (by decide) rfl ?_
      refine mj_phi2 84 (fun (v_8 : Int32) (v_9 : Bool) => [(0, rf K 84), (2, .int v_8), (3, .int (md_bi v_9))]) (fun (v_8 : Int32) (v_9 : Bool) => []) (fun (v_8 : Int32) (v_9 : Bool) => h) (fun P' kj_10 => mj_sub [2, 3, 1, 0] rfl (lX8_close_13 C md_N h l2 false (0 : Int32) kj_10)) (fun v_8 v_9 => ?_)
      refine mj_goto C 4 dX8_close_84 (by decide) ?_
      exact mj_sub [0, 1, 2] rfl (ih h v_8 v_9 kk0)
noncomputable def fX8_close (h : Mm) (l1 : Int32) : Option (Int32) := md_bd (fX8_close_4 md_N h l1 true) (fun (v_11 : Int32) => some v_11)
set_option maxRecDepth 100000 in
set_option maxHeartbeats 4000000 in
theorem ctX8_close (K : Kx) (h : Mm) (l1 : Int32) {a : Int32} (hF : fX8_close h l1 = some a) : Mt K yX8_close cX8_close 5 (some .int) 1 21 SHc [rf K 84, .int l1] h (some (.int a)) h := by
  refine Mt.of hF [(0, rf K 84), (1, .int l1)] (by decide) (Nat.le_of_ble_eq_true rfl) rfl (fun Y C N => ?_)
  have C : Cx K Y (0, 0) cX8_close RX8 5 1 21 := C
  unfold fX8_close
  refine mj_iload_n C 1 dX8_close_0 (i := 1) rfl rfl ?_
  refine mj_istore_n C [(2, .int l1), (0, rf K 84), (1, .int l1)] dX8_close_1 (i := 2) rfl (by decide) rfl ?_
  refine mj_iconst C (v := 1) dX8_close_2 rfl ?_
  refine mj_istore_n C [(3, .int (1 : Int32)), (2, .int l1), (0, rf K 84), (1, .int l1)] dX8_close_3 (i := 3) rfl (by decide) rfl ?_
  refine mj_phi1 87 (fun (v_11 : Int32) => [(2, .int v_11)]) (fun (v_11 : Int32) => []) (fun (v_11 : Int32) => h) (fun P' kj_12 => mj_sub [2, 1, 0] rfl (lX8_close_4 C md_N h l1 true kj_12)) (fun v_11 => ?_)
  refine mj_iload_n C 0 dX8_close_87 (i := 2) rfl rfl ?_
  exact mj_rI C N dX8_close_88
noncomputable def fX8_sizeOf_4 : Nat → Mm → Int32 → Int32 → Int32 → Option (Int32)
  | 0, _, _, _, _ => none
  | n + 1, h, l1, l2, l3 => (if (h 84 2) ≤ l3 then some l2 else md_bd (fX8_has h l1 l3) (fun r_1 => md_bd ((if r_1 = true then md_ck (md_in l3 8) (some (h 85 (l3).toNatClampNeg)) else some (0 : Int32))) (fun (v_2 : Int32) => md_lt (l2 + v_2) (fun l2_4 : Int32 => fX8_sizeOf_4 n h l1 l2_4 (l3 + 1)))))
set_option maxRecDepth 100000 in
set_option maxHeartbeats 4000000 in
theorem lX8_sizeOf_4 {K : Kx} {Y : Yx} {cs : Nat × Nat} (C : Cx K Y cs cX8_sizeOf RX8 4 1 21) {P : Int32 → Prop} : ∀ (n : Nat) (h : Mm) (l1 : Int32) (l2 : Int32) (l3 : Int32), (∀ (w2 : Int32), J SHc K Y cs (P w2) 39 [(2, .int w2)] [] h) → J SHc K Y cs (mj_O (fX8_sizeOf_4 n h l1 l2 l3) P) 4 [(0, rf K 84), (1, .int l1), (2, .int l2), (3, .int l3)] [] h := by
  intro n
  induction n with
  | zero => intro h l1 l2 l3 kk0; exact mj_none
  | succ n ih =>
    intro h l1 l2 l3 kk0
    rw [fX8_sizeOf_4]
    refine mj_iload_n C 3 dX8_sizeOf_4 (i := 3) rfl rfl ?_
    refine mj_aload_n C 0 dX8_sizeOf_5 (i := 0) rfl rfl ?_
    refine mj_getI C ff_X8_103 dX8_sizeOf_6 sh_84 rfl ?_
    refine mj_icmp_ge C 39 dX8_sizeOf_9 (by decide) ?_ ?_
    · exact mj_sub [2] rfl (mj_some (kk0 l2))
    · refine mj_iload_n C 2 dX8_sizeOf_12 (i := 2) rfl rfl ?_
      refine mj_iload_n C 1 dX8_sizeOf_13 (i := 1) rfl rfl ?_
      refine mj_iload_n C 3 dX8_sizeOf_14 (i := 3) rfl rfl ?_
      refine mj_sB C my_X8_has ms_X8_160 dX8_sizeOf_15 (fun a hF => ctX8_has K h l1 l3  hF) (by decide) (by decide) rfl rfl (Nat.le_of_ble_eq_true rfl) (fun r_1 => ?_)
      refine mj_phi1 31 (fun (v_2 : Int32) => [(0, rf K 84), (1, .int l1), (3, .int l3)]) (fun (v_2 : Int32) => [.int v_2, .int l2]) (fun (v_2 : Int32) => h) (fun P' kj_3 => ?_) (fun v_2 => ?_)
      · refine mj_b_eq C 30 dX8_sizeOf_18 (by decide) ?_ ?_
        · refine mj_iconst C (v := 0) dX8_sizeOf_30 rfl ?_
          exact mj_sub [0, 1, 3] rfl (mj_some (kj_3 (0 : Int32)))
        · refine mj_aload_n C 0 dX8_sizeOf_21 (i := 0) rfl rfl ?_
          refine mj_getR C ff_X8_7 dX8_sizeOf_22 sh_84 rfl ?_
          refine mj_iload_n C 3 dX8_sizeOf_25 (i := 3) rfl rfl ?_
          refine mj_iald C dX8_sizeOf_26 sh_85 ?_
          refine mj_goto C 31 dX8_sizeOf_27 (by decide) ?_
          exact mj_sub [0, 1, 3] rfl (mj_some (kj_3 (h 85 (l3).toNatClampNeg)))
      · refine mj_iadd C dX8_sizeOf_31 ?_
        refine mj_istore_nL C (fun l2_4 => [(2, .int l2_4), (0, rf K 84), (1, .int l1), (3, .int l3)]) dX8_sizeOf_32 (i := 2) rfl (by decide) rfl (fun l2_4 => ?_)
        refine mj_iinc C (l3 + 1) 3 [(3, .int (l3 + 1)), (2, .int l2_4), (0, rf K 84), (1, .int l1)] dX8_sizeOf_33 rfl rfl (by decide) rfl ?_
        refine mj_goto C 4 dX8_sizeOf_36 (by decide) ?_
        exact mj_sub [2, 3, 1, 0] rfl (ih h l1 l2_4 (l3 + 1) kk0)
noncomputable def fX8_sizeOf (h : Mm) (l1 : Int32) : Option (Int32) := md_bd (fX8_sizeOf_4 md_N h l1 (0 : Int32) (0 : Int32)) (fun (v_5 : Int32) => some v_5)
set_option maxRecDepth 100000 in
set_option maxHeartbeats 4000000 in
theorem ctX8_sizeOf (K : Kx) (h : Mm) (l1 : Int32) {a : Int32} (hF : fX8_sizeOf h l1 = some a) : Mt K yX8_sizeOf cX8_sizeOf 4 (some .int) 1 21 SHc [rf K 84, .int l1] h (some (.int a)) h := by
  refine Mt.of hF [(0, rf K 84), (1, .int l1)] (by decide) (Nat.le_of_ble_eq_true rfl) rfl (fun Y C N => ?_)
  have C : Cx K Y (0, 0) cX8_sizeOf RX8 4 1 21 := C
  unfold fX8_sizeOf
  refine mj_iconst C (v := 0) dX8_sizeOf_0 rfl ?_
  refine mj_istore_n C [(2, .int (0 : Int32)), (0, rf K 84), (1, .int l1)] dX8_sizeOf_1 (i := 2) rfl (by decide) rfl ?_
  refine mj_iconst C (v := 0) dX8_sizeOf_2 rfl ?_
  refine mj_istore_n C [(3, .int (0 : Int32)), (2, .int (0 : Int32)), (0, rf K 84), (1, .int l1)] dX8_sizeOf_3 (i := 3) rfl (by decide) rfl ?_
  refine mj_phi1 39 (fun (v_5 : Int32) => [(2, .int v_5)]) (fun (v_5 : Int32) => []) (fun (v_5 : Int32) => h) (fun P' kj_6 => mj_sub [2, 3, 1, 0] rfl (lX8_sizeOf_4 C md_N h l1 (0 : Int32) (0 : Int32) kj_6)) (fun v_5 => ?_)
  refine mj_iload_n C 0 dX8_sizeOf_39 (i := 2) rfl rfl ?_
  exact mj_rI C N dX8_sizeOf_40
noncomputable def fX8_owedWhere_5 : Nat → Mm → Int32 → Int32 → Int32 → Int32 → Option (Int32)
  | 0, _, _, _, _, _ => none
  | n + 1, h, l1, l2, l3, l4 => (if (h 84 2) ≤ l4 then some l3 else md_bd (fX8_has h l1 l4) (fun r_1 => md_bd ((if r_1 = true then md_bd (fX8_has h l2 l4) (fun r_4 => (if r_4 = true then some l3 else md_bd (fX8_close h (l1 &&& (((1 : Int32) <<< (l4 &&& 31)) ^^^ (-1 : Int32)))) (fun r_5 => md_bd (fX8_has h r_5 l4) (fun r_6 => md_bd ((if r_6 = true then md_ck (md_in l4 8) (some ((h 85 (l4).toNatClampNeg) / (2 : Int32))) else md_ck (md_in l4 8) (some (h 85 (l4).toNatClampNeg)))) (fun (v_7 : Int32) => md_lt (l3 + v_7) (fun l3_9 : Int32 => some l3_9)))))) else some l3)) (fun (v_2 : Int32) => fX8_owedWhere_5 n h l1 l2 v_2 (l4 + 1))))
set_option maxRecDepth 100000 in
set_option maxHeartbeats 4000000 in
theorem lX8_owedWhere_5 {K : Kx} {Y : Yx} {cs : Nat × Nat} (C : Cx K Y cs cX8_owedWhere RX8 5 2 45) {P : Int32 → Prop} : ∀ (n : Nat) (h : Mm) (l1 : Int32) (l2 : Int32) (l3 : Int32) (l4 : Int32), (∀ (w3 : Int32), J SHc K Y cs (P w3) 80 [(3, .int w3)] [] h) → J SHc K Y cs (mj_O (fX8_owedWhere_5 n h l1 l2 l3 l4) P) 5 [(0, rf K 84), (1, .int l1), (2, .int l2), (3, .int l3), (4, .int l4)] [] h := by
  intro n
  induction n with
  | zero => intro h l1 l2 l3 l4 kk0; exact mj_none
  | succ n ih =>
    intro h l1 l2 l3 l4 kk0
    rw [fX8_owedWhere_5]
    refine mj_iload C 4 dX8_owedWhere_5 rfl ?_
    refine mj_aload_n C 0 dX8_owedWhere_7 (i := 0) rfl rfl ?_
    refine mj_getI C ff_X8_103 dX8_owedWhere_8 sh_84 rfl ?_
    refine mj_icmp_ge C 80 dX8_owedWhere_11 (by decide) ?_ ?_
    · exact mj_sub [3] rfl (mj_some (kk0 l3))
    · refine mj_iload_n C 1 dX8_owedWhere_14 (i := 1) rfl rfl ?_
      refine mj_iload C 4 dX8_owedWhere_15 rfl ?_
      refine mj_sB C my_X8_has ms_X8_160 dX8_owedWhere_17 (fun a hF => ctX8_has K h l1 l4  hF) (by decide) (by decide) rfl rfl (Nat.le_of_ble_eq_true rfl) (fun r_1 => ?_)
      refine mj_phi1 74 (fun (v_2 : Int32) => [(0, rf K 84), (1, .int l1), (2, .int l2), (3, .int v_2), (4, .int l4)]) (fun (v_2 : Int32) => []) (fun (v_2 : Int32) => h) (fun P' kj_3 => ?_) (fun v_2 => ?_)
      · refine mj_b_eq C 74 dX8_owedWhere_20 (by decide) ?_ ?_
        · exact mj_sub [0, 1, 2, 3, 4] rfl (mj_some (kj_3 l3))
        · refine mj_iload_n C 2 dX8_owedWhere_23 (i := 2) rfl rfl ?_
          refine mj_iload C 4 dX8_owedWhere_24 rfl ?_
          refine mj_sB C my_X8_has ms_X8_160 dX8_owedWhere_26 (fun a hF => ctX8_has K h l2 l4  hF) (by decide) (by decide) rfl rfl (Nat.le_of_ble_eq_true rfl) (fun r_4 => ?_)
          refine mj_b_ne C 74 dX8_owedWhere_29 (by decide) ?_ ?_
          · exact mj_sub [0, 1, 2, 3, 4] rfl (mj_some (kj_3 l3))
          · refine mj_iload_n C 3 dX8_owedWhere_32 (i := 3) rfl rfl ?_
            refine mj_aload_n C 0 dX8_owedWhere_33 (i := 0) rfl rfl ?_
            refine mj_iload_n C 1 dX8_owedWhere_34 (i := 1) rfl rfl ?_
            refine mj_iconst C (v := 1) dX8_owedWhere_35 rfl ?_
            refine mj_iload C 4 dX8_owedWhere_36 rfl ?_
            refine mj_ishl C dX8_owedWhere_38 ?_
            refine mj_iconst C (v := -1) dX8_owedWhere_39 rfl ?_
            refine mj_ixor C dX8_owedWhere_40 ?_
            refine mj_iand C dX8_owedWhere_41 ?_
            refine mj_vI C my_X8_close mv_X8_220 dX8_owedWhere_42 sh_84 rfl (fun a hF => ctX8_close K h (l1 &&& (((1 : Int32) <<< (l4 &&& 31)) ^^^ (-1 : Int32)))  hF) (by decide) (by decide) rfl rfl (Nat.le_of_ble_eq_true rfl) (fun r_5 => ?_)
            refine mj_iload C 4 dX8_owedWhere_45 rfl ?_
            refine mj_sB C my_X8_has ms_X8_160 dX8_owedWhere_47 (fun a hF => ctX8_has K h r_5 l4  hF) (by decide) (by decide) rfl rfl (Nat.le_of_ble_eq_true rfl) (fun r_6 => ?_)
            refine mj_phi1 72 (fun (v_7 : Int32) => [(0, rf K 84), (1, .int l1), (2, .int l2), (4, .int l4)]) (fun (v_7 : Int32) => [.int v_7, .int l3]) (fun (v_7 : Int32) => h) (fun P' kj_8 => ?_) (fun v_7 => ?_)
            · refine mj_b_eq C 65 dX8_owedWhere_50 (by decide) ?_ ?_
              · refine mj_aload_n C 0 dX8_owedWhere_65 (i := 0) rfl rfl ?_
                refine mj_getR C ff_X8_7 dX8_owedWhere_66 sh_84 rfl ?_
                refine mj_iload C 4 dX8_owedWhere_69 rfl ?_
                refine mj_iald C dX8_owedWhere_71 sh_85 ?_
                exact mj_sub [0, 1, 2, 4] rfl (mj_some (kj_8 (h 85 (l4).toNatClampNeg)))
              · refine mj_aload_n C 0 dX8_owedWhere_53 (i := 0) rfl rfl ?_
                refine mj_getR C ff_X8_7 dX8_owedWhere_54 sh_84 rfl ?_
                refine mj_iload C 4 dX8_owedWhere_57 rfl ?_
                refine mj_iald C dX8_owedWhere_59 sh_85 ?_
                refine mj_iconst C (v := 2) dX8_owedWhere_60 rfl ?_
                refine mj_idiv C dX8_owedWhere_61 (by decide) ?_
                refine mj_goto C 72 dX8_owedWhere_62 (by decide) ?_
                exact mj_sub [0, 1, 2, 4] rfl (mj_some (kj_8 ((h 85 (l4).toNatClampNeg) / (2 : Int32))))
            · refine mj_iadd C dX8_owedWhere_72 ?_
              refine mj_istore_nL C (fun l3_9 => [(3, .int l3_9), (0, rf K 84), (1, .int l1), (2, .int l2), (4, .int l4)]) dX8_owedWhere_73 (i := 3) rfl (by decide) rfl (fun l3_9 => ?_)
              exact mj_sub [1, 2, 3, 0, 4] rfl (mj_some (kj_3 l3_9))
      · refine mj_iinc C (l4 + 1) 4 [(4, .int (l4 + 1)), (0, rf K 84), (1, .int l1), (2, .int l2), (3, .int v_2)] dX8_owedWhere_74 rfl rfl (by decide) rfl ?_
        refine mj_goto C 5 dX8_owedWhere_77 (by decide) ?_
        exact mj_sub [1, 2, 3, 4, 0] rfl (ih h l1 l2 v_2 (l4 + 1) kk0)
noncomputable def fX8_owedWhere (h : Mm) (l1 : Int32) (l2 : Int32) : Option (Int32) := md_bd (fX8_owedWhere_5 md_N h l1 l2 (0 : Int32) (0 : Int32)) (fun (v_10 : Int32) => some v_10)
set_option maxRecDepth 100000 in
set_option maxHeartbeats 4000000 in
theorem ctX8_owedWhere (K : Kx) (h : Mm) (l1 : Int32) (l2 : Int32) {a : Int32} (hF : fX8_owedWhere h l1 l2 = some a) : Mt K yX8_owedWhere cX8_owedWhere 5 (some .int) 2 45 SHc [rf K 84, .int l1, .int l2] h (some (.int a)) h := by
  refine Mt.of hF [(0, rf K 84), (1, .int l1), (2, .int l2)] (by decide) (Nat.le_of_ble_eq_true rfl) rfl (fun Y C N => ?_)
  have C : Cx K Y (0, 0) cX8_owedWhere RX8 5 2 45 := C
  unfold fX8_owedWhere
  refine mj_iconst C (v := 0) dX8_owedWhere_0 rfl ?_
  refine mj_istore_n C [(3, .int (0 : Int32)), (0, rf K 84), (1, .int l1), (2, .int l2)] dX8_owedWhere_1 (i := 3) rfl (by decide) rfl ?_
  refine mj_iconst C (v := 0) dX8_owedWhere_2 rfl ?_
  refine mj_istore C [(4, .int (0 : Int32)), (3, .int (0 : Int32)), (0, rf K 84), (1, .int l1), (2, .int l2)] dX8_owedWhere_3 (by decide) rfl ?_
  refine mj_phi1 80 (fun (v_10 : Int32) => [(3, .int v_10)]) (fun (v_10 : Int32) => []) (fun (v_10 : Int32) => h) (fun P' kj_11 => mj_sub [2, 3, 4, 1, 0] rfl (lX8_owedWhere_5 C md_N h l1 l2 (0 : Int32) (0 : Int32) kj_11)) (fun v_10 => ?_)
  refine mj_iload_n C 0 dX8_owedWhere_80 (i := 3) rfl rfl ?_
  exact mj_rI C N dX8_owedWhere_81
noncomputable def fX8_owedFor (h : Mm) (l1 : Int32) : Option (Int32) := md_ck (md_in (0 : Int32) 9) (md_bd (fX8_close h (h 92 ((0 : Int32)).toNatClampNeg)) (fun r_1 => md_bd (fX8_owedWhere h l1 r_1) (fun r_2 => some r_2)))
set_option maxRecDepth 100000 in
set_option maxHeartbeats 4000000 in
theorem ctX8_owedFor (K : Kx) (h : Mm) (l1 : Int32) {a : Int32} (hF : fX8_owedFor h l1 = some a) : Mt K yX8_owedFor cX8_owedFor 2 (some .int) 3 69 SHc [rf K 84, .int l1] h (some (.int a)) h := by
  refine Mt.of hF [(0, rf K 84), (1, .int l1)] (by decide) (Nat.le_of_ble_eq_true rfl) rfl (fun Y C N => ?_)
  have C : Cx K Y (0, 0) cX8_owedFor RX8 2 3 69 := C
  unfold fX8_owedFor
  refine mj_aload_n C 0 dX8_owedFor_0 (i := 0) rfl rfl ?_
  refine mj_iload_n C 1 dX8_owedFor_1 (i := 1) rfl rfl ?_
  refine mj_aload_n C 0 dX8_owedFor_2 (i := 0) rfl rfl ?_
  refine mj_aload_n C 0 dX8_owedFor_3 (i := 0) rfl rfl ?_
  refine mj_getR C ff_X8_31 dX8_owedFor_4 sh_84 rfl ?_
  refine mj_iconst C (v := 0) dX8_owedFor_7 rfl ?_
  refine mj_iald C dX8_owedFor_8 sh_92 ?_
  refine mj_vI C my_X8_close mv_X8_220 dX8_owedFor_9 sh_84 rfl (fun a hF => ctX8_close K h (h 92 ((0 : Int32)).toNatClampNeg)  hF) (by decide) (by decide) rfl rfl (Nat.le_of_ble_eq_true rfl) (fun r_1 => ?_)
  refine mj_vI C my_X8_owedWhere mv_X8_223 dX8_owedFor_12 sh_84 rfl (fun a hF => ctX8_owedWhere K h l1 r_1  hF) (by decide) (by decide) rfl rfl (Nat.le_of_ble_eq_true rfl) (fun r_2 => ?_)
  exact mj_rI C N dX8_owedFor_15
noncomputable def fX8_isGone (h : Mm) (l1 : Int32) : Option (Bool) := md_ck (md_in (1 : Int32) 9) (md_bd (fX8_has h (h 92 ((1 : Int32)).toNatClampNeg) l1) (fun r_1 => some r_1))
set_option maxRecDepth 100000 in
set_option maxHeartbeats 4000000 in
theorem ctX8_isGone (K : Kx) (h : Mm) (l1 : Int32) {a : Bool} (hF : fX8_isGone h l1 = some a) : Mt K yX8_isGone cX8_isGone 2 (some .boolean) 1 21 SHc [rf K 84, .int l1] h (some (.int (md_bi a))) h := by
  refine Mt.of hF [(0, rf K 84), (1, .int l1)] (by decide) (Nat.le_of_ble_eq_true rfl) rfl (fun Y C N => ?_)
  have C : Cx K Y (0, 0) cX8_isGone RX8 2 1 21 := C
  unfold fX8_isGone
  refine mj_aload_n C 0 dX8_isGone_0 (i := 0) rfl rfl ?_
  refine mj_getR C ff_X8_31 dX8_isGone_1 sh_84 rfl ?_
  refine mj_iconst C (v := 1) dX8_isGone_4 rfl ?_
  refine mj_iald C dX8_isGone_5 sh_92 ?_
  refine mj_iload_n C 1 dX8_isGone_6 (i := 1) rfl rfl ?_
  refine mj_sB C my_X8_has ms_X8_160 dX8_isGone_7 (fun a hF => ctX8_has K h (h 92 ((1 : Int32)).toNatClampNeg) l1  hF) (by decide) (by decide) rfl rfl (Nat.le_of_ble_eq_true rfl) (fun r_1 => ?_)
  exact mj_rZ C N dX8_isGone_10
noncomputable def fX8_isStuck (h : Mm) (l1 : Int32) : Option (Bool) := md_ck (md_in ((2 : Int32) + l1) 9) (md_bd (fX8_sizeOf h (h 92 (((2 : Int32) + l1)).toNatClampNeg)) (fun r_1 => md_bd ((if r_1 ≤ (h 84 0) then some false else some true)) (fun (v_2 : Bool) => some v_2)))
set_option maxRecDepth 100000 in
set_option maxHeartbeats 4000000 in
theorem ctX8_isStuck (K : Kx) (h : Mm) (l1 : Int32) {a : Bool} (hF : fX8_isStuck h l1 = some a) : Mt K yX8_isStuck cX8_isStuck 2 (some .boolean) 2 44 SHc [rf K 84, .int l1] h (some (.int (md_bi a))) h := by
  refine Mt.of hF [(0, rf K 84), (1, .int l1)] (by decide) (Nat.le_of_ble_eq_true rfl) rfl (fun Y C N => ?_)
  have C : Cx K Y (0, 0) cX8_isStuck RX8 2 2 44 := C
  unfold fX8_isStuck
  refine mj_aload_n C 0 dX8_isStuck_0 (i := 0) rfl rfl ?_
  refine mj_aload_n C 0 dX8_isStuck_1 (i := 0) rfl rfl ?_
  refine mj_getR C ff_X8_31 dX8_isStuck_2 sh_84 rfl ?_
  refine mj_iconst C (v := 2) dX8_isStuck_5 rfl ?_
  refine mj_iload_n C 1 dX8_isStuck_6 (i := 1) rfl rfl ?_
  refine mj_iadd C dX8_isStuck_7 ?_
  refine mj_iald C dX8_isStuck_8 sh_92 ?_
  refine mj_vI C my_X8_sizeOf mv_X8_226 dX8_isStuck_9 sh_84 rfl (fun a hF => ctX8_sizeOf K h (h 92 (((2 : Int32) + l1)).toNatClampNeg)  hF) (by decide) (by decide) rfl rfl (Nat.le_of_ble_eq_true rfl) (fun r_1 => ?_)
  refine mj_aload_n C 0 dX8_isStuck_12 (i := 0) rfl rfl ?_
  refine mj_getI C ff_X8_99 dX8_isStuck_13 sh_84 rfl ?_
  refine mj_phi1 24 (fun (v_2 : Bool) => []) (fun (v_2 : Bool) => [.int (md_bi v_2)]) (fun (v_2 : Bool) => h) (fun P' kj_3 => ?_) (fun v_2 => ?_)
  · refine mj_icmp_le C 23 dX8_isStuck_16 (by decide) ?_ ?_
    · refine mj_iconst C (v := 0) dX8_isStuck_23 rfl ?_
      exact mj_sub [] rfl (mj_some (kj_3 false))
    · refine mj_iconst C (v := 1) dX8_isStuck_19 rfl ?_
      refine mj_goto C 24 dX8_isStuck_20 (by decide) ?_
      exact mj_sub [] rfl (mj_some (kj_3 true))
  · exact mj_rZ C N dX8_isStuck_24
noncomputable def fX8_stuckOnes_4 : Nat → Mm → Int32 → Int32 → Option (Int32)
  | 0, _, _, _ => none
  | n + 1, h, l1, l2 => (if (h 84 12) ≤ l2 then some l1 else md_bd (fX8_isGone h l2) (fun r_1 => md_bd ((if r_1 = true then some (0 : Int32) else md_bd (fX8_isStuck h l2) (fun r_4 => (if r_4 = true then some ((1 : Int32) <<< (l2 &&& 31)) else some (0 : Int32))))) (fun (v_2 : Int32) => md_lt (l1 ||| v_2) (fun l1_5 : Int32 => fX8_stuckOnes_4 n h l1_5 (l2 + 1)))))
set_option maxRecDepth 100000 in
set_option maxHeartbeats 4000000 in
theorem lX8_stuckOnes_4 {K : Kx} {Y : Yx} {cs : Nat × Nat} (C : Cx K Y cs cX8_stuckOnes RX8 3 3 65) {P : Int32 → Prop} : ∀ (n : Nat) (h : Mm) (l1 : Int32) (l2 : Int32), (∀ (w1 : Int32), J SHc K Y cs (P w1) 44 [(1, .int w1)] [] h) → J SHc K Y cs (mj_O (fX8_stuckOnes_4 n h l1 l2) P) 4 [(0, rf K 84), (1, .int l1), (2, .int l2)] [] h := by
  intro n
  induction n with
  | zero => intro h l1 l2 kk0; exact mj_none
  | succ n ih =>
    intro h l1 l2 kk0
    rw [fX8_stuckOnes_4]
    refine mj_iload_n C 2 dX8_stuckOnes_4 (i := 2) rfl rfl ?_
    refine mj_aload_n C 0 dX8_stuckOnes_5 (i := 0) rfl rfl ?_
    refine mj_getI C ff_X8_110 dX8_stuckOnes_6 sh_84 rfl ?_
    refine mj_icmp_ge C 44 dX8_stuckOnes_9 (by decide) ?_ ?_
    · exact mj_sub [1] rfl (mj_some (kk0 l1))
    · refine mj_iload_n C 1 dX8_stuckOnes_12 (i := 1) rfl rfl ?_
      refine mj_aload_n C 0 dX8_stuckOnes_13 (i := 0) rfl rfl ?_
      refine mj_iload_n C 2 dX8_stuckOnes_14 (i := 2) rfl rfl ?_
      refine mj_vB C my_X8_isGone mv_X8_229 dX8_stuckOnes_15 sh_84 rfl (fun a hF => ctX8_isGone K h l2  hF) (by decide) (by decide) rfl rfl (Nat.le_of_ble_eq_true rfl) (fun r_1 => ?_)
      refine mj_phi1 36 (fun (v_2 : Int32) => [(0, rf K 84), (2, .int l2)]) (fun (v_2 : Int32) => [.int v_2, .int l1]) (fun (v_2 : Int32) => h) (fun P' kj_3 => ?_) (fun v_2 => ?_)
      · refine mj_b_ne C 35 dX8_stuckOnes_18 (by decide) ?_ ?_
        · refine mj_iconst C (v := 0) dX8_stuckOnes_35 rfl ?_
          exact mj_sub [0, 2] rfl (mj_some (kj_3 (0 : Int32)))
        · refine mj_aload_n C 0 dX8_stuckOnes_21 (i := 0) rfl rfl ?_
          refine mj_iload_n C 2 dX8_stuckOnes_22 (i := 2) rfl rfl ?_
          refine mj_vB C my_X8_isStuck mv_X8_232 dX8_stuckOnes_23 sh_84 rfl (fun a hF => ctX8_isStuck K h l2  hF) (by decide) (by decide) rfl rfl (Nat.le_of_ble_eq_true rfl) (fun r_4 => ?_)
          refine mj_b_eq C 35 dX8_stuckOnes_26 (by decide) ?_ ?_
          · refine mj_iconst C (v := 0) dX8_stuckOnes_35 rfl ?_
            exact mj_sub [0, 2] rfl (mj_some (kj_3 (0 : Int32)))
          · refine mj_iconst C (v := 1) dX8_stuckOnes_29 rfl ?_
            refine mj_iload_n C 2 dX8_stuckOnes_30 (i := 2) rfl rfl ?_
            refine mj_ishl C dX8_stuckOnes_31 ?_
            refine mj_goto C 36 dX8_stuckOnes_32 (by decide) ?_
            exact mj_sub [0, 2] rfl (mj_some (kj_3 ((1 : Int32) <<< (l2 &&& 31))))
      · refine mj_ior C dX8_stuckOnes_36 ?_
        refine mj_istore_nL C (fun l1_5 => [(1, .int l1_5), (0, rf K 84), (2, .int l2)]) dX8_stuckOnes_37 (i := 1) rfl (by decide) rfl (fun l1_5 => ?_)
        refine mj_iinc C (l2 + 1) 2 [(2, .int (l2 + 1)), (1, .int l1_5), (0, rf K 84)] dX8_stuckOnes_38 rfl rfl (by decide) rfl ?_
        refine mj_goto C 4 dX8_stuckOnes_41 (by decide) ?_
        exact mj_sub [2, 1, 0] rfl (ih h l1_5 (l2 + 1) kk0)
noncomputable def fX8_stuckOnes (h : Mm) : Option (Int32) := md_bd (fX8_stuckOnes_4 md_N h (0 : Int32) (0 : Int32)) (fun (v_6 : Int32) => some v_6)
set_option maxRecDepth 100000 in
set_option maxHeartbeats 4000000 in
theorem ctX8_stuckOnes (K : Kx) (h : Mm) {a : Int32} (hF : fX8_stuckOnes h = some a) : Mt K yX8_stuckOnes cX8_stuckOnes 3 (some .int) 3 65 SHc [rf K 84] h (some (.int a)) h := by
  refine Mt.of hF [(0, rf K 84)] (by decide) (Nat.le_of_ble_eq_true rfl) rfl (fun Y C N => ?_)
  have C : Cx K Y (0, 0) cX8_stuckOnes RX8 3 3 65 := C
  unfold fX8_stuckOnes
  refine mj_iconst C (v := 0) dX8_stuckOnes_0 rfl ?_
  refine mj_istore_n C [(1, .int (0 : Int32)), (0, rf K 84)] dX8_stuckOnes_1 (i := 1) rfl (by decide) rfl ?_
  refine mj_iconst C (v := 0) dX8_stuckOnes_2 rfl ?_
  refine mj_istore_n C [(2, .int (0 : Int32)), (1, .int (0 : Int32)), (0, rf K 84)] dX8_stuckOnes_3 (i := 2) rfl (by decide) rfl ?_
  refine mj_phi1 44 (fun (v_6 : Int32) => [(1, .int v_6)]) (fun (v_6 : Int32) => []) (fun (v_6 : Int32) => h) (fun P' kj_7 => mj_sub [2, 1, 0] rfl (lX8_stuckOnes_4 C md_N h (0 : Int32) (0 : Int32) kj_7)) (fun v_6 => ?_)
  refine mj_iload_n C 0 dX8_stuckOnes_44 (i := 1) rfl rfl ?_
  exact mj_rI C N dX8_stuckOnes_45
noncomputable def fX8_told (h : Mm) (l1 : Int32) : Option (Int32) := (if l1 = 0 then some (h 84 0) else if l1 = 1 then some (h 84 1) else if l1 = 2 then some (h 84 2) else if l1 = 3 then some (h 84 4) else if l1 = 4 then some (h 84 8) else if l1 = 5 then some (h 84 12) else if l1 = 6 then some (h 84 16) else if l1 = 7 then md_ck (md_in (0 : Int32) 9) (some (h 92 ((0 : Int32)).toNatClampNeg)) else if l1 = 8 then md_ck (md_in (0 : Int32) 9) (md_bd (fX8_close h (h 92 ((0 : Int32)).toNatClampNeg)) (fun r_1 => some r_1)) else if l1 = 9 then md_ck (md_in (1 : Int32) 9) (some (h 92 ((1 : Int32)).toNatClampNeg)) else if l1 = 10 then md_bd (fX8_stuckOnes h) (fun r_2 => some r_2) else if l1 = 11 then md_ck (md_in (7 : Int32) 9) (some (h 92 ((7 : Int32)).toNatClampNeg)) else if l1 = 12 then md_ck (md_in (8 : Int32) 9) (some (h 92 ((8 : Int32)).toNatClampNeg)) else if l1 = 13 then some (h 84 38) else if l1 = 14 then some (h 84 43) else if l1 = 15 then some (h 84 35) else some (-1000000002 : Int32))
set_option maxRecDepth 100000 in
set_option maxHeartbeats 4000000 in
theorem ctX8_told (K : Kx) (h : Mm) (l1 : Int32) {a : Int32} (hF : fX8_told h l1 = some a) : Mt K yX8_told cX8_told 2 (some .int) 4 87 SHc [rf K 84, .int l1] h (some (.int a)) h := by
  refine Mt.of hF [(0, rf K 84), (1, .int l1)] (by decide) (Nat.le_of_ble_eq_true rfl) rfl (fun Y C N => ?_)
  have C : Cx K Y (0, 0) cX8_told RX8 2 4 87 := C
  unfold fX8_told
  refine mj_iload_n C 1 dX8_told_0 (i := 1) rfl rfl ?_
  refine mj_sw0 ?_
  refine mj_tcase C 0 80 dX8_told_1 (by decide) (by decide) rfl (by decide) ?_ ?_
  · refine mj_aload_n C 0 dX8_told_80 (i := 0) rfl rfl ?_
    refine mj_getI C ff_X8_99 dX8_told_81 sh_84 rfl ?_
    exact mj_rI C N dX8_told_84
  refine mj_tcase C 1 85 dX8_told_1 (by decide) (by decide) rfl (by decide) ?_ ?_
  · refine mj_aload_n C 0 dX8_told_85 (i := 0) rfl rfl ?_
    refine mj_getI C ff_X8_196 dX8_told_86 sh_84 rfl ?_
    exact mj_rI C N dX8_told_89
  refine mj_tcase C 2 90 dX8_told_1 (by decide) (by decide) rfl (by decide) ?_ ?_
  · refine mj_aload_n C 0 dX8_told_90 (i := 0) rfl rfl ?_
    refine mj_getI C ff_X8_103 dX8_told_91 sh_84 rfl ?_
    exact mj_rI C N dX8_told_94
  refine mj_tcase C 3 95 dX8_told_1 (by decide) (by decide) rfl (by decide) ?_ ?_
  · refine mj_aload_n C 0 dX8_told_95 (i := 0) rfl rfl ?_
    refine mj_getI C ff_X8_199 dX8_told_96 sh_84 rfl ?_
    exact mj_rI C N dX8_told_99
  refine mj_tcase C 4 100 dX8_told_1 (by decide) (by decide) rfl (by decide) ?_ ?_
  · refine mj_aload_n C 0 dX8_told_100 (i := 0) rfl rfl ?_
    refine mj_getI C ff_X8_202 dX8_told_101 sh_84 rfl ?_
    exact mj_rI C N dX8_told_104
  refine mj_tcase C 5 105 dX8_told_1 (by decide) (by decide) rfl (by decide) ?_ ?_
  · refine mj_aload_n C 0 dX8_told_105 (i := 0) rfl rfl ?_
    refine mj_getI C ff_X8_110 dX8_told_106 sh_84 rfl ?_
    exact mj_rI C N dX8_told_109
  refine mj_tcase C 6 110 dX8_told_1 (by decide) (by decide) rfl (by decide) ?_ ?_
  · refine mj_aload_n C 0 dX8_told_110 (i := 0) rfl rfl ?_
    refine mj_getI C ff_X8_116 dX8_told_111 sh_84 rfl ?_
    exact mj_rI C N dX8_told_114
  refine mj_tcase C 7 115 dX8_told_1 (by decide) (by decide) rfl (by decide) ?_ ?_
  · refine mj_aload_n C 0 dX8_told_115 (i := 0) rfl rfl ?_
    refine mj_getR C ff_X8_31 dX8_told_116 sh_84 rfl ?_
    refine mj_iconst C (v := 0) dX8_told_119 rfl ?_
    refine mj_iald C dX8_told_120 sh_92 ?_
    exact mj_rI C N dX8_told_121
  refine mj_tcase C 8 122 dX8_told_1 (by decide) (by decide) rfl (by decide) ?_ ?_
  · refine mj_aload_n C 0 dX8_told_122 (i := 0) rfl rfl ?_
    refine mj_aload_n C 0 dX8_told_123 (i := 0) rfl rfl ?_
    refine mj_getR C ff_X8_31 dX8_told_124 sh_84 rfl ?_
    refine mj_iconst C (v := 0) dX8_told_127 rfl ?_
    refine mj_iald C dX8_told_128 sh_92 ?_
    refine mj_vI C my_X8_close mv_X8_220 dX8_told_129 sh_84 rfl (fun a hF => ctX8_close K h (h 92 ((0 : Int32)).toNatClampNeg)  hF) (by decide) (by decide) rfl rfl (Nat.le_of_ble_eq_true rfl) (fun r_1 => ?_)
    exact mj_rI C N dX8_told_132
  refine mj_tcase C 9 133 dX8_told_1 (by decide) (by decide) rfl (by decide) ?_ ?_
  · refine mj_aload_n C 0 dX8_told_133 (i := 0) rfl rfl ?_
    refine mj_getR C ff_X8_31 dX8_told_134 sh_84 rfl ?_
    refine mj_iconst C (v := 1) dX8_told_137 rfl ?_
    refine mj_iald C dX8_told_138 sh_92 ?_
    exact mj_rI C N dX8_told_139
  refine mj_tcase C 10 140 dX8_told_1 (by decide) (by decide) rfl (by decide) ?_ ?_
  · refine mj_aload_n C 0 dX8_told_140 (i := 0) rfl rfl ?_
    refine mj_vI C my_X8_stuckOnes mv_X8_235 dX8_told_141 sh_84 rfl (fun a hF => ctX8_stuckOnes K h   hF) (by decide) (by decide) rfl rfl (Nat.le_of_ble_eq_true rfl) (fun r_2 => ?_)
    exact mj_rI C N dX8_told_144
  refine mj_tcase C 11 145 dX8_told_1 (by decide) (by decide) rfl (by decide) ?_ ?_
  · refine mj_aload_n C 0 dX8_told_145 (i := 0) rfl rfl ?_
    refine mj_getR C ff_X8_31 dX8_told_146 sh_84 rfl ?_
    refine mj_bipush C (v := 7) dX8_told_149 rfl ?_
    refine mj_iald C dX8_told_151 sh_92 ?_
    exact mj_rI C N dX8_told_152
  refine mj_tcase C 12 153 dX8_told_1 (by decide) (by decide) rfl (by decide) ?_ ?_
  · refine mj_aload_n C 0 dX8_told_153 (i := 0) rfl rfl ?_
    refine mj_getR C ff_X8_31 dX8_told_154 sh_84 rfl ?_
    refine mj_bipush C (v := 8) dX8_told_157 rfl ?_
    refine mj_iald C dX8_told_159 sh_92 ?_
    exact mj_rI C N dX8_told_160
  refine mj_tcase C 13 161 dX8_told_1 (by decide) (by decide) rfl (by decide) ?_ ?_
  · refine mj_aload_n C 0 dX8_told_161 (i := 0) rfl rfl ?_
    refine mj_getI C ff_X8_211 dX8_told_162 sh_84 rfl ?_
    exact mj_rI C N dX8_told_165
  refine mj_tcase C 14 166 dX8_told_1 (by decide) (by decide) rfl (by decide) ?_ ?_
  · refine mj_aload_n C 0 dX8_told_166 (i := 0) rfl rfl ?_
    refine mj_getI C ff_X8_214 dX8_told_167 sh_84 rfl ?_
    exact mj_rI C N dX8_told_170
  refine mj_tcase C 15 171 dX8_told_1 (by decide) (by decide) rfl (by decide) ?_ ?_
  · refine mj_aload_n C 0 dX8_told_171 (i := 0) rfl rfl ?_
    refine mj_getI C ff_X8_217 dX8_told_172 sh_84 rfl ?_
    exact mj_rI C N dX8_told_175
  refine mj_tdflt2 C 176 16 dX8_told_1 (by decide) (by decide) (by decide) ?_
  refine mj_ldc C kc_X8_115 dX8_told_176 ?_
  exact mj_rI C N dX8_told_178
noncomputable def fX8_size (h : Mm) (l1 : Int32) : Option (Int32) := md_bd (fX8_isIdea h l1) (fun r_1 => md_bd ((if r_1 = true then md_ck (md_in l1 8) (some (h 85 (l1).toNatClampNeg)) else some (-1000000001 : Int32))) (fun (v_2 : Int32) => some v_2))
set_option maxRecDepth 100000 in
set_option maxHeartbeats 4000000 in
theorem ctX8_size (K : Kx) (h : Mm) (l1 : Int32) {a : Int32} (hF : fX8_size h l1 = some a) : Mt K yX8_size cX8_size 2 (some .int) 2 46 SHc [rf K 84, .int l1] h (some (.int a)) h := by
  refine Mt.of hF [(0, rf K 84), (1, .int l1)] (by decide) (Nat.le_of_ble_eq_true rfl) rfl (fun Y C N => ?_)
  have C : Cx K Y (0, 0) cX8_size RX8 2 2 46 := C
  unfold fX8_size
  refine mj_aload_n C 0 dX8_size_0 (i := 0) rfl rfl ?_
  refine mj_iload_n C 1 dX8_size_1 (i := 1) rfl rfl ?_
  refine mj_vB C my_X8_isIdea mv_X8_238 dX8_size_2 sh_84 rfl (fun a hF => ctX8_isIdea K h l1  hF) (by decide) (by decide) rfl rfl (Nat.le_of_ble_eq_true rfl) (fun r_1 => ?_)
  refine mj_phi1 19 (fun (v_2 : Int32) => []) (fun (v_2 : Int32) => [.int v_2]) (fun (v_2 : Int32) => h) (fun P' kj_3 => ?_) (fun v_2 => ?_)
  · refine mj_b_eq C 17 dX8_size_5 (by decide) ?_ ?_
    · refine mj_ldc C kc_X8_241 dX8_size_17 ?_
      exact mj_sub [] rfl (mj_some (kj_3 (-1000000001 : Int32)))
    · refine mj_aload_n C 0 dX8_size_8 (i := 0) rfl rfl ?_
      refine mj_getR C ff_X8_7 dX8_size_9 sh_84 rfl ?_
      refine mj_iload_n C 1 dX8_size_12 (i := 1) rfl rfl ?_
      refine mj_iald C dX8_size_13 sh_85 ?_
      refine mj_goto C 19 dX8_size_14 (by decide) ?_
      exact mj_sub [] rfl (mj_some (kj_3 (h 85 (l1).toNatClampNeg)))
  · exact mj_rI C N dX8_size_19
noncomputable def fX8_traveller (h : Mm) (l1 : Int32) (l2 : Int32) : Option (Int32) := md_bd (fX8_isTraveller h l1) (fun r_1 => (if r_1 = true then (if l2 = 0 then md_ck (md_in ((2 : Int32) + l1) 9) (some (h 92 (((2 : Int32) + l1)).toNatClampNeg)) else if l2 = 1 then md_ck (md_in ((2 : Int32) + l1) 9) (md_bd (fX8_sizeOf h (h 92 (((2 : Int32) + l1)).toNatClampNeg)) (fun r_2 => some r_2)) else if l2 = 2 then md_ck (md_in ((2 : Int32) + l1) 9) (md_bd (fX8_owedFor h (h 92 (((2 : Int32) + l1)).toNatClampNeg)) (fun r_3 => some r_3)) else if l2 = 3 then md_bd (fX8_isGone h l1) (fun r_4 => md_bd ((if r_4 = true then some true else some false)) (fun (v_5 : Bool) => some (md_bi v_5))) else some (-1000000002 : Int32)) else some (-1000000001 : Int32)))
set_option maxRecDepth 100000 in
set_option maxHeartbeats 4000000 in
theorem ctX8_traveller (K : Kx) (h : Mm) (l1 : Int32) (l2 : Int32) {a : Int32} (hF : fX8_traveller h l1 l2 = some a) : Mt K yX8_traveller cX8_traveller 3 (some .int) 4 90 SHc [rf K 84, .int l1, .int l2] h (some (.int a)) h := by
  refine Mt.of hF [(0, rf K 84), (1, .int l1), (2, .int l2)] (by decide) (Nat.le_of_ble_eq_true rfl) rfl (fun Y C N => ?_)
  have C : Cx K Y (0, 0) cX8_traveller RX8 3 4 90 := C
  unfold fX8_traveller
  refine mj_aload_n C 0 dX8_traveller_0 (i := 0) rfl rfl ?_
  refine mj_iload_n C 1 dX8_traveller_1 (i := 1) rfl rfl ?_
  refine mj_vB C my_X8_isTraveller mv_X8_242 dX8_traveller_2 sh_84 rfl (fun a hF => ctX8_isTraveller K h l1  hF) (by decide) (by decide) rfl rfl (Nat.le_of_ble_eq_true rfl) (fun r_1 => ?_)
  refine mj_b_ne C 11 dX8_traveller_5 (by decide) ?_ ?_
  · refine mj_iload_n C 2 dX8_traveller_11 (i := 2) rfl rfl ?_
    refine mj_sw0 ?_
    refine mj_tcase C 0 44 dX8_traveller_12 (by decide) (by decide) rfl (by decide) ?_ ?_
    · refine mj_aload_n C 0 dX8_traveller_44 (i := 0) rfl rfl ?_
      refine mj_getR C ff_X8_31 dX8_traveller_45 sh_84 rfl ?_
      refine mj_iconst C (v := 2) dX8_traveller_48 rfl ?_
      refine mj_iload_n C 1 dX8_traveller_49 (i := 1) rfl rfl ?_
      refine mj_iadd C dX8_traveller_50 ?_
      refine mj_iald C dX8_traveller_51 sh_92 ?_
      exact mj_rI C N dX8_traveller_52
    refine mj_tcase C 1 53 dX8_traveller_12 (by decide) (by decide) rfl (by decide) ?_ ?_
    · refine mj_aload_n C 0 dX8_traveller_53 (i := 0) rfl rfl ?_
      refine mj_aload_n C 0 dX8_traveller_54 (i := 0) rfl rfl ?_
      refine mj_getR C ff_X8_31 dX8_traveller_55 sh_84 rfl ?_
      refine mj_iconst C (v := 2) dX8_traveller_58 rfl ?_
      refine mj_iload_n C 1 dX8_traveller_59 (i := 1) rfl rfl ?_
      refine mj_iadd C dX8_traveller_60 ?_
      refine mj_iald C dX8_traveller_61 sh_92 ?_
      refine mj_vI C my_X8_sizeOf mv_X8_226 dX8_traveller_62 sh_84 rfl (fun a hF => ctX8_sizeOf K h (h 92 (((2 : Int32) + l1)).toNatClampNeg)  hF) (by decide) (by decide) rfl rfl (Nat.le_of_ble_eq_true rfl) (fun r_2 => ?_)
      exact mj_rI C N dX8_traveller_65
    refine mj_tcase C 2 66 dX8_traveller_12 (by decide) (by decide) rfl (by decide) ?_ ?_
    · refine mj_aload_n C 0 dX8_traveller_66 (i := 0) rfl rfl ?_
      refine mj_aload_n C 0 dX8_traveller_67 (i := 0) rfl rfl ?_
      refine mj_getR C ff_X8_31 dX8_traveller_68 sh_84 rfl ?_
      refine mj_iconst C (v := 2) dX8_traveller_71 rfl ?_
      refine mj_iload_n C 1 dX8_traveller_72 (i := 1) rfl rfl ?_
      refine mj_iadd C dX8_traveller_73 ?_
      refine mj_iald C dX8_traveller_74 sh_92 ?_
      refine mj_vI C my_X8_owedFor mv_X8_245 dX8_traveller_75 sh_84 rfl (fun a hF => ctX8_owedFor K h (h 92 (((2 : Int32) + l1)).toNatClampNeg)  hF) (by decide) (by decide) rfl rfl (Nat.le_of_ble_eq_true rfl) (fun r_3 => ?_)
      exact mj_rI C N dX8_traveller_78
    refine mj_tcase C 3 79 dX8_traveller_12 (by decide) (by decide) rfl (by decide) ?_ ?_
    · refine mj_aload_n C 0 dX8_traveller_79 (i := 0) rfl rfl ?_
      refine mj_iload_n C 1 dX8_traveller_80 (i := 1) rfl rfl ?_
      refine mj_vB C my_X8_isGone mv_X8_229 dX8_traveller_81 sh_84 rfl (fun a hF => ctX8_isGone K h l1  hF) (by decide) (by decide) rfl rfl (Nat.le_of_ble_eq_true rfl) (fun r_4 => ?_)
      refine mj_phi1 92 (fun (v_5 : Bool) => []) (fun (v_5 : Bool) => [.int (md_bi v_5)]) (fun (v_5 : Bool) => h) (fun P' kj_6 => ?_) (fun v_5 => ?_)
      · refine mj_b_eq C 91 dX8_traveller_84 (by decide) ?_ ?_
        · refine mj_iconst C (v := 0) dX8_traveller_91 rfl ?_
          exact mj_sub [] rfl (mj_some (kj_6 false))
        · refine mj_iconst C (v := 1) dX8_traveller_87 rfl ?_
          refine mj_goto C 92 dX8_traveller_88 (by decide) ?_
          exact mj_sub [] rfl (mj_some (kj_6 true))
      · exact mj_rI C N dX8_traveller_92
    refine mj_tdflt2 C 93 4 dX8_traveller_12 (by decide) (by decide) (by decide) ?_
    refine mj_ldc C kc_X8_115 dX8_traveller_93 ?_
    exact mj_rI C N dX8_traveller_95
  · refine mj_ldc C kc_X8_241 dX8_traveller_8 ?_
    exact mj_rI C N dX8_traveller_10
noncomputable def fX8_remember_12 : Nat → Mm → Int32 → Option (Mm)
  | 0, _, _ => none
  | n + 1, h, l1 => (if (180 : Int32) ≤ l1 then some h else md_ck (md_in l1 180) (md_ck (md_in (l1 - (9 : Int32)) 180) (md_lt (md_up h 103 ((l1 - (9 : Int32))).toNatClampNeg (h 103 (l1).toNatClampNeg)) (fun h_1 : Mm => fX8_remember_12 n h_1 (l1 + 1)))))
set_option maxRecDepth 100000 in
set_option maxHeartbeats 4000000 in
theorem lX8_remember_12 {K : Kx} {Y : Yx} {cs : Nat × Nat} (C : Cx K Y cs cX8_remember RX8 2 0 0) {P : Mm → Prop} : ∀ (n : Nat) (h : Mm) (l1 : Int32), (∀ (hw : Mm), J SHc K Y cs (P hw) 40 [(0, rf K 84)] [] hw) → J SHc K Y cs (mj_O (fX8_remember_12 n h l1) P) 12 [(0, rf K 84), (1, .int l1)] [] h := by
  intro n
  induction n with
  | zero => intro h l1 kk0; exact mj_none
  | succ n ih =>
    intro h l1 kk0
    rw [fX8_remember_12]
    refine mj_iload_n C 1 dX8_remember_12 (i := 1) rfl rfl ?_
    refine mj_sipush C (v := 180) dX8_remember_13 rfl ?_
    refine mj_icmp_ge C 40 dX8_remember_16 (by decide) ?_ ?_
    · exact mj_sub [0] rfl (mj_some (kk0 h))
    · refine mj_aload_n C 0 dX8_remember_19 (i := 0) rfl rfl ?_
      refine mj_getR C ff_X8_68 dX8_remember_20 sh_84 rfl ?_
      refine mj_iload_n C 1 dX8_remember_23 (i := 1) rfl rfl ?_
      refine mj_bipush C (v := 9) dX8_remember_24 rfl ?_
      refine mj_isub C dX8_remember_26 ?_
      refine mj_aload_n C 0 dX8_remember_27 (i := 0) rfl rfl ?_
      refine mj_getR C ff_X8_68 dX8_remember_28 sh_84 rfl ?_
      refine mj_iload_n C 1 dX8_remember_31 (i := 1) rfl rfl ?_
      refine mj_iald C dX8_remember_32 sh_103 ?_
      refine mj_iast C dX8_remember_33 sh_103 (fun h_1 => ?_)
      refine mj_iinc C (l1 + 1) 1 [(1, .int (l1 + 1)), (0, rf K 84)] dX8_remember_34 rfl rfl (by decide) rfl ?_
      refine mj_goto C 12 dX8_remember_37 (by decide) ?_
      exact mj_sub [1, 0] rfl (ih h_1 (l1 + 1) kk0)
noncomputable def fX8_remember_52 : Nat → Mm → Int32 → Option (Mm)
  | 0, _, _ => none
  | n + 1, h, l1 => (if (9 : Int32) ≤ l1 then some h else md_ck (md_in l1 9) (md_ck (md_in (((9 : Int32) * (h 84 35)) + l1) 180) (md_lt (md_up h 103 ((((9 : Int32) * (h 84 35)) + l1)).toNatClampNeg (h 92 (l1).toNatClampNeg)) (fun h_6 : Mm => fX8_remember_52 n h_6 (l1 + 1)))))
set_option maxRecDepth 100000 in
set_option maxHeartbeats 4000000 in
theorem lX8_remember_52 {K : Kx} {Y : Yx} {cs : Nat × Nat} (C : Cx K Y cs cX8_remember RX8 2 0 0) {P : Mm → Prop} : ∀ (n : Nat) (h : Mm) (l1 : Int32), (∀ (hw : Mm), J SHc K Y cs (P hw) 84 [(0, rf K 84)] [] hw) → J SHc K Y cs (mj_O (fX8_remember_52 n h l1) P) 52 [(0, rf K 84), (1, .int l1)] [] h := by
  intro n
  induction n with
  | zero => intro h l1 kk0; exact mj_none
  | succ n ih =>
    intro h l1 kk0
    rw [fX8_remember_52]
    refine mj_iload_n C 1 dX8_remember_52 (i := 1) rfl rfl ?_
    refine mj_bipush C (v := 9) dX8_remember_53 rfl ?_
    refine mj_icmp_ge C 84 dX8_remember_55 (by decide) ?_ ?_
    · exact mj_sub [0] rfl (mj_some (kk0 h))
    · refine mj_aload_n C 0 dX8_remember_58 (i := 0) rfl rfl ?_
      refine mj_getR C ff_X8_68 dX8_remember_59 sh_84 rfl ?_
      refine mj_bipush C (v := 9) dX8_remember_62 rfl ?_
      refine mj_aload_n C 0 dX8_remember_64 (i := 0) rfl rfl ?_
      refine mj_getI C ff_X8_217 dX8_remember_65 sh_84 rfl ?_
      refine mj_imul C dX8_remember_68 ?_
      refine mj_iload_n C 1 dX8_remember_69 (i := 1) rfl rfl ?_
      refine mj_iadd C dX8_remember_70 ?_
      refine mj_aload_n C 0 dX8_remember_71 (i := 0) rfl rfl ?_
      refine mj_getR C ff_X8_31 dX8_remember_72 sh_84 rfl ?_
      refine mj_iload_n C 1 dX8_remember_75 (i := 1) rfl rfl ?_
      refine mj_iald C dX8_remember_76 sh_92 ?_
      refine mj_iast C dX8_remember_77 sh_103 (fun h_6 => ?_)
      refine mj_iinc C (l1 + 1) 1 [(1, .int (l1 + 1)), (0, rf K 84)] dX8_remember_78 rfl rfl (by decide) rfl ?_
      refine mj_goto C 52 dX8_remember_81 (by decide) ?_
      exact mj_sub [1, 0] rfl (ih h_6 (l1 + 1) kk0)
noncomputable def fX8_remember (h : Mm) : Option (Mm) := md_bd ((if (h 84 35) = (20 : Int32) then md_bd (fX8_remember_12 md_N h (9 : Int32)) (fun (h_3 : Mm) => md_lt (md_up h_3 84 35 ((h_3 84 35) - (1 : Int32))) (fun h_4 : Mm => some h_4)) else some h)) (fun (h_1 : Mm) => md_bd (fX8_remember_52 md_N h_1 (0 : Int32)) (fun (h_7 : Mm) => md_lt (md_up h_7 84 35 ((h_7 84 35) + (1 : Int32))) (fun h_8 : Mm => some h_8)))
set_option maxRecDepth 100000 in
set_option maxHeartbeats 4000000 in
theorem ctX8_remember (K : Kx) (h : Mm) {a : Mm} (hF : fX8_remember h = some a) : Mt K yX8_remember cX8_remember 2 none 0 0 SHc [rf K 84] h none a := by
  refine Mt.of hF [(0, rf K 84)] (by decide) (Nat.le_of_ble_eq_true rfl) rfl (fun Y C N => ?_)
  have C : Cx K Y (0, 0) cX8_remember RX8 2 0 0 := C
  unfold fX8_remember
  refine mj_aload_n C 0 dX8_remember_0 (i := 0) rfl rfl ?_
  refine mj_getI C ff_X8_217 dX8_remember_1 sh_84 rfl ?_
  refine mj_bipush C (v := 20) dX8_remember_4 rfl ?_
  refine mj_phi1 50 (fun (h_1 : Mm) => [(0, rf K 84)]) (fun (h_1 : Mm) => []) (fun (h_1 : Mm) => h_1) (fun P' kj_2 => ?_) (fun h_1 => ?_)
  · refine mj_icmp_ne C 50 dX8_remember_6 (by decide) ?_ ?_
    · exact mj_sub [0] rfl (mj_some (kj_2 h))
    · refine mj_bipush C (v := 9) dX8_remember_9 rfl ?_
      refine mj_istore_n C [(1, .int (9 : Int32)), (0, rf K 84)] dX8_remember_11 (i := 1) rfl (by decide) rfl ?_
      refine mj_phi1 40 (fun (h_3 : Mm) => [(0, rf K 84)]) (fun (h_3 : Mm) => []) (fun (h_3 : Mm) => h_3) (fun P' kj_5 => mj_sub [1, 0] rfl (lX8_remember_12 C md_N h (9 : Int32) kj_5)) (fun h_3 => ?_)
      refine mj_aload_n C 0 dX8_remember_40 (i := 0) rfl rfl ?_
      refine mj_dup C dX8_remember_41 rfl ?_
      refine mj_getI C ff_X8_217 dX8_remember_42 sh_84 rfl ?_
      refine mj_iconst C (v := 1) dX8_remember_45 rfl ?_
      refine mj_isub C dX8_remember_46 ?_
      refine mj_putL C fp_X8_217 dX8_remember_47 sh_84 rfl rfl rfl (fun h_4 => ?_)
      exact mj_sub [0] rfl (mj_some (kj_2 h_4))
  · refine mj_iconst C (v := 0) dX8_remember_50 rfl ?_
    refine mj_istore_n C [(1, .int (0 : Int32)), (0, rf K 84)] dX8_remember_51 (i := 1) rfl (by decide) rfl ?_
    refine mj_phi1 84 (fun (h_7 : Mm) => [(0, rf K 84)]) (fun (h_7 : Mm) => []) (fun (h_7 : Mm) => h_7) (fun P' kj_9 => mj_sub [1, 0] rfl (lX8_remember_52 C md_N h_1 (0 : Int32) kj_9)) (fun h_7 => ?_)
    refine mj_aload_n C 0 dX8_remember_84 (i := 0) rfl rfl ?_
    refine mj_dup C dX8_remember_85 rfl ?_
    refine mj_getI C ff_X8_217 dX8_remember_86 sh_84 rfl ?_
    refine mj_iconst C (v := 1) dX8_remember_89 rfl ?_
    refine mj_iadd C dX8_remember_90 ?_
    refine mj_putL C fp_X8_217 dX8_remember_91 sh_84 rfl rfl rfl (fun h_8 => ?_)
    exact mj_rV C N dX8_remember_94
noncomputable def fX8_passNow (h : Mm) (l1 : Int32) : Option (Int32 × Mm) := md_ck (md_in ((2 : Int32) + l1) 9) (md_bd (fX8_owedFor h (h 92 (((2 : Int32) + l1)).toNatClampNeg)) (fun r_1 => md_ck (md_in (7 : Int32) 9) (md_bd (fX8_atMost h ((h 92 ((7 : Int32)).toNatClampNeg) + r_1)) (fun r_2 => md_ck (md_in (7 : Int32) 9) (md_lt (md_up h 92 ((7 : Int32)).toNatClampNeg r_2) (fun h_3 : Mm => md_ck (md_in (0 : Int32) 9) (md_ck (md_in ((2 : Int32) + l1) 9) (md_ck (md_in (0 : Int32) 9) (md_lt (md_up h_3 92 ((0 : Int32)).toNatClampNeg ((h_3 92 ((0 : Int32)).toNatClampNeg) ||| (h_3 92 (((2 : Int32) + l1)).toNatClampNeg))) (fun h_4 : Mm => md_ck (md_in (1 : Int32) 9) (md_ck (md_in (1 : Int32) 9) (md_lt (md_up h_4 92 ((1 : Int32)).toNatClampNeg ((h_4 92 ((1 : Int32)).toNatClampNeg) ||| ((1 : Int32) <<< (l1 &&& 31)))) (fun h_5 : Mm => some (r_1, h_5))))))))))))))
set_option maxRecDepth 100000 in
set_option maxHeartbeats 4000000 in
theorem ctX8_passNow (K : Kx) (h : Mm) (l1 : Int32) {a : Int32 × Mm} (hF : fX8_passNow h l1 = some a) : Mt K yX8_passNow cX8_passNow 3 (some .int) 4 90 SHc [rf K 84, .int l1] h (some (.int a.1)) a.2 := by
  refine Mt.of hF [(0, rf K 84), (1, .int l1)] (by decide) (Nat.le_of_ble_eq_true rfl) rfl (fun Y C N => ?_)
  have C : Cx K Y (0, 0) cX8_passNow RX8 3 4 90 := C
  unfold fX8_passNow
  refine mj_aload_n C 0 dX8_passNow_0 (i := 0) rfl rfl ?_
  refine mj_aload_n C 0 dX8_passNow_1 (i := 0) rfl rfl ?_
  refine mj_getR C ff_X8_31 dX8_passNow_2 sh_84 rfl ?_
  refine mj_iconst C (v := 2) dX8_passNow_5 rfl ?_
  refine mj_iload_n C 1 dX8_passNow_6 (i := 1) rfl rfl ?_
  refine mj_iadd C dX8_passNow_7 ?_
  refine mj_iald C dX8_passNow_8 sh_92 ?_
  refine mj_vI C my_X8_owedFor mv_X8_245 dX8_passNow_9 sh_84 rfl (fun a hF => ctX8_owedFor K h (h 92 (((2 : Int32) + l1)).toNatClampNeg)  hF) (by decide) (by decide) rfl rfl (Nat.le_of_ble_eq_true rfl) (fun r_1 => ?_)
  refine mj_istore_n C [(2, .int r_1), (0, rf K 84), (1, .int l1)] dX8_passNow_12 (i := 2) rfl (by decide) rfl ?_
  refine mj_aload_n C 1 dX8_passNow_13 (i := 0) rfl rfl ?_
  refine mj_getR C ff_X8_31 dX8_passNow_14 sh_84 rfl ?_
  refine mj_bipush C (v := 7) dX8_passNow_17 rfl ?_
  refine mj_aload_n C 1 dX8_passNow_19 (i := 0) rfl rfl ?_
  refine mj_getR C ff_X8_31 dX8_passNow_20 sh_84 rfl ?_
  refine mj_bipush C (v := 7) dX8_passNow_23 rfl ?_
  refine mj_iald C dX8_passNow_25 sh_92 ?_
  refine mj_iload_n C 0 dX8_passNow_26 (i := 2) rfl rfl ?_
  refine mj_iadd C dX8_passNow_27 ?_
  refine mj_sI C my_X8_atMost ms_X8_248 dX8_passNow_28 (fun a hF => ctX8_atMost K h ((h 92 ((7 : Int32)).toNatClampNeg) + r_1)  hF) (by decide) (by decide) rfl rfl (Nat.le_of_ble_eq_true rfl) (fun r_2 => ?_)
  refine mj_iast C dX8_passNow_31 sh_92 (fun h_3 => ?_)
  refine mj_aload_n C 1 dX8_passNow_32 (i := 0) rfl rfl ?_
  refine mj_getR C ff_X8_31 dX8_passNow_33 sh_84 rfl ?_
  refine mj_iconst C (v := 0) dX8_passNow_36 rfl ?_
  refine mj_dup2 C dX8_passNow_37 rfl rfl ?_
  refine mj_iald C dX8_passNow_38 sh_92 ?_
  refine mj_aload_n C 1 dX8_passNow_39 (i := 0) rfl rfl ?_
  refine mj_getR C ff_X8_31 dX8_passNow_40 sh_84 rfl ?_
  refine mj_iconst C (v := 2) dX8_passNow_43 rfl ?_
  refine mj_iload_n C 2 dX8_passNow_44 (i := 1) rfl rfl ?_
  refine mj_iadd C dX8_passNow_45 ?_
  refine mj_iald C dX8_passNow_46 sh_92 ?_
  refine mj_ior C dX8_passNow_47 ?_
  refine mj_iast C dX8_passNow_48 sh_92 (fun h_4 => ?_)
  refine mj_aload_n C 1 dX8_passNow_49 (i := 0) rfl rfl ?_
  refine mj_getR C ff_X8_31 dX8_passNow_50 sh_84 rfl ?_
  refine mj_iconst C (v := 1) dX8_passNow_53 rfl ?_
  refine mj_dup2 C dX8_passNow_54 rfl rfl ?_
  refine mj_iald C dX8_passNow_55 sh_92 ?_
  refine mj_iconst C (v := 1) dX8_passNow_56 rfl ?_
  refine mj_iload_n C 2 dX8_passNow_57 (i := 1) rfl rfl ?_
  refine mj_ishl C dX8_passNow_58 ?_
  refine mj_ior C dX8_passNow_59 ?_
  refine mj_iast C dX8_passNow_60 sh_92 (fun h_5 => ?_)
  refine mj_iload_n C 0 dX8_passNow_61 (i := 2) rfl rfl ?_
  exact mj_rIM C N dX8_passNow_62
noncomputable def fX8_pass (h : Mm) (l1 : Int32) : Option (Int32 × Mm) := md_bd (fX8_isTraveller h l1) (fun r_1 => (if r_1 = true then md_bd (fX8_isGone h l1) (fun r_2 => (if r_2 = true then some ((-1000000003 : Int32), h) else md_bd (fX8_isStuck h l1) (fun r_3 => (if r_3 = true then some ((-1000000003 : Int32), h) else md_bd (fX8_remember h) (fun h_4 => md_b2 (fX8_passNow h_4 l1) (fun r_5 h_6 => some (r_5, h_6))))))) else some ((-1000000001 : Int32), h)))
set_option maxRecDepth 100000 in
set_option maxHeartbeats 4000000 in
theorem ctX8_pass (K : Kx) (h : Mm) (l1 : Int32) {a : Int32 × Mm} (hF : fX8_pass h l1 = some a) : Mt K yX8_pass cX8_pass 2 (some .int) 5 112 SHc [rf K 84, .int l1] h (some (.int a.1)) a.2 := by
  refine Mt.of hF [(0, rf K 84), (1, .int l1)] (by decide) (Nat.le_of_ble_eq_true rfl) rfl (fun Y C N => ?_)
  have C : Cx K Y (0, 0) cX8_pass RX8 2 5 112 := C
  unfold fX8_pass
  refine mj_aload_n C 0 dX8_pass_0 (i := 0) rfl rfl ?_
  refine mj_iload_n C 1 dX8_pass_1 (i := 1) rfl rfl ?_
  refine mj_vB C my_X8_isTraveller mv_X8_242 dX8_pass_2 sh_84 rfl (fun a hF => ctX8_isTraveller K h l1  hF) (by decide) (by decide) rfl rfl (Nat.le_of_ble_eq_true rfl) (fun r_1 => ?_)
  refine mj_b_ne C 11 dX8_pass_5 (by decide) ?_ ?_
  · refine mj_aload_n C 0 dX8_pass_11 (i := 0) rfl rfl ?_
    refine mj_iload_n C 1 dX8_pass_12 (i := 1) rfl rfl ?_
    refine mj_vB C my_X8_isGone mv_X8_229 dX8_pass_13 sh_84 rfl (fun a hF => ctX8_isGone K h l1  hF) (by decide) (by decide) rfl rfl (Nat.le_of_ble_eq_true rfl) (fun r_2 => ?_)
    refine mj_b_ne C 27 dX8_pass_16 (by decide) ?_ ?_
    · refine mj_ldc C kc_X8_251 dX8_pass_27 ?_
      exact mj_rIM C N dX8_pass_29
    · refine mj_aload_n C 0 dX8_pass_19 (i := 0) rfl rfl ?_
      refine mj_iload_n C 1 dX8_pass_20 (i := 1) rfl rfl ?_
      refine mj_vB C my_X8_isStuck mv_X8_232 dX8_pass_21 sh_84 rfl (fun a hF => ctX8_isStuck K h l1  hF) (by decide) (by decide) rfl rfl (Nat.le_of_ble_eq_true rfl) (fun r_3 => ?_)
      refine mj_b_eq C 30 dX8_pass_24 (by decide) ?_ ?_
      · refine mj_aload_n C 0 dX8_pass_30 (i := 0) rfl rfl ?_
        refine mj_vM C my_X8_remember mv_X8_252 dX8_pass_31 sh_84 rfl (fun a hF => ctX8_remember K h   hF) (by decide) (by decide) rfl rfl (Nat.le_of_ble_eq_true rfl) (fun h_4 => ?_)
        refine mj_aload_n C 0 dX8_pass_34 (i := 0) rfl rfl ?_
        refine mj_iload_n C 1 dX8_pass_35 (i := 1) rfl rfl ?_
        refine mj_vIM C my_X8_passNow mv_X8_255 dX8_pass_36 sh_84 rfl (fun a hF => ctX8_passNow K h_4 l1  hF) (by decide) (by decide) rfl rfl (Nat.le_of_ble_eq_true rfl) (fun r_5 h_6 => ?_)
        exact mj_rIM C N dX8_pass_39
      · refine mj_ldc C kc_X8_251 dX8_pass_27 ?_
        exact mj_rIM C N dX8_pass_29
  · refine mj_ldc C kc_X8_241 dX8_pass_8 ?_
    exact mj_rIM C N dX8_pass_10
noncomputable def fX8_roundNow (h : Mm) (l1 : Int32) (l2 : Bool) : Option (Int32 × Mm) := md_bd ((if l2 = true then md_ck (md_in ((2 : Int32) + l1) 9) (md_ck (md_in (0 : Int32) 9) (md_bd (fX8_close h (h 92 ((0 : Int32)).toNatClampNeg)) (fun r_3 => (if ((h 92 (((2 : Int32) + l1)).toNatClampNeg) &&& (r_3 ^^^ (-1 : Int32))) = 0 then some false else some true)))) else some false)) (fun (v_1 : Bool) => md_ck (md_in (0 : Int32) 9) (md_bd ((if l2 = true then md_ck (md_in ((2 : Int32) + l1) 9) (some (h 92 (((2 : Int32) + l1)).toNatClampNeg)) else some (0 : Int32))) (fun (v_4 : Int32) => md_ck (md_in (0 : Int32) 9) (md_lt (md_up h 92 ((0 : Int32)).toNatClampNeg ((h 92 ((0 : Int32)).toNatClampNeg) ||| v_4)) (fun h_6 : Mm => md_ck (md_in (1 : Int32) 9) (md_ck (md_in (1 : Int32) 9) (md_lt (md_up h_6 92 ((1 : Int32)).toNatClampNeg ((h_6 92 ((1 : Int32)).toNatClampNeg) ||| ((1 : Int32) <<< (l1 &&& 31)))) (fun h_7 : Mm => md_bd ((if v_1 = true then some true else some false)) (fun (v_8 : Bool) => some ((md_bi v_8), h_7))))))))))
set_option maxRecDepth 100000 in
set_option maxHeartbeats 4000000 in
theorem ctX8_roundNow (K : Kx) (h : Mm) (l1 : Int32) (l2 : Bool) {a : Int32 × Mm} (hF : fX8_roundNow h l1 l2 = some a) : Mt K yX8_roundNow cX8_roundNow 4 (some .int) 2 45 SHc [rf K 84, .int l1, .int (md_bi l2)] h (some (.int a.1)) a.2 := by
  refine Mt.of hF [(0, rf K 84), (1, .int l1), (2, .int (md_bi l2))] (by decide) (Nat.le_of_ble_eq_true rfl) rfl (fun Y C N => ?_)
  have C : Cx K Y (0, 0) cX8_roundNow RX8 4 2 45 := C
  unfold fX8_roundNow
  refine mj_iload_n C 2 dX8_roundNow_0 (i := 2) rfl rfl ?_
  refine mj_phi1 33 (fun (v_1 : Bool) => [(0, rf K 84), (1, .int l1), (2, .int (md_bi l2))]) (fun (v_1 : Bool) => [.int (md_bi v_1)]) (fun (v_1 : Bool) => h) (fun P' kj_2 => ?_) (fun v_1 => ?_)
  · refine mj_b_eq C 32 dX8_roundNow_1 (by decide) ?_ ?_
    · refine mj_iconst C (v := 0) dX8_roundNow_32 rfl ?_
      exact mj_sub [0, 1, 2] rfl (mj_some (kj_2 false))
    · refine mj_aload_n C 0 dX8_roundNow_4 (i := 0) rfl rfl ?_
      refine mj_getR C ff_X8_31 dX8_roundNow_5 sh_84 rfl ?_
      refine mj_iconst C (v := 2) dX8_roundNow_8 rfl ?_
      refine mj_iload_n C 1 dX8_roundNow_9 (i := 1) rfl rfl ?_
      refine mj_iadd C dX8_roundNow_10 ?_
      refine mj_iald C dX8_roundNow_11 sh_92 ?_
      refine mj_aload_n C 0 dX8_roundNow_12 (i := 0) rfl rfl ?_
      refine mj_aload_n C 0 dX8_roundNow_13 (i := 0) rfl rfl ?_
      refine mj_getR C ff_X8_31 dX8_roundNow_14 sh_84 rfl ?_
      refine mj_iconst C (v := 0) dX8_roundNow_17 rfl ?_
      refine mj_iald C dX8_roundNow_18 sh_92 ?_
      refine mj_vI C my_X8_close mv_X8_220 dX8_roundNow_19 sh_84 rfl (fun a hF => ctX8_close K h (h 92 ((0 : Int32)).toNatClampNeg)  hF) (by decide) (by decide) rfl rfl (Nat.le_of_ble_eq_true rfl) (fun r_3 => ?_)
      refine mj_iconst C (v := -1) dX8_roundNow_22 rfl ?_
      refine mj_ixor C dX8_roundNow_23 ?_
      refine mj_iand C dX8_roundNow_24 ?_
      refine mj_if_eq C 32 dX8_roundNow_25 (by decide) ?_ ?_
      · refine mj_iconst C (v := 0) dX8_roundNow_32 rfl ?_
        exact mj_sub [0, 1, 2] rfl (mj_some (kj_2 false))
      · refine mj_iconst C (v := 1) dX8_roundNow_28 rfl ?_
        refine mj_goto C 33 dX8_roundNow_29 (by decide) ?_
        exact mj_sub [0, 1, 2] rfl (mj_some (kj_2 true))
  · refine mj_istore_n C [(3, .int (md_bi v_1)), (0, rf K 84), (1, .int l1), (2, .int (md_bi l2))] dX8_roundNow_33 (i := 3) rfl (by decide) rfl ?_
    refine mj_aload_n C 1 dX8_roundNow_34 (i := 0) rfl rfl ?_
    refine mj_getR C ff_X8_31 dX8_roundNow_35 sh_84 rfl ?_
    refine mj_iconst C (v := 0) dX8_roundNow_38 rfl ?_
    refine mj_dup2 C dX8_roundNow_39 rfl rfl ?_
    refine mj_iald C dX8_roundNow_40 sh_92 ?_
    refine mj_iload_n C 3 dX8_roundNow_41 (i := 2) rfl rfl ?_
    refine mj_phi1 57 (fun (v_4 : Int32) => [(0, rf K 84), (1, .int l1), (3, .int (md_bi v_1))]) (fun (v_4 : Int32) => [.int v_4, .int (h 92 ((0 : Int32)).toNatClampNeg), .int (0 : Int32), rf K 92]) (fun (v_4 : Int32) => h) (fun P' kj_5 => ?_) (fun v_4 => ?_)
    · refine mj_b_eq C 56 dX8_roundNow_42 (by decide) ?_ ?_
      · refine mj_iconst C (v := 0) dX8_roundNow_56 rfl ?_
        exact mj_sub [1, 2, 0] rfl (mj_some (kj_5 (0 : Int32)))
      · refine mj_aload_n C 1 dX8_roundNow_45 (i := 0) rfl rfl ?_
        refine mj_getR C ff_X8_31 dX8_roundNow_46 sh_84 rfl ?_
        refine mj_iconst C (v := 2) dX8_roundNow_49 rfl ?_
        refine mj_iload_n C 2 dX8_roundNow_50 (i := 1) rfl rfl ?_
        refine mj_iadd C dX8_roundNow_51 ?_
        refine mj_iald C dX8_roundNow_52 sh_92 ?_
        refine mj_goto C 57 dX8_roundNow_53 (by decide) ?_
        exact mj_sub [1, 2, 0] rfl (mj_some (kj_5 (h 92 (((2 : Int32) + l1)).toNatClampNeg)))
    · refine mj_ior C dX8_roundNow_57 ?_
      refine mj_iast C dX8_roundNow_58 sh_92 (fun h_6 => ?_)
      refine mj_aload_n C 0 dX8_roundNow_59 (i := 0) rfl rfl ?_
      refine mj_getR C ff_X8_31 dX8_roundNow_60 sh_84 rfl ?_
      refine mj_iconst C (v := 1) dX8_roundNow_63 rfl ?_
      refine mj_dup2 C dX8_roundNow_64 rfl rfl ?_
      refine mj_iald C dX8_roundNow_65 sh_92 ?_
      refine mj_iconst C (v := 1) dX8_roundNow_66 rfl ?_
      refine mj_iload_n C 1 dX8_roundNow_67 (i := 1) rfl rfl ?_
      refine mj_ishl C dX8_roundNow_68 ?_
      refine mj_ior C dX8_roundNow_69 ?_
      refine mj_iast C dX8_roundNow_70 sh_92 (fun h_7 => ?_)
      refine mj_iload_n C 2 dX8_roundNow_71 (i := 3) rfl rfl ?_
      refine mj_phi1 80 (fun (v_8 : Bool) => []) (fun (v_8 : Bool) => [.int (md_bi v_8)]) (fun (v_8 : Bool) => h_7) (fun P' kj_9 => ?_) (fun v_8 => ?_)
      · refine mj_b_eq C 79 dX8_roundNow_72 (by decide) ?_ ?_
        · refine mj_iconst C (v := 0) dX8_roundNow_79 rfl ?_
          exact mj_sub [] rfl (mj_some (kj_9 false))
        · refine mj_iconst C (v := 1) dX8_roundNow_75 rfl ?_
          refine mj_goto C 80 dX8_roundNow_76 (by decide) ?_
          exact mj_sub [] rfl (mj_some (kj_9 true))
      · exact mj_rIM C N dX8_roundNow_80
noncomputable def fX8_goRound (h : Mm) (l1 : Int32) (l2 : Bool) : Option (Int32 × Mm) := md_bd (fX8_isTraveller h l1) (fun r_1 => (if r_1 = true then md_bd (fX8_isGone h l1) (fun r_2 => (if r_2 = true then some ((-1000000003 : Int32), h) else md_bd (fX8_remember h) (fun h_3 => md_b2 (fX8_roundNow h_3 l1 l2) (fun r_4 h_5 => some (r_4, h_5))))) else some ((-1000000001 : Int32), h)))
set_option maxRecDepth 100000 in
set_option maxHeartbeats 4000000 in
theorem ctX8_goRound (K : Kx) (h : Mm) (l1 : Int32) (l2 : Bool) {a : Int32 × Mm} (hF : fX8_goRound h l1 l2 = some a) : Mt K yX8_goRound cX8_goRound 3 (some .int) 3 68 SHc [rf K 84, .int l1, .int (md_bi l2)] h (some (.int a.1)) a.2 := by
  refine Mt.of hF [(0, rf K 84), (1, .int l1), (2, .int (md_bi l2))] (by decide) (Nat.le_of_ble_eq_true rfl) rfl (fun Y C N => ?_)
  have C : Cx K Y (0, 0) cX8_goRound RX8 3 3 68 := C
  unfold fX8_goRound
  refine mj_aload_n C 0 dX8_goRound_0 (i := 0) rfl rfl ?_
  refine mj_iload_n C 1 dX8_goRound_1 (i := 1) rfl rfl ?_
  refine mj_vB C my_X8_isTraveller mv_X8_242 dX8_goRound_2 sh_84 rfl (fun a hF => ctX8_isTraveller K h l1  hF) (by decide) (by decide) rfl rfl (Nat.le_of_ble_eq_true rfl) (fun r_1 => ?_)
  refine mj_b_ne C 11 dX8_goRound_5 (by decide) ?_ ?_
  · refine mj_aload_n C 0 dX8_goRound_11 (i := 0) rfl rfl ?_
    refine mj_iload_n C 1 dX8_goRound_12 (i := 1) rfl rfl ?_
    refine mj_vB C my_X8_isGone mv_X8_229 dX8_goRound_13 sh_84 rfl (fun a hF => ctX8_isGone K h l1  hF) (by decide) (by decide) rfl rfl (Nat.le_of_ble_eq_true rfl) (fun r_2 => ?_)
    refine mj_b_eq C 22 dX8_goRound_16 (by decide) ?_ ?_
    · refine mj_aload_n C 0 dX8_goRound_22 (i := 0) rfl rfl ?_
      refine mj_vM C my_X8_remember mv_X8_252 dX8_goRound_23 sh_84 rfl (fun a hF => ctX8_remember K h   hF) (by decide) (by decide) rfl rfl (Nat.le_of_ble_eq_true rfl) (fun h_3 => ?_)
      refine mj_aload_n C 0 dX8_goRound_26 (i := 0) rfl rfl ?_
      refine mj_iload_n C 1 dX8_goRound_27 (i := 1) rfl rfl ?_
      refine mj_iload_n C 2 dX8_goRound_28 (i := 2) rfl rfl ?_
      refine mj_vIM C my_X8_roundNow mv_X8_258 dX8_goRound_29 sh_84 rfl (fun a hF => ctX8_roundNow K h_3 l1 l2  hF) (by decide) (by decide) rfl rfl (Nat.le_of_ble_eq_true rfl) (fun r_4 h_5 => ?_)
      exact mj_rIM C N dX8_goRound_32
    · refine mj_ldc C kc_X8_251 dX8_goRound_19 ?_
      exact mj_rIM C N dX8_goRound_21
  · refine mj_ldc C kc_X8_241 dX8_goRound_8 ?_
    exact mj_rIM C N dX8_goRound_10
noncomputable def fX8_quickest_7 : Nat → Mm → Int32 → Int32 → Int32 → Int32 → Option (Int32)
  | 0, _, _, _, _, _ => none
  | n + 1, h, l1, l2, l3, l4 => (if (h 84 8) ≤ l4 then some l3 else md_ck (md_in l4 10) (md_bd ((if (h 89 (l4).toNatClampNeg) = l1 then md_ck (md_in l4 10) ((if (h 90 (l4).toNatClampNeg) = l2 then some true else some false)) else some false)) (fun (v_1 : Bool) => md_bd ((if v_1 = true then md_ck (md_in l4 10) ((if l3 ≤ (h 91 (l4).toNatClampNeg) then some l3 else md_ck (md_in l4 10) (some (h 91 (l4).toNatClampNeg)))) else some l3)) (fun (v_3 : Int32) => fX8_quickest_7 n h l1 l2 v_3 (l4 + 1)))))
set_option maxRecDepth 100000 in
set_option maxHeartbeats 4000000 in
theorem lX8_quickest_7 {K : Kx} {Y : Yx} {cs : Nat × Nat} (C : Cx K Y cs cX8_quickest RX8 6 0 0) {P : Int32 → Prop} : ∀ (n : Nat) (h : Mm) (l1 : Int32) (l2 : Int32) (l3 : Int32) (l4 : Int32), (∀ (w3 : Int32), J SHc K Y cs (P w3) 79 [(3, .int w3)] [] h) → J SHc K Y cs (mj_O (fX8_quickest_7 n h l1 l2 l3 l4) P) 7 [(0, rf K 84), (1, .int l1), (2, .int l2), (3, .int l3), (4, .int l4)] [] h := by
  intro n
  induction n with
  | zero => intro h l1 l2 l3 l4 kk0; exact mj_none
  | succ n ih =>
    intro h l1 l2 l3 l4 kk0
    rw [fX8_quickest_7]
    refine mj_iload C 4 dX8_quickest_7 rfl ?_
    refine mj_aload_n C 0 dX8_quickest_9 (i := 0) rfl rfl ?_
    refine mj_getI C ff_X8_202 dX8_quickest_10 sh_84 rfl ?_
    refine mj_icmp_ge C 79 dX8_quickest_13 (by decide) ?_ ?_
    · exact mj_sub [3] rfl (mj_some (kk0 l3))
    · refine mj_aload_n C 0 dX8_quickest_16 (i := 0) rfl rfl ?_
      refine mj_getR C ff_X8_22 dX8_quickest_17 sh_84 rfl ?_
      refine mj_iload C 4 dX8_quickest_20 rfl ?_
      refine mj_iald C dX8_quickest_22 sh_89 ?_
      refine mj_iload_n C 1 dX8_quickest_23 (i := 1) rfl rfl ?_
      refine mj_phi1 43 (fun (v_1 : Bool) => [(0, rf K 84), (1, .int l1), (2, .int l2), (3, .int l3), (4, .int l4)]) (fun (v_1 : Bool) => [.int (md_bi v_1)]) (fun (v_1 : Bool) => h) (fun P' kj_2 => ?_) (fun v_1 => ?_)
      · refine mj_icmp_ne C 42 dX8_quickest_24 (by decide) ?_ ?_
        · refine mj_iconst C (v := 0) dX8_quickest_42 rfl ?_
          exact mj_sub [0, 1, 2, 3, 4] rfl (mj_some (kj_2 false))
        · refine mj_aload_n C 0 dX8_quickest_27 (i := 0) rfl rfl ?_
          refine mj_getR C ff_X8_25 dX8_quickest_28 sh_84 rfl ?_
          refine mj_iload C 4 dX8_quickest_31 rfl ?_
          refine mj_iald C dX8_quickest_33 sh_90 ?_
          refine mj_iload_n C 2 dX8_quickest_34 (i := 2) rfl rfl ?_
          refine mj_icmp_ne C 42 dX8_quickest_35 (by decide) ?_ ?_
          · refine mj_iconst C (v := 0) dX8_quickest_42 rfl ?_
            exact mj_sub [0, 1, 2, 3, 4] rfl (mj_some (kj_2 false))
          · refine mj_iconst C (v := 1) dX8_quickest_38 rfl ?_
            refine mj_goto C 43 dX8_quickest_39 (by decide) ?_
            exact mj_sub [0, 1, 2, 3, 4] rfl (mj_some (kj_2 true))
      · refine mj_istore C [(5, .int (md_bi v_1)), (0, rf K 84), (1, .int l1), (2, .int l2), (3, .int l3), (4, .int l4)] dX8_quickest_43 (by decide) rfl ?_
        refine mj_iload C 0 dX8_quickest_45 rfl ?_
        refine mj_phi1 72 (fun (v_3 : Int32) => [(0, rf K 84), (1, .int l1), (2, .int l2), (4, .int l4)]) (fun (v_3 : Int32) => [.int v_3]) (fun (v_3 : Int32) => h) (fun P' kj_4 => ?_) (fun v_3 => ?_)
        · refine mj_b_eq C 71 dX8_quickest_47 (by decide) ?_ ?_
          · refine mj_iload_n C 4 dX8_quickest_71 (i := 3) rfl rfl ?_
            exact mj_sub [1, 2, 3, 5] rfl (mj_some (kj_4 l3))
          · refine mj_aload_n C 1 dX8_quickest_50 (i := 0) rfl rfl ?_
            refine mj_getR C ff_X8_28 dX8_quickest_51 sh_84 rfl ?_
            refine mj_iload C 5 dX8_quickest_54 rfl ?_
            refine mj_iald C dX8_quickest_56 sh_91 ?_
            refine mj_iload_n C 4 dX8_quickest_57 (i := 3) rfl rfl ?_
            refine mj_icmp_ge C 71 dX8_quickest_58 (by decide) ?_ ?_
            · refine mj_iload_n C 4 dX8_quickest_71 (i := 3) rfl rfl ?_
              exact mj_sub [1, 2, 3, 5] rfl (mj_some (kj_4 l3))
            · refine mj_aload_n C 1 dX8_quickest_61 (i := 0) rfl rfl ?_
              refine mj_getR C ff_X8_28 dX8_quickest_62 sh_84 rfl ?_
              refine mj_iload C 5 dX8_quickest_65 rfl ?_
              refine mj_iald C dX8_quickest_67 sh_91 ?_
              refine mj_goto C 72 dX8_quickest_68 (by decide) ?_
              exact mj_sub [1, 2, 3, 5] rfl (mj_some (kj_4 (h 91 (l4).toNatClampNeg)))
        · refine mj_istore_n C [(3, .int v_3), (0, rf K 84), (1, .int l1), (2, .int l2), (4, .int l4)] dX8_quickest_72 (i := 3) rfl (by decide) rfl ?_
          refine mj_iinc C (l4 + 1) 4 [(4, .int (l4 + 1)), (3, .int v_3), (0, rf K 84), (1, .int l1), (2, .int l2)] dX8_quickest_73 rfl rfl (by decide) rfl ?_
          refine mj_goto C 7 dX8_quickest_76 (by decide) ?_
          exact mj_sub [2, 3, 4, 1, 0] rfl (ih h l1 l2 v_3 (l4 + 1) kk0)
noncomputable def fX8_quickest (h : Mm) (l1 : Int32) (l2 : Int32) : Option (Int32) := md_bd (fX8_quickest_7 md_N h l1 l2 (1000000 : Int32) (0 : Int32)) (fun (v_5 : Int32) => some v_5)
set_option maxRecDepth 100000 in
set_option maxHeartbeats 4000000 in
theorem ctX8_quickest (K : Kx) (h : Mm) (l1 : Int32) (l2 : Int32) {a : Int32} (hF : fX8_quickest h l1 l2 = some a) : Mt K yX8_quickest cX8_quickest 6 (some .int) 0 0 SHc [rf K 84, .int l1, .int l2] h (some (.int a)) h := by
  refine Mt.of hF [(0, rf K 84), (1, .int l1), (2, .int l2)] (by decide) (Nat.le_of_ble_eq_true rfl) rfl (fun Y C N => ?_)
  have C : Cx K Y (0, 0) cX8_quickest RX8 6 0 0 := C
  unfold fX8_quickest
  refine mj_ldcw C kc_X8_262 dX8_quickest_0 ?_
  refine mj_istore_n C [(3, .int (1000000 : Int32)), (0, rf K 84), (1, .int l1), (2, .int l2)] dX8_quickest_3 (i := 3) rfl (by decide) rfl ?_
  refine mj_iconst C (v := 0) dX8_quickest_4 rfl ?_
  refine mj_istore C [(4, .int (0 : Int32)), (3, .int (1000000 : Int32)), (0, rf K 84), (1, .int l1), (2, .int l2)] dX8_quickest_5 (by decide) rfl ?_
  refine mj_phi1 79 (fun (v_5 : Int32) => [(3, .int v_5)]) (fun (v_5 : Int32) => []) (fun (v_5 : Int32) => h) (fun P' kj_6 => mj_sub [2, 3, 4, 1, 0] rfl (lX8_quickest_7 C md_N h l1 l2 (1000000 : Int32) (0 : Int32) kj_6)) (fun v_5 => ?_)
  refine mj_iload_n C 0 dX8_quickest_79 (i := 3) rfl rfl ?_
  exact mj_rI C N dX8_quickest_80
noncomputable def fX8_talked (h : Mm) (l0 : Int32) (l1 : Int32) (l2 : Int32) : Option (Int32) := some ((l0 &&& (((1 : Int32) <<< (l1 &&& 31)) ^^^ (-1 : Int32))) ||| ((1 : Int32) <<< (l2 &&& 31)))
set_option maxRecDepth 100000 in
set_option maxHeartbeats 4000000 in
theorem ctX8_talked (K : Kx) (h : Mm) (l0 : Int32) (l1 : Int32) (l2 : Int32) {a : Int32} (hF : fX8_talked h l0 l1 l2 = some a) : Mt K yX8_talked cX8_talked 3 (some .int) 0 0 SHc [.int l0, .int l1, .int l2] h (some (.int a)) h := by
  refine Mt.of hF [(0, .int l0), (1, .int l1), (2, .int l2)] (by decide) (Nat.le_of_ble_eq_true rfl) rfl (fun Y C N => ?_)
  have C : Cx K Y (0, 0) cX8_talked RX8 3 0 0 := C
  unfold fX8_talked
  refine mj_iload_n C 0 dX8_talked_0 (i := 0) rfl rfl ?_
  refine mj_iconst C (v := 1) dX8_talked_1 rfl ?_
  refine mj_iload_n C 1 dX8_talked_2 (i := 1) rfl rfl ?_
  refine mj_ishl C dX8_talked_3 ?_
  refine mj_iconst C (v := -1) dX8_talked_4 rfl ?_
  refine mj_ixor C dX8_talked_5 ?_
  refine mj_iand C dX8_talked_6 ?_
  refine mj_iconst C (v := 1) dX8_talked_7 rfl ?_
  refine mj_iload_n C 2 dX8_talked_8 (i := 2) rfl rfl ?_
  refine mj_ishl C dX8_talked_9 ?_
  refine mj_ior C dX8_talked_10 ?_
  exact mj_rI C N dX8_talked_11
noncomputable def fX8_talk (h : Mm) (l1 : Int32) (l2 : Int32) (l3 : Int32) : Option (Int32 × Mm) := md_bd (fX8_isTraveller h l1) (fun r_1 => (if r_1 = true then md_bd (fX8_isIdea h l2) (fun r_2 => (if r_2 = true then md_bd (fX8_isIdea h l3) (fun r_3 => (if r_3 = true then md_bd (fX8_quickest h l2 l3) (fun r_4 => md_bd (fX8_isGone h l1) (fun r_5 => (if r_5 = true then some ((-1000000003 : Int32), h) else md_ck (md_in ((2 : Int32) + l1) 9) (md_bd (fX8_has h (h 92 (((2 : Int32) + l1)).toNatClampNeg) l2) (fun r_6 => (if r_6 = true then (if r_4 = (1000000 : Int32) then some ((-1000000003 : Int32), h) else md_bd (fX8_remember h) (fun h_7 => md_ck (md_in ((2 : Int32) + l1) 9) (md_bd (fX8_talked h_7 (h_7 92 (((2 : Int32) + l1)).toNatClampNeg) l2 l3) (fun r_8 => md_ck (md_in ((2 : Int32) + l1) 9) (md_lt (md_up h_7 92 (((2 : Int32) + l1)).toNatClampNeg r_8) (fun h_9 : Mm => md_ck (md_in (8 : Int32) 9) (md_bd (fX8_atMost h_9 ((h_9 92 ((8 : Int32)).toNatClampNeg) + r_4)) (fun r_10 => md_ck (md_in (8 : Int32) 9) (md_lt (md_up h_9 92 ((8 : Int32)).toNatClampNeg r_10) (fun h_11 : Mm => some (r_4, h_11))))))))))) else some ((-1000000003 : Int32), h))))))) else some ((-1000000001 : Int32), h))) else some ((-1000000001 : Int32), h))) else some ((-1000000001 : Int32), h)))
set_option maxRecDepth 100000 in
set_option maxHeartbeats 4000000 in
theorem ctX8_talk (K : Kx) (h : Mm) (l1 : Int32) (l2 : Int32) (l3 : Int32) {a : Int32 × Mm} (hF : fX8_talk h l1 l2 l3 = some a) : Mt K yX8_talk cX8_talk 5 (some .int) 2 46 SHc [rf K 84, .int l1, .int l2, .int l3] h (some (.int a.1)) a.2 := by
  refine Mt.of hF [(0, rf K 84), (1, .int l1), (2, .int l2), (3, .int l3)] (by decide) (Nat.le_of_ble_eq_true rfl) rfl (fun Y C N => ?_)
  have C : Cx K Y (0, 0) cX8_talk RX8 5 2 46 := C
  unfold fX8_talk
  refine mj_aload_n C 0 dX8_talk_0 (i := 0) rfl rfl ?_
  refine mj_iload_n C 1 dX8_talk_1 (i := 1) rfl rfl ?_
  refine mj_vB C my_X8_isTraveller mv_X8_242 dX8_talk_2 sh_84 rfl (fun a hF => ctX8_isTraveller K h l1  hF) (by decide) (by decide) rfl rfl (Nat.le_of_ble_eq_true rfl) (fun r_1 => ?_)
  refine mj_b_eq C 24 dX8_talk_5 (by decide) ?_ ?_
  · refine mj_ldc C kc_X8_241 dX8_talk_24 ?_
    exact mj_rIM C N dX8_talk_26
  · refine mj_aload_n C 0 dX8_talk_8 (i := 0) rfl rfl ?_
    refine mj_iload_n C 2 dX8_talk_9 (i := 2) rfl rfl ?_
    refine mj_vB C my_X8_isIdea mv_X8_238 dX8_talk_10 sh_84 rfl (fun a hF => ctX8_isIdea K h l2  hF) (by decide) (by decide) rfl rfl (Nat.le_of_ble_eq_true rfl) (fun r_2 => ?_)
    refine mj_b_eq C 24 dX8_talk_13 (by decide) ?_ ?_
    · refine mj_ldc C kc_X8_241 dX8_talk_24 ?_
      exact mj_rIM C N dX8_talk_26
    · refine mj_aload_n C 0 dX8_talk_16 (i := 0) rfl rfl ?_
      refine mj_iload_n C 3 dX8_talk_17 (i := 3) rfl rfl ?_
      refine mj_vB C my_X8_isIdea mv_X8_238 dX8_talk_18 sh_84 rfl (fun a hF => ctX8_isIdea K h l3  hF) (by decide) (by decide) rfl rfl (Nat.le_of_ble_eq_true rfl) (fun r_3 => ?_)
      refine mj_b_ne C 27 dX8_talk_21 (by decide) ?_ ?_
      · refine mj_aload_n C 0 dX8_talk_27 (i := 0) rfl rfl ?_
        refine mj_iload_n C 2 dX8_talk_28 (i := 2) rfl rfl ?_
        refine mj_iload_n C 3 dX8_talk_29 (i := 3) rfl rfl ?_
        refine mj_vI C my_X8_quickest mv_X8_263 dX8_talk_30 sh_84 rfl (fun a hF => ctX8_quickest K h l2 l3  hF) (by decide) (by decide) rfl rfl (Nat.le_of_ble_eq_true rfl) (fun r_4 => ?_)
        refine mj_istore C [(4, .int r_4), (0, rf K 84), (1, .int l1), (2, .int l2), (3, .int l3)] dX8_talk_33 (by decide) rfl ?_
        refine mj_aload_n C 1 dX8_talk_35 (i := 0) rfl rfl ?_
        refine mj_iload_n C 2 dX8_talk_36 (i := 1) rfl rfl ?_
        refine mj_vB C my_X8_isGone mv_X8_229 dX8_talk_37 sh_84 rfl (fun a hF => ctX8_isGone K h l1  hF) (by decide) (by decide) rfl rfl (Nat.le_of_ble_eq_true rfl) (fun r_5 => ?_)
        refine mj_b_ne C 66 dX8_talk_40 (by decide) ?_ ?_
        · refine mj_ldc C kc_X8_251 dX8_talk_66 ?_
          exact mj_rIM C N dX8_talk_68
        · refine mj_aload_n C 1 dX8_talk_43 (i := 0) rfl rfl ?_
          refine mj_getR C ff_X8_31 dX8_talk_44 sh_84 rfl ?_
          refine mj_iconst C (v := 2) dX8_talk_47 rfl ?_
          refine mj_iload_n C 2 dX8_talk_48 (i := 1) rfl rfl ?_
          refine mj_iadd C dX8_talk_49 ?_
          refine mj_iald C dX8_talk_50 sh_92 ?_
          refine mj_iload_n C 3 dX8_talk_51 (i := 2) rfl rfl ?_
          refine mj_sB C my_X8_has ms_X8_160 dX8_talk_52 (fun a hF => ctX8_has K h (h 92 (((2 : Int32) + l1)).toNatClampNeg) l2  hF) (by decide) (by decide) rfl rfl (Nat.le_of_ble_eq_true rfl) (fun r_6 => ?_)
          refine mj_b_eq C 66 dX8_talk_55 (by decide) ?_ ?_
          · refine mj_ldc C kc_X8_251 dX8_talk_66 ?_
            exact mj_rIM C N dX8_talk_68
          · refine mj_iload C 0 dX8_talk_58 rfl ?_
            refine mj_ldcw C kc_X8_262 dX8_talk_60 ?_
            refine mj_icmp_ne C 69 dX8_talk_63 (by decide) ?_ ?_
            · refine mj_aload_n C 1 dX8_talk_69 (i := 0) rfl rfl ?_
              refine mj_vM C my_X8_remember mv_X8_252 dX8_talk_70 sh_84 rfl (fun a hF => ctX8_remember K h   hF) (by decide) (by decide) rfl rfl (Nat.le_of_ble_eq_true rfl) (fun h_7 => ?_)
              refine mj_aload_n C 1 dX8_talk_73 (i := 0) rfl rfl ?_
              refine mj_getR C ff_X8_31 dX8_talk_74 sh_84 rfl ?_
              refine mj_iconst C (v := 2) dX8_talk_77 rfl ?_
              refine mj_iload_n C 2 dX8_talk_78 (i := 1) rfl rfl ?_
              refine mj_iadd C dX8_talk_79 ?_
              refine mj_aload_n C 1 dX8_talk_80 (i := 0) rfl rfl ?_
              refine mj_getR C ff_X8_31 dX8_talk_81 sh_84 rfl ?_
              refine mj_iconst C (v := 2) dX8_talk_84 rfl ?_
              refine mj_iload_n C 2 dX8_talk_85 (i := 1) rfl rfl ?_
              refine mj_iadd C dX8_talk_86 ?_
              refine mj_iald C dX8_talk_87 sh_92 ?_
              refine mj_iload_n C 3 dX8_talk_88 (i := 2) rfl rfl ?_
              refine mj_iload_n C 4 dX8_talk_89 (i := 3) rfl rfl ?_
              refine mj_sI C my_X8_talked ms_X8_266 dX8_talk_90 (fun a hF => ctX8_talked K h_7 (h_7 92 (((2 : Int32) + l1)).toNatClampNeg) l2 l3  hF) (by decide) (by decide) rfl rfl (Nat.le_of_ble_eq_true rfl) (fun r_8 => ?_)
              refine mj_iast C dX8_talk_93 sh_92 (fun h_9 => ?_)
              refine mj_aload_n C 1 dX8_talk_94 (i := 0) rfl rfl ?_
              refine mj_getR C ff_X8_31 dX8_talk_95 sh_84 rfl ?_
              refine mj_bipush C (v := 8) dX8_talk_98 rfl ?_
              refine mj_aload_n C 1 dX8_talk_100 (i := 0) rfl rfl ?_
              refine mj_getR C ff_X8_31 dX8_talk_101 sh_84 rfl ?_
              refine mj_bipush C (v := 8) dX8_talk_104 rfl ?_
              refine mj_iald C dX8_talk_106 sh_92 ?_
              refine mj_iload C 0 dX8_talk_107 rfl ?_
              refine mj_iadd C dX8_talk_109 ?_
              refine mj_sI C my_X8_atMost ms_X8_248 dX8_talk_110 (fun a hF => ctX8_atMost K h_9 ((h_9 92 ((8 : Int32)).toNatClampNeg) + r_4)  hF) (by decide) (by decide) rfl rfl (Nat.le_of_ble_eq_true rfl) (fun r_10 => ?_)
              refine mj_iast C dX8_talk_113 sh_92 (fun h_11 => ?_)
              refine mj_iload C 0 dX8_talk_114 rfl ?_
              exact mj_rIM C N dX8_talk_116
            · refine mj_ldc C kc_X8_251 dX8_talk_66 ?_
              exact mj_rIM C N dX8_talk_68
      · refine mj_ldc C kc_X8_241 dX8_talk_24 ?_
        exact mj_rIM C N dX8_talk_26
noncomputable def fX8_come (h : Mm) (l1 : Int32) (l2 : Int32) : Option (Int32 × Mm) := md_bd (fX8_isTraveller h l1) (fun r_1 => (if r_1 = true then md_bd (fX8_isSet h l2) (fun r_2 => (if r_2 = true then md_bd (fX8_isGone h l1) (fun r_3 => (if r_3 = true then md_bd (fX8_remember h) (fun h_4 => md_ck (md_in ((2 : Int32) + l1) 9) (md_lt (md_up h_4 92 (((2 : Int32) + l1)).toNatClampNeg l2) (fun h_5 : Mm => md_ck (md_in (1 : Int32) 9) (md_ck (md_in (1 : Int32) 9) (md_lt (md_up h_5 92 ((1 : Int32)).toNatClampNeg ((h_5 92 ((1 : Int32)).toNatClampNeg) &&& (((1 : Int32) <<< (l1 &&& 31)) ^^^ (-1 : Int32)))) (fun h_6 : Mm => md_bd (fX8_owedFor h_6 l2) (fun r_7 => some (r_7, h_6)))))))) else some ((-1000000003 : Int32), h))) else some ((-1000000001 : Int32), h))) else some ((-1000000001 : Int32), h)))
set_option maxRecDepth 100000 in
set_option maxHeartbeats 4000000 in
theorem ctX8_come (K : Kx) (h : Mm) (l1 : Int32) (l2 : Int32) {a : Int32 × Mm} (hF : fX8_come h l1 l2 = some a) : Mt K yX8_come cX8_come 3 (some .int) 4 90 SHc [rf K 84, .int l1, .int l2] h (some (.int a.1)) a.2 := by
  refine Mt.of hF [(0, rf K 84), (1, .int l1), (2, .int l2)] (by decide) (Nat.le_of_ble_eq_true rfl) rfl (fun Y C N => ?_)
  have C : Cx K Y (0, 0) cX8_come RX8 3 4 90 := C
  unfold fX8_come
  refine mj_aload_n C 0 dX8_come_0 (i := 0) rfl rfl ?_
  refine mj_iload_n C 1 dX8_come_1 (i := 1) rfl rfl ?_
  refine mj_vB C my_X8_isTraveller mv_X8_242 dX8_come_2 sh_84 rfl (fun a hF => ctX8_isTraveller K h l1  hF) (by decide) (by decide) rfl rfl (Nat.le_of_ble_eq_true rfl) (fun r_1 => ?_)
  refine mj_b_eq C 16 dX8_come_5 (by decide) ?_ ?_
  · refine mj_ldc C kc_X8_241 dX8_come_16 ?_
    exact mj_rIM C N dX8_come_18
  · refine mj_aload_n C 0 dX8_come_8 (i := 0) rfl rfl ?_
    refine mj_iload_n C 2 dX8_come_9 (i := 2) rfl rfl ?_
    refine mj_vB C my_X8_isSet mv_X8_270 dX8_come_10 sh_84 rfl (fun a hF => ctX8_isSet K h l2  hF) (by decide) (by decide) rfl rfl (Nat.le_of_ble_eq_true rfl) (fun r_2 => ?_)
    refine mj_b_ne C 19 dX8_come_13 (by decide) ?_ ?_
    · refine mj_aload_n C 0 dX8_come_19 (i := 0) rfl rfl ?_
      refine mj_iload_n C 1 dX8_come_20 (i := 1) rfl rfl ?_
      refine mj_vB C my_X8_isGone mv_X8_229 dX8_come_21 sh_84 rfl (fun a hF => ctX8_isGone K h l1  hF) (by decide) (by decide) rfl rfl (Nat.le_of_ble_eq_true rfl) (fun r_3 => ?_)
      refine mj_b_ne C 30 dX8_come_24 (by decide) ?_ ?_
      · refine mj_aload_n C 0 dX8_come_30 (i := 0) rfl rfl ?_
        refine mj_vM C my_X8_remember mv_X8_252 dX8_come_31 sh_84 rfl (fun a hF => ctX8_remember K h   hF) (by decide) (by decide) rfl rfl (Nat.le_of_ble_eq_true rfl) (fun h_4 => ?_)
        refine mj_aload_n C 0 dX8_come_34 (i := 0) rfl rfl ?_
        refine mj_getR C ff_X8_31 dX8_come_35 sh_84 rfl ?_
        refine mj_iconst C (v := 2) dX8_come_38 rfl ?_
        refine mj_iload_n C 1 dX8_come_39 (i := 1) rfl rfl ?_
        refine mj_iadd C dX8_come_40 ?_
        refine mj_iload_n C 2 dX8_come_41 (i := 2) rfl rfl ?_
        refine mj_iast C dX8_come_42 sh_92 (fun h_5 => ?_)
        refine mj_aload_n C 0 dX8_come_43 (i := 0) rfl rfl ?_
        refine mj_getR C ff_X8_31 dX8_come_44 sh_84 rfl ?_
        refine mj_iconst C (v := 1) dX8_come_47 rfl ?_
        refine mj_dup2 C dX8_come_48 rfl rfl ?_
        refine mj_iald C dX8_come_49 sh_92 ?_
        refine mj_iconst C (v := 1) dX8_come_50 rfl ?_
        refine mj_iload_n C 1 dX8_come_51 (i := 1) rfl rfl ?_
        refine mj_ishl C dX8_come_52 ?_
        refine mj_iconst C (v := -1) dX8_come_53 rfl ?_
        refine mj_ixor C dX8_come_54 ?_
        refine mj_iand C dX8_come_55 ?_
        refine mj_iast C dX8_come_56 sh_92 (fun h_6 => ?_)
        refine mj_aload_n C 0 dX8_come_57 (i := 0) rfl rfl ?_
        refine mj_iload_n C 2 dX8_come_58 (i := 2) rfl rfl ?_
        refine mj_vI C my_X8_owedFor mv_X8_245 dX8_come_59 sh_84 rfl (fun a hF => ctX8_owedFor K h_6 l2  hF) (by decide) (by decide) rfl rfl (Nat.le_of_ble_eq_true rfl) (fun r_7 => ?_)
        exact mj_rIM C N dX8_come_62
      · refine mj_ldc C kc_X8_251 dX8_come_27 ?_
        exact mj_rIM C N dX8_come_29
    · refine mj_ldc C kc_X8_241 dX8_come_16 ?_
      exact mj_rIM C N dX8_come_18
noncomputable def fX8_register (h : Mm) (l1 : Int32) (l2 : Bool) : Option (Int32 × Mm) := md_bd (fX8_isIdea h l1) (fun r_1 => (if r_1 = true then md_bd (fX8_remember h) (fun h_2 => md_ck (md_in (0 : Int32) 9) (md_lt (((h_2 92 ((0 : Int32)).toNatClampNeg) >>> (l1 &&& 31)) &&& (1 : Int32)) (fun l3_3 : Int32 => md_bd ((if l2 = true then md_ck (md_in (0 : Int32) 9) (some ((h_2 92 ((0 : Int32)).toNatClampNeg) ||| ((1 : Int32) <<< (l1 &&& 31)))) else md_ck (md_in (0 : Int32) 9) (some ((h_2 92 ((0 : Int32)).toNatClampNeg) &&& (((1 : Int32) <<< (l1 &&& 31)) ^^^ (-1 : Int32)))))) (fun (v_4 : Int32) => md_ck (md_in (0 : Int32) 9) (md_lt (md_up h_2 92 ((0 : Int32)).toNatClampNeg v_4) (fun h_6 : Mm => some (l3_3, h_6))))))) else some ((-1000000001 : Int32), h)))
set_option maxRecDepth 100000 in
set_option maxHeartbeats 4000000 in
theorem ctX8_register (K : Kx) (h : Mm) (l1 : Int32) (l2 : Bool) {a : Int32 × Mm} (hF : fX8_register h l1 l2 = some a) : Mt K yX8_register cX8_register 4 (some .int) 2 46 SHc [rf K 84, .int l1, .int (md_bi l2)] h (some (.int a.1)) a.2 := by
  refine Mt.of hF [(0, rf K 84), (1, .int l1), (2, .int (md_bi l2))] (by decide) (Nat.le_of_ble_eq_true rfl) rfl (fun Y C N => ?_)
  have C : Cx K Y (0, 0) cX8_register RX8 4 2 46 := C
  unfold fX8_register
  refine mj_aload_n C 0 dX8_register_0 (i := 0) rfl rfl ?_
  refine mj_iload_n C 1 dX8_register_1 (i := 1) rfl rfl ?_
  refine mj_vB C my_X8_isIdea mv_X8_238 dX8_register_2 sh_84 rfl (fun a hF => ctX8_isIdea K h l1  hF) (by decide) (by decide) rfl rfl (Nat.le_of_ble_eq_true rfl) (fun r_1 => ?_)
  refine mj_b_ne C 11 dX8_register_5 (by decide) ?_ ?_
  · refine mj_aload_n C 0 dX8_register_11 (i := 0) rfl rfl ?_
    refine mj_vM C my_X8_remember mv_X8_252 dX8_register_12 sh_84 rfl (fun a hF => ctX8_remember K h   hF) (by decide) (by decide) rfl rfl (Nat.le_of_ble_eq_true rfl) (fun h_2 => ?_)
    refine mj_aload_n C 0 dX8_register_15 (i := 0) rfl rfl ?_
    refine mj_getR C ff_X8_31 dX8_register_16 sh_84 rfl ?_
    refine mj_iconst C (v := 0) dX8_register_19 rfl ?_
    refine mj_iald C dX8_register_20 sh_92 ?_
    refine mj_iload_n C 1 dX8_register_21 (i := 1) rfl rfl ?_
    refine mj_ishr C dX8_register_22 ?_
    refine mj_iconst C (v := 1) dX8_register_23 rfl ?_
    refine mj_iand C dX8_register_24 ?_
    refine mj_istore_nL C (fun l3_3 => [(3, .int l3_3), (0, rf K 84), (1, .int l1), (2, .int (md_bi l2))]) dX8_register_25 (i := 3) rfl (by decide) rfl (fun l3_3 => ?_)
    refine mj_aload_n C 1 dX8_register_26 (i := 0) rfl rfl ?_
    refine mj_getR C ff_X8_31 dX8_register_27 sh_84 rfl ?_
    refine mj_iconst C (v := 0) dX8_register_30 rfl ?_
    refine mj_iload_n C 3 dX8_register_31 (i := 2) rfl rfl ?_
    refine mj_phi1 60 (fun (v_4 : Int32) => [(3, .int l3_3)]) (fun (v_4 : Int32) => [.int v_4, .int (0 : Int32), rf K 92]) (fun (v_4 : Int32) => h_2) (fun P' kj_5 => ?_) (fun v_4 => ?_)
    · refine mj_b_eq C 48 dX8_register_32 (by decide) ?_ ?_
      · refine mj_aload_n C 1 dX8_register_48 (i := 0) rfl rfl ?_
        refine mj_getR C ff_X8_31 dX8_register_49 sh_84 rfl ?_
        refine mj_iconst C (v := 0) dX8_register_52 rfl ?_
        refine mj_iald C dX8_register_53 sh_92 ?_
        refine mj_iconst C (v := 1) dX8_register_54 rfl ?_
        refine mj_iload_n C 2 dX8_register_55 (i := 1) rfl rfl ?_
        refine mj_ishl C dX8_register_56 ?_
        refine mj_iconst C (v := -1) dX8_register_57 rfl ?_
        refine mj_ixor C dX8_register_58 ?_
        refine mj_iand C dX8_register_59 ?_
        exact mj_sub [0] rfl (mj_some (kj_5 ((h_2 92 ((0 : Int32)).toNatClampNeg) &&& (((1 : Int32) <<< (l1 &&& 31)) ^^^ (-1 : Int32)))))
      · refine mj_aload_n C 1 dX8_register_35 (i := 0) rfl rfl ?_
        refine mj_getR C ff_X8_31 dX8_register_36 sh_84 rfl ?_
        refine mj_iconst C (v := 0) dX8_register_39 rfl ?_
        refine mj_iald C dX8_register_40 sh_92 ?_
        refine mj_iconst C (v := 1) dX8_register_41 rfl ?_
        refine mj_iload_n C 2 dX8_register_42 (i := 1) rfl rfl ?_
        refine mj_ishl C dX8_register_43 ?_
        refine mj_ior C dX8_register_44 ?_
        refine mj_goto C 60 dX8_register_45 (by decide) ?_
        exact mj_sub [0] rfl (mj_some (kj_5 ((h_2 92 ((0 : Int32)).toNatClampNeg) ||| ((1 : Int32) <<< (l1 &&& 31)))))
    · refine mj_iast C dX8_register_60 sh_92 (fun h_6 => ?_)
      refine mj_iload_n C 0 dX8_register_61 (i := 3) rfl rfl ?_
      exact mj_rIM C N dX8_register_62
  · refine mj_ldc C kc_X8_241 dX8_register_8 ?_
    exact mj_rIM C N dX8_register_10
noncomputable def fX8_draw (h : Mm) (l1 : Int32) : Option (Int32 × Mm) := md_lt (md_up h 84 14 ((((((h 84 14)).toInt64 * (1103515245 : Int64)) + (12345 : Int64)) - ((((h 84 14)).toInt64 * (1103515245 : Int64)) + (12345 : Int64)) / (2147483648 : Int64) * (2147483648 : Int64))).toInt32) (fun h_1 : Mm => md_ck (decide (¬ l1 = 0)) (some ((((h_1 84 14) / (65536 : Int32)) - ((h_1 84 14) / (65536 : Int32)) / l1 * l1), h_1)))
set_option maxRecDepth 100000 in
set_option maxHeartbeats 4000000 in
theorem ctX8_draw (K : Kx) (h : Mm) (l1 : Int32) {a : Int32 × Mm} (hF : fX8_draw h l1 = some a) : Mt K yX8_draw cX8_draw 2 (some .int) 0 0 SHc [rf K 84, .int l1] h (some (.int a.1)) a.2 := by
  refine Mt.of hF [(0, rf K 84), (1, .int l1)] (by decide) (Nat.le_of_ble_eq_true rfl) rfl (fun Y C N => ?_)
  have C : Cx K Y (0, 0) cX8_draw RX8 2 0 0 := C
  unfold fX8_draw
  refine mj_aload_n C 0 dX8_draw_0 (i := 0) rfl rfl ?_
  refine mj_aload_n C 0 dX8_draw_1 (i := 0) rfl rfl ?_
  refine mj_getI C ff_X8_273 dX8_draw_2 sh_84 rfl ?_
  refine mj_i2l C dX8_draw_5 ?_
  refine mj_ldc2 C kc_X8_276 dX8_draw_6 ?_
  refine mj_lmul C dX8_draw_9 ?_
  refine mj_ldc2 C kc_X8_278 dX8_draw_10 ?_
  refine mj_ladd C dX8_draw_13 ?_
  refine mj_ldc2 C kc_X8_280 dX8_draw_14 ?_
  refine mj_lrem C dX8_draw_17 (by decide) ?_
  refine mj_l2i C dX8_draw_18 ?_
  refine mj_putL C fp_X8_273 dX8_draw_19 sh_84 rfl rfl rfl (fun h_1 => ?_)
  refine mj_aload_n C 0 dX8_draw_22 (i := 0) rfl rfl ?_
  refine mj_getI C ff_X8_273 dX8_draw_23 sh_84 rfl ?_
  refine mj_ldcw C kc_X8_282 dX8_draw_26 ?_
  refine mj_idiv C dX8_draw_29 (by decide) ?_
  refine mj_iload_n C 1 dX8_draw_30 (i := 1) rfl rfl ?_
  refine mj_iremC C dX8_draw_31 ?_
  exact mj_rIM C N dX8_draw_32
noncomputable def fX8_dayByDraws (h : Mm) : Option (Mm) := md_b2 (fX8_draw h (h 84 12)) (fun r_1 h_2 => md_b2 (fX8_draw h_2 ((1 : Int32) <<< ((h_2 84 2) &&& 31))) (fun r_3 h_4 => md_ck (md_in ((2 : Int32) + r_1) 9) (md_lt (md_up h_4 92 (((2 : Int32) + r_1)).toNatClampNeg r_3) (fun h_5 : Mm => md_bd (fX8_isStuck h_5 r_1) (fun r_6 => md_b2 ((if r_6 = true then md_b2 (fX8_draw h_5 (100 : Int32)) (fun r_12 h_13 => md_bd ((if r_12 < (h_13 84 1) then some false else some true)) (fun (v_14 : Bool) => md_b2 (fX8_roundNow h_13 r_1 v_14) (fun r_16 h_17 => some (r_16, h_17)))) else md_b2 (fX8_passNow h_5 r_1) (fun r_10 h_11 => some (r_10, h_11)))) (fun (v_7 : Int32) (h_8 : Mm) => md_ck (md_in (1 : Int32) 9) (md_bd ((if v_7 < 0 then some (0 : Int32) else some ((1 : Int32) <<< (r_1 &&& 31)))) (fun (v_18 : Int32) => md_ck (md_in (1 : Int32) 9) (md_lt (md_up h_8 92 ((1 : Int32)).toNatClampNeg ((h_8 92 ((1 : Int32)).toNatClampNeg) ||| v_18)) (fun h_20 : Mm => some h_20))))))))))
set_option maxRecDepth 100000 in
set_option maxHeartbeats 4000000 in
theorem ctX8_dayByDraws (K : Kx) (h : Mm) {a : Mm} (hF : fX8_dayByDraws h = some a) : Mt K yX8_dayByDraws cX8_dayByDraws 3 none 5 112 SHc [rf K 84] h none a := by
  refine Mt.of hF [(0, rf K 84)] (by decide) (Nat.le_of_ble_eq_true rfl) rfl (fun Y C N => ?_)
  have C : Cx K Y (0, 0) cX8_dayByDraws RX8 3 5 112 := C
  unfold fX8_dayByDraws
  refine mj_aload_n C 0 dX8_dayByDraws_0 (i := 0) rfl rfl ?_
  refine mj_aload_n C 0 dX8_dayByDraws_1 (i := 0) rfl rfl ?_
  refine mj_getI C ff_X8_110 dX8_dayByDraws_2 sh_84 rfl ?_
  refine mj_vIM C my_X8_draw mv_X8_283 dX8_dayByDraws_5 sh_84 rfl (fun a hF => ctX8_draw K h (h 84 12)  hF) (by decide) (by decide) rfl rfl (Nat.le_of_ble_eq_true rfl) (fun r_1 h_2 => ?_)
  refine mj_istore_n C [(1, .int r_1), (0, rf K 84)] dX8_dayByDraws_8 (i := 1) rfl (by decide) rfl ?_
  refine mj_aload_n C 1 dX8_dayByDraws_9 (i := 0) rfl rfl ?_
  refine mj_getR C ff_X8_31 dX8_dayByDraws_10 sh_84 rfl ?_
  refine mj_iconst C (v := 2) dX8_dayByDraws_13 rfl ?_
  refine mj_iload_n C 0 dX8_dayByDraws_14 (i := 1) rfl rfl ?_
  refine mj_iadd C dX8_dayByDraws_15 ?_
  refine mj_aload_n C 1 dX8_dayByDraws_16 (i := 0) rfl rfl ?_
  refine mj_iconst C (v := 1) dX8_dayByDraws_17 rfl ?_
  refine mj_aload_n C 1 dX8_dayByDraws_18 (i := 0) rfl rfl ?_
  refine mj_getI C ff_X8_103 dX8_dayByDraws_19 sh_84 rfl ?_
  refine mj_ishl C dX8_dayByDraws_22 ?_
  refine mj_vIM C my_X8_draw mv_X8_283 dX8_dayByDraws_23 sh_84 rfl (fun a hF => ctX8_draw K h_2 ((1 : Int32) <<< ((h_2 84 2) &&& 31))  hF) (by decide) (by decide) rfl rfl (Nat.le_of_ble_eq_true rfl) (fun r_3 h_4 => ?_)
  refine mj_iast C dX8_dayByDraws_26 sh_92 (fun h_5 => ?_)
  refine mj_aload_n C 1 dX8_dayByDraws_27 (i := 0) rfl rfl ?_
  refine mj_iload_n C 0 dX8_dayByDraws_28 (i := 1) rfl rfl ?_
  refine mj_vB C my_X8_isStuck mv_X8_232 dX8_dayByDraws_29 sh_84 rfl (fun a hF => ctX8_isStuck K h_5 r_1  hF) (by decide) (by decide) rfl rfl (Nat.le_of_ble_eq_true rfl) (fun r_6 => ?_)
  refine mj_phi2 66 (fun (v_7 : Int32) (h_8 : Mm) => [(0, rf K 84), (1, .int r_1)]) (fun (v_7 : Int32) (h_8 : Mm) => [.int v_7]) (fun (v_7 : Int32) (h_8 : Mm) => h_8) (fun P' kj_9 => ?_) (fun v_7 h_8 => ?_)
  · refine mj_b_eq C 61 dX8_dayByDraws_32 (by decide) ?_ ?_
    · refine mj_aload_n C 1 dX8_dayByDraws_61 (i := 0) rfl rfl ?_
      refine mj_iload_n C 0 dX8_dayByDraws_62 (i := 1) rfl rfl ?_
      refine mj_vIM C my_X8_passNow mv_X8_255 dX8_dayByDraws_63 sh_84 rfl (fun a hF => ctX8_passNow K h_5 r_1  hF) (by decide) (by decide) rfl rfl (Nat.le_of_ble_eq_true rfl) (fun r_10 h_11 => ?_)
      exact mj_sub [1, 0] rfl (mj_some (kj_9 r_10 h_11))
    · refine mj_aload_n C 1 dX8_dayByDraws_35 (i := 0) rfl rfl ?_
      refine mj_iload_n C 0 dX8_dayByDraws_36 (i := 1) rfl rfl ?_
      refine mj_aload_n C 1 dX8_dayByDraws_37 (i := 0) rfl rfl ?_
      refine mj_bipush C (v := 100) dX8_dayByDraws_38 rfl ?_
      refine mj_vIM C my_X8_draw mv_X8_283 dX8_dayByDraws_40 sh_84 rfl (fun a hF => ctX8_draw K h_5 (100 : Int32)  hF) (by decide) (by decide) rfl rfl (Nat.le_of_ble_eq_true rfl) (fun r_12 h_13 => ?_)
      refine mj_aload_n C 1 dX8_dayByDraws_43 (i := 0) rfl rfl ?_
      refine mj_getI C ff_X8_196 dX8_dayByDraws_44 sh_84 rfl ?_
      refine mj_phi1 55 (fun (v_14 : Bool) => [(0, rf K 84), (1, .int r_1)]) (fun (v_14 : Bool) => [.int (md_bi v_14), .int r_1, rf K 84]) (fun (v_14 : Bool) => h_13) (fun P' kj_15 => ?_) (fun v_14 => ?_)
      · refine mj_icmp_lt C 54 dX8_dayByDraws_47 (by decide) ?_ ?_
        · refine mj_iconst C (v := 0) dX8_dayByDraws_54 rfl ?_
          exact mj_sub [1, 0] rfl (mj_some (kj_15 false))
        · refine mj_iconst C (v := 1) dX8_dayByDraws_50 rfl ?_
          refine mj_goto C 55 dX8_dayByDraws_51 (by decide) ?_
          exact mj_sub [1, 0] rfl (mj_some (kj_15 true))
      · refine mj_vIM C my_X8_roundNow mv_X8_258 dX8_dayByDraws_55 sh_84 rfl (fun a hF => ctX8_roundNow K h_13 r_1 v_14  hF) (by decide) (by decide) rfl rfl (Nat.le_of_ble_eq_true rfl) (fun r_16 h_17 => ?_)
        refine mj_goto C 66 dX8_dayByDraws_58 (by decide) ?_
        exact mj_sub [0, 1] rfl (mj_some (kj_9 r_16 h_17))
  · refine mj_istore_n C [(2, .int v_7), (0, rf K 84), (1, .int r_1)] dX8_dayByDraws_66 (i := 2) rfl (by decide) rfl ?_
    refine mj_aload_n C 1 dX8_dayByDraws_67 (i := 0) rfl rfl ?_
    refine mj_getR C ff_X8_31 dX8_dayByDraws_68 sh_84 rfl ?_
    refine mj_iconst C (v := 1) dX8_dayByDraws_71 rfl ?_
    refine mj_dup2 C dX8_dayByDraws_72 rfl rfl ?_
    refine mj_iald C dX8_dayByDraws_73 sh_92 ?_
    refine mj_iload_n C 0 dX8_dayByDraws_74 (i := 2) rfl rfl ?_
    refine mj_phi1 85 (fun (v_18 : Int32) => []) (fun (v_18 : Int32) => [.int v_18, .int (h_8 92 ((1 : Int32)).toNatClampNeg), .int (1 : Int32), rf K 92]) (fun (v_18 : Int32) => h_8) (fun P' kj_19 => ?_) (fun v_18 => ?_)
    · refine mj_if_lt C 84 dX8_dayByDraws_75 (by decide) ?_ ?_
      · refine mj_iconst C (v := 0) dX8_dayByDraws_84 rfl ?_
        exact mj_sub [] rfl (mj_some (kj_19 (0 : Int32)))
      · refine mj_iconst C (v := 1) dX8_dayByDraws_78 rfl ?_
        refine mj_iload_n C 2 dX8_dayByDraws_79 (i := 1) rfl rfl ?_
        refine mj_ishl C dX8_dayByDraws_80 ?_
        refine mj_goto C 85 dX8_dayByDraws_81 (by decide) ?_
        exact mj_sub [] rfl (mj_some (kj_19 ((1 : Int32) <<< (r_1 &&& 31))))
    · refine mj_ior C dX8_dayByDraws_85 ?_
      refine mj_iast C dX8_dayByDraws_86 sh_92 (fun h_20 => ?_)
      exact mj_rV C N dX8_dayByDraws_87
noncomputable def fX8_drift_31 : Nat → Mm → Int32 → Int32 → Option (Mm)
  | 0, _, _, _ => none
  | n + 1, h, l1, l2 => (if l1 ≤ l2 then some h else (if (h 84 12) ≤ 0 then some h else (if (h 84 2) ≤ 0 then some h else md_bd (fX8_dayByDraws h) (fun h_3 => fX8_drift_31 n h_3 l1 (l2 + 1)))))
set_option maxRecDepth 100000 in
set_option maxHeartbeats 4000000 in
theorem lX8_drift_31 {K : Kx} {Y : Yx} {cs : Nat × Nat} (C : Cx K Y cs cX8_drift RX8 3 6 134) {P : Mm → Prop} : ∀ (n : Nat) (h : Mm) (l1 : Int32) (l2 : Int32), (∀ (hw : Mm), J SHc K Y cs (P hw) 60 [(0, rf K 84)] [] hw) → J SHc K Y cs (mj_O (fX8_drift_31 n h l1 l2) P) 31 [(0, rf K 84), (1, .int l1), (2, .int l2)] [] h := by
  intro n
  induction n with
  | zero => intro h l1 l2 kk0; exact mj_none
  | succ n ih =>
    intro h l1 l2 kk0
    rw [fX8_drift_31]
    refine mj_iload_n C 2 dX8_drift_31 (i := 2) rfl rfl ?_
    refine mj_iload_n C 1 dX8_drift_32 (i := 1) rfl rfl ?_
    refine mj_icmp_ge C 60 dX8_drift_33 (by decide) ?_ ?_
    · exact mj_sub [0] rfl (mj_some (kk0 h))
    · refine mj_aload_n C 0 dX8_drift_36 (i := 0) rfl rfl ?_
      refine mj_getI C ff_X8_110 dX8_drift_37 sh_84 rfl ?_
      refine mj_if_le C 60 dX8_drift_40 (by decide) ?_ ?_
      · exact mj_sub [0] rfl (mj_some (kk0 h))
      · refine mj_aload_n C 0 dX8_drift_43 (i := 0) rfl rfl ?_
        refine mj_getI C ff_X8_103 dX8_drift_44 sh_84 rfl ?_
        refine mj_if_le C 60 dX8_drift_47 (by decide) ?_ ?_
        · exact mj_sub [0] rfl (mj_some (kk0 h))
        · refine mj_aload_n C 0 dX8_drift_50 (i := 0) rfl rfl ?_
          refine mj_vM C my_X8_dayByDraws mv_X8_288 dX8_drift_51 sh_84 rfl (fun a hF => ctX8_dayByDraws K h   hF) (by decide) (by decide) rfl rfl (Nat.le_of_ble_eq_true rfl) (fun h_3 => ?_)
          refine mj_iinc C (l2 + 1) 2 [(2, .int (l2 + 1)), (0, rf K 84), (1, .int l1)] dX8_drift_54 rfl rfl (by decide) rfl ?_
          refine mj_goto C 31 dX8_drift_57 (by decide) ?_
          exact mj_sub [1, 2, 0] rfl (ih h_3 l1 (l2 + 1) kk0)
noncomputable def fX8_drift (h : Mm) (l1 : Int32) : Option (Int32 × Mm) := md_bd (fX8_in h ((l1).toInt64) (1 : Int64) (60 : Int64)) (fun r_1 => (if r_1 = true then (if (h 84 0) = 0 then some ((-1000000003 : Int32), h) else md_bd (fX8_remember h) (fun h_2 => md_bd (fX8_drift_31 md_N h_2 l1 (0 : Int32)) (fun (h_4 : Mm) => md_ck (md_in (7 : Int32) 9) (some ((h_4 92 ((7 : Int32)).toNatClampNeg), h_4))))) else some ((-1000000002 : Int32), h)))
set_option maxRecDepth 100000 in
set_option maxHeartbeats 4000000 in
theorem ctX8_drift (K : Kx) (h : Mm) (l1 : Int32) {a : Int32 × Mm} (hF : fX8_drift h l1 = some a) : Mt K yX8_drift cX8_drift 3 (some .int) 6 134 SHc [rf K 84, .int l1] h (some (.int a.1)) a.2 := by
  refine Mt.of hF [(0, rf K 84), (1, .int l1)] (by decide) (Nat.le_of_ble_eq_true rfl) rfl (fun Y C N => ?_)
  have C : Cx K Y (0, 0) cX8_drift RX8 3 6 134 := C
  unfold fX8_drift
  refine mj_iload_n C 1 dX8_drift_0 (i := 1) rfl rfl ?_
  refine mj_i2l C dX8_drift_1 ?_
  refine mj_lconst C (v := 1) dX8_drift_2 rfl ?_
  refine mj_ldc2 C kc_X8_286 dX8_drift_3 ?_
  refine mj_sB C my_X8_in ms_X8_106 dX8_drift_6 (fun a hF => ctX8_in K h ((l1).toInt64) (1 : Int64) (60 : Int64)  hF) (by decide) (by decide) rfl rfl (Nat.le_of_ble_eq_true rfl) (fun r_1 => ?_)
  refine mj_b_ne C 15 dX8_drift_9 (by decide) ?_ ?_
  · refine mj_aload_n C 0 dX8_drift_15 (i := 0) rfl rfl ?_
    refine mj_getI C ff_X8_99 dX8_drift_16 sh_84 rfl ?_
    refine mj_if_ne C 25 dX8_drift_19 (by decide) ?_ ?_
    · refine mj_aload_n C 0 dX8_drift_25 (i := 0) rfl rfl ?_
      refine mj_vM C my_X8_remember mv_X8_252 dX8_drift_26 sh_84 rfl (fun a hF => ctX8_remember K h   hF) (by decide) (by decide) rfl rfl (Nat.le_of_ble_eq_true rfl) (fun h_2 => ?_)
      refine mj_iconst C (v := 0) dX8_drift_29 rfl ?_
      refine mj_istore_n C [(2, .int (0 : Int32)), (0, rf K 84), (1, .int l1)] dX8_drift_30 (i := 2) rfl (by decide) rfl ?_
      refine mj_phi1 60 (fun (h_4 : Mm) => [(0, rf K 84)]) (fun (h_4 : Mm) => []) (fun (h_4 : Mm) => h_4) (fun P' kj_5 => mj_sub [1, 2, 0] rfl (lX8_drift_31 C md_N h_2 l1 (0 : Int32) kj_5)) (fun h_4 => ?_)
      refine mj_aload_n C 0 dX8_drift_60 (i := 0) rfl rfl ?_
      refine mj_getR C ff_X8_31 dX8_drift_61 sh_84 rfl ?_
      refine mj_bipush C (v := 7) dX8_drift_64 rfl ?_
      refine mj_iald C dX8_drift_66 sh_92 ?_
      exact mj_rIM C N dX8_drift_67
    · refine mj_ldc C kc_X8_251 dX8_drift_22 ?_
      exact mj_rIM C N dX8_drift_24
  · refine mj_ldc C kc_X8_115 dX8_drift_12 ?_
    exact mj_rIM C N dX8_drift_14
noncomputable def fX8_undo_22 : Nat → Mm → Int32 → Option (Mm)
  | 0, _, _ => none
  | n + 1, h, l1 => (if (9 : Int32) ≤ l1 then some h else md_ck (md_in (((9 : Int32) * (h 84 35)) + l1) 180) (md_ck (md_in l1 9) (md_lt (md_up h 92 (l1).toNatClampNeg (h 103 ((((9 : Int32) * (h 84 35)) + l1)).toNatClampNeg)) (fun h_2 : Mm => fX8_undo_22 n h_2 (l1 + 1)))))
set_option maxRecDepth 100000 in
set_option maxHeartbeats 4000000 in
theorem lX8_undo_22 {K : Kx} {Y : Yx} {cs : Nat × Nat} (C : Cx K Y cs cX8_undo RX8 2 0 0) {P : Mm → Prop} : ∀ (n : Nat) (h : Mm) (l1 : Int32), (∀ (hw : Mm), J SHc K Y cs (P hw) 54 [(0, rf K 84)] [] hw) → J SHc K Y cs (mj_O (fX8_undo_22 n h l1) P) 22 [(0, rf K 84), (1, .int l1)] [] h := by
  intro n
  induction n with
  | zero => intro h l1 kk0; exact mj_none
  | succ n ih =>
    intro h l1 kk0
    rw [fX8_undo_22]
    refine mj_iload_n C 1 dX8_undo_22 (i := 1) rfl rfl ?_
    refine mj_bipush C (v := 9) dX8_undo_23 rfl ?_
    refine mj_icmp_ge C 54 dX8_undo_25 (by decide) ?_ ?_
    · exact mj_sub [0] rfl (mj_some (kk0 h))
    · refine mj_aload_n C 0 dX8_undo_28 (i := 0) rfl rfl ?_
      refine mj_getR C ff_X8_31 dX8_undo_29 sh_84 rfl ?_
      refine mj_iload_n C 1 dX8_undo_32 (i := 1) rfl rfl ?_
      refine mj_aload_n C 0 dX8_undo_33 (i := 0) rfl rfl ?_
      refine mj_getR C ff_X8_68 dX8_undo_34 sh_84 rfl ?_
      refine mj_bipush C (v := 9) dX8_undo_37 rfl ?_
      refine mj_aload_n C 0 dX8_undo_39 (i := 0) rfl rfl ?_
      refine mj_getI C ff_X8_217 dX8_undo_40 sh_84 rfl ?_
      refine mj_imul C dX8_undo_43 ?_
      refine mj_iload_n C 1 dX8_undo_44 (i := 1) rfl rfl ?_
      refine mj_iadd C dX8_undo_45 ?_
      refine mj_iald C dX8_undo_46 sh_103 ?_
      refine mj_iast C dX8_undo_47 sh_92 (fun h_2 => ?_)
      refine mj_iinc C (l1 + 1) 1 [(1, .int (l1 + 1)), (0, rf K 84)] dX8_undo_48 rfl rfl (by decide) rfl ?_
      refine mj_goto C 22 dX8_undo_51 (by decide) ?_
      exact mj_sub [1, 0] rfl (ih h_2 (l1 + 1) kk0)
noncomputable def fX8_undo (h : Mm) : Option (Int32 × Mm) := (if (h 84 35) = 0 then some ((-1000000003 : Int32), h) else md_lt (md_up h 84 35 ((h 84 35) - (1 : Int32))) (fun h_1 : Mm => md_bd (fX8_undo_22 md_N h_1 (0 : Int32)) (fun (h_3 : Mm) => some ((h_3 84 35), h_3))))
set_option maxRecDepth 100000 in
set_option maxHeartbeats 4000000 in
theorem ctX8_undo (K : Kx) (h : Mm) {a : Int32 × Mm} (hF : fX8_undo h = some a) : Mt K yX8_undo cX8_undo 2 (some .int) 0 0 SHc [rf K 84] h (some (.int a.1)) a.2 := by
  refine Mt.of hF [(0, rf K 84)] (by decide) (Nat.le_of_ble_eq_true rfl) rfl (fun Y C N => ?_)
  have C : Cx K Y (0, 0) cX8_undo RX8 2 0 0 := C
  unfold fX8_undo
  refine mj_aload_n C 0 dX8_undo_0 (i := 0) rfl rfl ?_
  refine mj_getI C ff_X8_217 dX8_undo_1 sh_84 rfl ?_
  refine mj_if_ne C 10 dX8_undo_4 (by decide) ?_ ?_
  · refine mj_aload_n C 0 dX8_undo_10 (i := 0) rfl rfl ?_
    refine mj_dup C dX8_undo_11 rfl ?_
    refine mj_getI C ff_X8_217 dX8_undo_12 sh_84 rfl ?_
    refine mj_iconst C (v := 1) dX8_undo_15 rfl ?_
    refine mj_isub C dX8_undo_16 ?_
    refine mj_putL C fp_X8_217 dX8_undo_17 sh_84 rfl rfl rfl (fun h_1 => ?_)
    refine mj_iconst C (v := 0) dX8_undo_20 rfl ?_
    refine mj_istore_n C [(1, .int (0 : Int32)), (0, rf K 84)] dX8_undo_21 (i := 1) rfl (by decide) rfl ?_
    refine mj_phi1 54 (fun (h_3 : Mm) => [(0, rf K 84)]) (fun (h_3 : Mm) => []) (fun (h_3 : Mm) => h_3) (fun P' kj_4 => mj_sub [1, 0] rfl (lX8_undo_22 C md_N h_1 (0 : Int32) kj_4)) (fun h_3 => ?_)
    refine mj_aload_n C 0 dX8_undo_54 (i := 0) rfl rfl ?_
    refine mj_getI C ff_X8_217 dX8_undo_55 sh_84 rfl ?_
    exact mj_rIM C N dX8_undo_58
  · refine mj_ldc C kc_X8_251 dX8_undo_7 ?_
    exact mj_rIM C N dX8_undo_9
noncomputable def fX8_follows (h : Mm) (l1 : Int32) : Option (Int32) := md_bd (fX8_isSet h l1) (fun r_1 => md_bd ((if r_1 = true then md_bd (fX8_close h l1) (fun r_4 => some r_4) else some (-1000000001 : Int32))) (fun (v_2 : Int32) => some v_2))
set_option maxRecDepth 100000 in
set_option maxHeartbeats 4000000 in
theorem ctX8_follows (K : Kx) (h : Mm) (l1 : Int32) {a : Int32} (hF : fX8_follows h l1 = some a) : Mt K yX8_follows cX8_follows 2 (some .int) 2 46 SHc [rf K 84, .int l1] h (some (.int a)) h := by
  refine Mt.of hF [(0, rf K 84), (1, .int l1)] (by decide) (Nat.le_of_ble_eq_true rfl) rfl (fun Y C N => ?_)
  have C : Cx K Y (0, 0) cX8_follows RX8 2 2 46 := C
  unfold fX8_follows
  refine mj_aload_n C 0 dX8_follows_0 (i := 0) rfl rfl ?_
  refine mj_iload_n C 1 dX8_follows_1 (i := 1) rfl rfl ?_
  refine mj_vB C my_X8_isSet mv_X8_270 dX8_follows_2 sh_84 rfl (fun a hF => ctX8_isSet K h l1  hF) (by decide) (by decide) rfl rfl (Nat.le_of_ble_eq_true rfl) (fun r_1 => ?_)
  refine mj_phi1 18 (fun (v_2 : Int32) => []) (fun (v_2 : Int32) => [.int v_2]) (fun (v_2 : Int32) => h) (fun P' kj_3 => ?_) (fun v_2 => ?_)
  · refine mj_b_eq C 16 dX8_follows_5 (by decide) ?_ ?_
    · refine mj_ldc C kc_X8_241 dX8_follows_16 ?_
      exact mj_sub [] rfl (mj_some (kj_3 (-1000000001 : Int32)))
    · refine mj_aload_n C 0 dX8_follows_8 (i := 0) rfl rfl ?_
      refine mj_iload_n C 1 dX8_follows_9 (i := 1) rfl rfl ?_
      refine mj_vI C my_X8_close mv_X8_220 dX8_follows_10 sh_84 rfl (fun a hF => ctX8_close K h l1  hF) (by decide) (by decide) rfl rfl (Nat.le_of_ble_eq_true rfl) (fun r_4 => ?_)
      refine mj_goto C 18 dX8_follows_13 (by decide) ?_
      exact mj_sub [] rfl (mj_some (kj_3 r_4))
  · exact mj_rI C N dX8_follows_18
noncomputable def fX8_owed (h : Mm) (l1 : Int32) : Option (Int32) := md_bd (fX8_isSet h l1) (fun r_1 => md_bd ((if r_1 = true then md_bd (fX8_owedFor h l1) (fun r_4 => some r_4) else some (-1000000001 : Int32))) (fun (v_2 : Int32) => some v_2))
set_option maxRecDepth 100000 in
set_option maxHeartbeats 4000000 in
theorem ctX8_owed (K : Kx) (h : Mm) (l1 : Int32) {a : Int32} (hF : fX8_owed h l1 = some a) : Mt K yX8_owed cX8_owed 2 (some .int) 4 90 SHc [rf K 84, .int l1] h (some (.int a)) h := by
  refine Mt.of hF [(0, rf K 84), (1, .int l1)] (by decide) (Nat.le_of_ble_eq_true rfl) rfl (fun Y C N => ?_)
  have C : Cx K Y (0, 0) cX8_owed RX8 2 4 90 := C
  unfold fX8_owed
  refine mj_aload_n C 0 dX8_owed_0 (i := 0) rfl rfl ?_
  refine mj_iload_n C 1 dX8_owed_1 (i := 1) rfl rfl ?_
  refine mj_vB C my_X8_isSet mv_X8_270 dX8_owed_2 sh_84 rfl (fun a hF => ctX8_isSet K h l1  hF) (by decide) (by decide) rfl rfl (Nat.le_of_ble_eq_true rfl) (fun r_1 => ?_)
  refine mj_phi1 18 (fun (v_2 : Int32) => []) (fun (v_2 : Int32) => [.int v_2]) (fun (v_2 : Int32) => h) (fun P' kj_3 => ?_) (fun v_2 => ?_)
  · refine mj_b_eq C 16 dX8_owed_5 (by decide) ?_ ?_
    · refine mj_ldc C kc_X8_241 dX8_owed_16 ?_
      exact mj_sub [] rfl (mj_some (kj_3 (-1000000001 : Int32)))
    · refine mj_aload_n C 0 dX8_owed_8 (i := 0) rfl rfl ?_
      refine mj_iload_n C 1 dX8_owed_9 (i := 1) rfl rfl ?_
      refine mj_vI C my_X8_owedFor mv_X8_245 dX8_owed_10 sh_84 rfl (fun a hF => ctX8_owedFor K h l1  hF) (by decide) (by decide) rfl rfl (Nat.le_of_ble_eq_true rfl) (fun r_4 => ?_)
      refine mj_goto C 18 dX8_owed_13 (by decide) ?_
      exact mj_sub [] rfl (mj_some (kj_3 r_4))
  · exact mj_rI C N dX8_owed_18
noncomputable def fX8_parts_29 : Nat → Mm → Int32 → Int32 → Int32 → Int32 → Option (Int32)
  | 0, _, _, _, _, _ => none
  | n + 1, h, l1, l2, l3, l4 => (if ((1 : Int32) <<< ((h 84 2) &&& 31)) ≤ l4 then some l3 else md_bd (fX8_has h l4 l1) (fun r_3 => md_bd ((if r_3 = true then some false else (if l3 < 0 then some true else md_bd (fX8_sizeOf h l4) (fun r_6 => md_bd (fX8_sizeOf h l3) (fun r_7 => (if r_7 ≤ r_6 then some false else some true)))))) (fun (v_4 : Bool) => md_bd ((if v_4 = true then md_ck (md_in (0 : Int32) 9) (md_bd (fX8_close h ((h 92 ((0 : Int32)).toNatClampNeg) ||| l4)) (fun r_10 => md_bd (fX8_has h r_10 l1) (fun r_11 => (if r_11 = true then some l4 else some l3)))) else some l3)) (fun (v_8 : Int32) => fX8_parts_29 n h l1 l2 v_8 (l4 + 1)))))
set_option maxRecDepth 100000 in
set_option maxHeartbeats 4000000 in
theorem lX8_parts_29 {K : Kx} {Y : Yx} {cs : Nat × Nat} (C : Cx K Y cs cX8_parts RX8 6 2 46) {P : Int32 → Prop} : ∀ (n : Nat) (h : Mm) (l1 : Int32) (l2 : Int32) (l3 : Int32) (l4 : Int32), (∀ (w3 : Int32), J SHc K Y cs (P w3) 112 [(0, rf K 84), (2, .int l2), (3, .int w3)] [] h) → J SHc K Y cs (mj_O (fX8_parts_29 n h l1 l2 l3 l4) P) 29 [(0, rf K 84), (1, .int l1), (2, .int l2), (3, .int l3), (4, .int l4)] [] h := by
  intro n
  induction n with
  | zero => intro h l1 l2 l3 l4 kk0; exact mj_none
  | succ n ih =>
    intro h l1 l2 l3 l4 kk0
    rw [fX8_parts_29]
    refine mj_iload C 4 dX8_parts_29 rfl ?_
    refine mj_iconst C (v := 1) dX8_parts_31 rfl ?_
    refine mj_aload_n C 0 dX8_parts_32 (i := 0) rfl rfl ?_
    refine mj_getI C ff_X8_103 dX8_parts_33 sh_84 rfl ?_
    refine mj_ishl C dX8_parts_36 ?_
    refine mj_icmp_ge C 112 dX8_parts_37 (by decide) ?_ ?_
    · exact mj_sub [0, 2, 3] rfl (mj_some (kk0 l3))
    · refine mj_iload C 4 dX8_parts_40 rfl ?_
      refine mj_iload_n C 1 dX8_parts_42 (i := 1) rfl rfl ?_
      refine mj_sB C my_X8_has ms_X8_160 dX8_parts_43 (fun a hF => ctX8_has K h l4 l1  hF) (by decide) (by decide) rfl rfl (Nat.le_of_ble_eq_true rfl) (fun r_3 => ?_)
      refine mj_phi1 72 (fun (v_4 : Bool) => [(0, rf K 84), (1, .int l1), (2, .int l2), (3, .int l3), (4, .int l4)]) (fun (v_4 : Bool) => [.int (md_bi v_4)]) (fun (v_4 : Bool) => h) (fun P' kj_5 => ?_) (fun v_4 => ?_)
      · refine mj_b_ne C 71 dX8_parts_46 (by decide) ?_ ?_
        · refine mj_iconst C (v := 0) dX8_parts_71 rfl ?_
          exact mj_sub [0, 1, 2, 3, 4] rfl (mj_some (kj_5 false))
        · refine mj_iload_n C 3 dX8_parts_49 (i := 3) rfl rfl ?_
          refine mj_if_lt C 67 dX8_parts_50 (by decide) ?_ ?_
          · refine mj_iconst C (v := 1) dX8_parts_67 rfl ?_
            refine mj_goto C 72 dX8_parts_68 (by decide) ?_
            exact mj_sub [0, 1, 2, 3, 4] rfl (mj_some (kj_5 true))
          · refine mj_aload_n C 0 dX8_parts_53 (i := 0) rfl rfl ?_
            refine mj_iload C 4 dX8_parts_54 rfl ?_
            refine mj_vI C my_X8_sizeOf mv_X8_226 dX8_parts_56 sh_84 rfl (fun a hF => ctX8_sizeOf K h l4  hF) (by decide) (by decide) rfl rfl (Nat.le_of_ble_eq_true rfl) (fun r_6 => ?_)
            refine mj_aload_n C 0 dX8_parts_59 (i := 0) rfl rfl ?_
            refine mj_iload_n C 3 dX8_parts_60 (i := 3) rfl rfl ?_
            refine mj_vI C my_X8_sizeOf mv_X8_226 dX8_parts_61 sh_84 rfl (fun a hF => ctX8_sizeOf K h l3  hF) (by decide) (by decide) rfl rfl (Nat.le_of_ble_eq_true rfl) (fun r_7 => ?_)
            refine mj_icmp_ge C 71 dX8_parts_64 (by decide) ?_ ?_
            · refine mj_iconst C (v := 0) dX8_parts_71 rfl ?_
              exact mj_sub [0, 1, 2, 3, 4] rfl (mj_some (kj_5 false))
            · refine mj_iconst C (v := 1) dX8_parts_67 rfl ?_
              refine mj_goto C 72 dX8_parts_68 (by decide) ?_
              exact mj_sub [0, 1, 2, 3, 4] rfl (mj_some (kj_5 true))
      · refine mj_istore C [(5, .int (md_bi v_4)), (0, rf K 84), (1, .int l1), (2, .int l2), (3, .int l3), (4, .int l4)] dX8_parts_72 (by decide) rfl ?_
        refine mj_iload C 0 dX8_parts_74 rfl ?_
        refine mj_phi1 105 (fun (v_8 : Int32) => [(0, rf K 84), (1, .int l1), (2, .int l2), (4, .int l4)]) (fun (v_8 : Int32) => [.int v_8]) (fun (v_8 : Int32) => h) (fun P' kj_9 => ?_) (fun v_8 => ?_)
        · refine mj_b_eq C 104 dX8_parts_76 (by decide) ?_ ?_
          · refine mj_iload_n C 4 dX8_parts_104 (i := 3) rfl rfl ?_
            exact mj_sub [1, 2, 3, 5] rfl (mj_some (kj_9 l3))
          · refine mj_aload_n C 1 dX8_parts_79 (i := 0) rfl rfl ?_
            refine mj_aload_n C 1 dX8_parts_80 (i := 0) rfl rfl ?_
            refine mj_getR C ff_X8_31 dX8_parts_81 sh_84 rfl ?_
            refine mj_iconst C (v := 0) dX8_parts_84 rfl ?_
            refine mj_iald C dX8_parts_85 sh_92 ?_
            refine mj_iload C 5 dX8_parts_86 rfl ?_
            refine mj_ior C dX8_parts_88 ?_
            refine mj_vI C my_X8_close mv_X8_220 dX8_parts_89 sh_84 rfl (fun a hF => ctX8_close K h ((h 92 ((0 : Int32)).toNatClampNeg) ||| l4)  hF) (by decide) (by decide) rfl rfl (Nat.le_of_ble_eq_true rfl) (fun r_10 => ?_)
            refine mj_iload_n C 2 dX8_parts_92 (i := 1) rfl rfl ?_
            refine mj_sB C my_X8_has ms_X8_160 dX8_parts_93 (fun a hF => ctX8_has K h r_10 l1  hF) (by decide) (by decide) rfl rfl (Nat.le_of_ble_eq_true rfl) (fun r_11 => ?_)
            refine mj_b_eq C 104 dX8_parts_96 (by decide) ?_ ?_
            · refine mj_iload_n C 4 dX8_parts_104 (i := 3) rfl rfl ?_
              exact mj_sub [1, 2, 3, 5] rfl (mj_some (kj_9 l3))
            · refine mj_iload C 5 dX8_parts_99 rfl ?_
              refine mj_goto C 105 dX8_parts_101 (by decide) ?_
              exact mj_sub [1, 2, 3, 5] rfl (mj_some (kj_9 l4))
        · refine mj_istore_n C [(3, .int v_8), (0, rf K 84), (1, .int l1), (2, .int l2), (4, .int l4)] dX8_parts_105 (i := 3) rfl (by decide) rfl ?_
          refine mj_iinc C (l4 + 1) 4 [(4, .int (l4 + 1)), (3, .int v_8), (0, rf K 84), (1, .int l1), (2, .int l2)] dX8_parts_106 rfl rfl (by decide) rfl ?_
          refine mj_goto C 29 dX8_parts_109 (by decide) ?_
          exact mj_sub [2, 3, 4, 1, 0] rfl (ih h l1 l2 v_8 (l4 + 1) kk0)
noncomputable def fX8_parts (h : Mm) (l1 : Int32) (l2 : Int32) : Option (Int32) := md_bd (fX8_isIdea h l1) (fun r_1 => (if r_1 = true then md_bd (fX8_in h ((l2).toInt64) (0 : Int64) (1 : Int64)) (fun r_2 => (if r_2 = true then md_bd (fX8_parts_29 md_N h l1 l2 (-1 : Int32) (0 : Int32)) (fun (v_12 : Int32) => md_bd ((if v_12 < 0 then some v_12 else (if l2 = 0 then some v_12 else md_bd (fX8_sizeOf h v_12) (fun r_15 => some r_15)))) (fun (v_13 : Int32) => some v_13)) else some (-1000000002 : Int32))) else some (-1000000001 : Int32)))
set_option maxRecDepth 100000 in
set_option maxHeartbeats 4000000 in
theorem ctX8_parts (K : Kx) (h : Mm) (l1 : Int32) (l2 : Int32) {a : Int32} (hF : fX8_parts h l1 l2 = some a) : Mt K yX8_parts cX8_parts 6 (some .int) 2 46 SHc [rf K 84, .int l1, .int l2] h (some (.int a)) h := by
  refine Mt.of hF [(0, rf K 84), (1, .int l1), (2, .int l2)] (by decide) (Nat.le_of_ble_eq_true rfl) rfl (fun Y C N => ?_)
  have C : Cx K Y (0, 0) cX8_parts RX8 6 2 46 := C
  unfold fX8_parts
  refine mj_aload_n C 0 dX8_parts_0 (i := 0) rfl rfl ?_
  refine mj_iload_n C 1 dX8_parts_1 (i := 1) rfl rfl ?_
  refine mj_vB C my_X8_isIdea mv_X8_238 dX8_parts_2 sh_84 rfl (fun a hF => ctX8_isIdea K h l1  hF) (by decide) (by decide) rfl rfl (Nat.le_of_ble_eq_true rfl) (fun r_1 => ?_)
  refine mj_b_ne C 11 dX8_parts_5 (by decide) ?_ ?_
  · refine mj_iload_n C 2 dX8_parts_11 (i := 2) rfl rfl ?_
    refine mj_i2l C dX8_parts_12 ?_
    refine mj_lconst C (v := 0) dX8_parts_13 rfl ?_
    refine mj_lconst C (v := 1) dX8_parts_14 rfl ?_
    refine mj_sB C my_X8_in ms_X8_106 dX8_parts_15 (fun a hF => ctX8_in K h ((l2).toInt64) (0 : Int64) (1 : Int64)  hF) (by decide) (by decide) rfl rfl (Nat.le_of_ble_eq_true rfl) (fun r_2 => ?_)
    refine mj_b_ne C 24 dX8_parts_18 (by decide) ?_ ?_
    · refine mj_iconst C (v := -1) dX8_parts_24 rfl ?_
      refine mj_istore_n C [(3, .int (-1 : Int32)), (0, rf K 84), (1, .int l1), (2, .int l2)] dX8_parts_25 (i := 3) rfl (by decide) rfl ?_
      refine mj_iconst C (v := 0) dX8_parts_26 rfl ?_
      refine mj_istore C [(4, .int (0 : Int32)), (3, .int (-1 : Int32)), (0, rf K 84), (1, .int l1), (2, .int l2)] dX8_parts_27 (by decide) rfl ?_
      refine mj_phi1 112 (fun (v_12 : Int32) => [(0, rf K 84), (2, .int l2), (3, .int v_12)]) (fun (v_12 : Int32) => []) (fun (v_12 : Int32) => h) (fun P' kj_16 => mj_sub [2, 3, 4, 1, 0] rfl (lX8_parts_29 C md_N h l1 l2 (-1 : Int32) (0 : Int32) kj_16)) (fun v_12 => ?_)
      refine mj_iload_n C 2 dX8_parts_112 (i := 3) rfl rfl ?_
      refine mj_phi1 129 (fun (v_13 : Int32) => []) (fun (v_13 : Int32) => [.int v_13]) (fun (v_13 : Int32) => h) (fun P' kj_14 => ?_) (fun v_13 => ?_)
      · refine mj_if_lt C 120 dX8_parts_113 (by decide) ?_ ?_
        · refine mj_iload_n C 2 dX8_parts_120 (i := 3) rfl rfl ?_
          refine mj_goto C 129 dX8_parts_121 (by decide) ?_
          exact mj_sub [] rfl (mj_some (kj_14 v_12))
        · refine mj_iload_n C 1 dX8_parts_116 (i := 2) rfl rfl ?_
          refine mj_if_ne C 124 dX8_parts_117 (by decide) ?_ ?_
          · refine mj_aload_n C 0 dX8_parts_124 (i := 0) rfl rfl ?_
            refine mj_iload_n C 2 dX8_parts_125 (i := 3) rfl rfl ?_
            refine mj_vI C my_X8_sizeOf mv_X8_226 dX8_parts_126 sh_84 rfl (fun a hF => ctX8_sizeOf K h v_12  hF) (by decide) (by decide) rfl rfl (Nat.le_of_ble_eq_true rfl) (fun r_15 => ?_)
            exact mj_sub [] rfl (mj_some (kj_14 r_15))
          · refine mj_iload_n C 2 dX8_parts_120 (i := 3) rfl rfl ?_
            refine mj_goto C 129 dX8_parts_121 (by decide) ?_
            exact mj_sub [] rfl (mj_some (kj_14 v_12))
      · exact mj_rI C N dX8_parts_129
    · refine mj_ldc C kc_X8_115 dX8_parts_21 ?_
      exact mj_rI C N dX8_parts_23
  · refine mj_ldc C kc_X8_241 dX8_parts_8 ?_
    exact mj_rI C N dX8_parts_10
noncomputable def fX8_findMinutes_2 : Nat → Mm → Int32 → Int32 → Option (Mm)
  | 0, _, _, _ => none
  | n + 1, h, l1, l2 => (if (8 : Int32) ≤ l2 then some h else md_bd ((if l2 = l1 then some (0 : Int32) else some (1000000 : Int32))) (fun (v_1 : Int32) => md_ck (md_in l2 8) (md_lt (md_up h 104 (l2).toNatClampNeg v_1) (fun h_3 : Mm => fX8_findMinutes_2 n h_3 l1 (l2 + 1)))))
set_option maxRecDepth 100000 in
set_option maxHeartbeats 4000000 in
theorem lX8_findMinutes_2 {K : Kx} {Y : Yx} {cs : Nat × Nat} (C : Cx K Y cs cX8_findMinutes RX8 5 0 0) {P : Mm → Prop} : ∀ (n : Nat) (h : Mm) (l1 : Int32) (l2 : Int32), (∀ (hw : Mm), J SHc K Y cs (P hw) 32 [(0, rf K 84)] [] hw) → J SHc K Y cs (mj_O (fX8_findMinutes_2 n h l1 l2) P) 2 [(0, rf K 84), (1, .int l1), (2, .int l2)] [] h := by
  intro n
  induction n with
  | zero => intro h l1 l2 kk0; exact mj_none
  | succ n ih =>
    intro h l1 l2 kk0
    rw [fX8_findMinutes_2]
    refine mj_iload_n C 2 dX8_findMinutes_2 (i := 2) rfl rfl ?_
    refine mj_bipush C (v := 8) dX8_findMinutes_3 rfl ?_
    refine mj_icmp_ge C 32 dX8_findMinutes_5 (by decide) ?_ ?_
    · exact mj_sub [0] rfl (mj_some (kk0 h))
    · refine mj_aload_n C 0 dX8_findMinutes_8 (i := 0) rfl rfl ?_
      refine mj_getR C ff_X8_71 dX8_findMinutes_9 sh_84 rfl ?_
      refine mj_iload_n C 2 dX8_findMinutes_12 (i := 2) rfl rfl ?_
      refine mj_iload_n C 2 dX8_findMinutes_13 (i := 2) rfl rfl ?_
      refine mj_iload_n C 1 dX8_findMinutes_14 (i := 1) rfl rfl ?_
      refine mj_phi1 25 (fun (v_1 : Int32) => [(0, rf K 84), (1, .int l1), (2, .int l2)]) (fun (v_1 : Int32) => [.int v_1, .int l2, rf K 104]) (fun (v_1 : Int32) => h) (fun P' kj_2 => ?_) (fun v_1 => ?_)
      · refine mj_icmp_ne C 22 dX8_findMinutes_15 (by decide) ?_ ?_
        · refine mj_ldcw C kc_X8_262 dX8_findMinutes_22 ?_
          exact mj_sub [0, 1, 2] rfl (mj_some (kj_2 (1000000 : Int32)))
        · refine mj_iconst C (v := 0) dX8_findMinutes_18 rfl ?_
          refine mj_goto C 25 dX8_findMinutes_19 (by decide) ?_
          exact mj_sub [0, 1, 2] rfl (mj_some (kj_2 (0 : Int32)))
      · refine mj_iast C dX8_findMinutes_25 sh_104 (fun h_3 => ?_)
        refine mj_iinc C (l2 + 1) 2 [(2, .int (l2 + 1)), (0, rf K 84), (1, .int l1)] dX8_findMinutes_26 rfl rfl (by decide) rfl ?_
        refine mj_goto C 2 dX8_findMinutes_29 (by decide) ?_
        exact mj_sub [1, 2, 0] rfl (ih h_3 l1 (l2 + 1) kk0)
noncomputable def fX8_findMinutes_42 : Nat → Mm → Bool → Int32 → Option (Bool × Mm)
  | 0, _, _, _ => none
  | n + 1, h, l2, l3 => (if (h 84 8) ≤ l3 then some (l2, h) else md_ck (md_in l3 10) (md_ck (md_in l3 10) (md_ck (md_in (h 90 (l3).toNatClampNeg) 8) (md_lt ((h 91 (l3).toNatClampNeg) + (h 104 ((h 90 (l3).toNatClampNeg)).toNatClampNeg)) (fun l4_5 : Int32 => md_ck (md_in l3 10) (md_ck (md_in (h 89 (l3).toNatClampNeg) 8) (md_b2 ((if (h 104 ((h 89 (l3).toNatClampNeg)).toNatClampNeg) ≤ l4_5 then some (l2, h) else md_ck (md_in l3 10) (md_ck (md_in (h 89 (l3).toNatClampNeg) 8) (md_lt (md_up h 104 ((h 89 (l3).toNatClampNeg)).toNatClampNeg l4_5) (fun h_9 : Mm => some (true, h_9)))))) (fun (v_6 : Bool) (h_7 : Mm) => fX8_findMinutes_42 n h_7 v_6 (l3 + 1)))))))))
set_option maxRecDepth 100000 in
set_option maxHeartbeats 4000000 in
theorem lX8_findMinutes_42 {K : Kx} {Y : Yx} {cs : Nat × Nat} (C : Cx K Y cs cX8_findMinutes RX8 5 0 0) {P : Bool × Mm → Prop} : ∀ (n : Nat) (h : Mm) (l2 : Bool) (l3 : Int32), (∀ (w2 : Bool) (hw : Mm), J SHc K Y cs (P (w2, hw)) 107 [(0, rf K 84), (2, .int (md_bi w2))] [] hw) → J SHc K Y cs (mj_O (fX8_findMinutes_42 n h l2 l3) P) 42 [(0, rf K 84), (2, .int (md_bi l2)), (3, .int l3)] [] h := by
  intro n
  induction n with
  | zero => intro h l2 l3 kk0; exact mj_none
  | succ n ih =>
    intro h l2 l3 kk0
    rw [fX8_findMinutes_42]
    refine mj_iload_n C 2 dX8_findMinutes_42 (i := 3) rfl rfl ?_
    refine mj_aload_n C 0 dX8_findMinutes_43 (i := 0) rfl rfl ?_
    refine mj_getI C ff_X8_202 dX8_findMinutes_44 sh_84 rfl ?_
    refine mj_icmp_ge C 107 dX8_findMinutes_47 (by decide) ?_ ?_
    · exact mj_sub [0, 1] rfl (mj_some (kk0 l2 h))
    · refine mj_aload_n C 0 dX8_findMinutes_50 (i := 0) rfl rfl ?_
      refine mj_getR C ff_X8_28 dX8_findMinutes_51 sh_84 rfl ?_
      refine mj_iload_n C 2 dX8_findMinutes_54 (i := 3) rfl rfl ?_
      refine mj_iald C dX8_findMinutes_55 sh_91 ?_
      refine mj_aload_n C 0 dX8_findMinutes_56 (i := 0) rfl rfl ?_
      refine mj_getR C ff_X8_71 dX8_findMinutes_57 sh_84 rfl ?_
      refine mj_aload_n C 0 dX8_findMinutes_60 (i := 0) rfl rfl ?_
      refine mj_getR C ff_X8_25 dX8_findMinutes_61 sh_84 rfl ?_
      refine mj_iload_n C 2 dX8_findMinutes_64 (i := 3) rfl rfl ?_
      refine mj_iald C dX8_findMinutes_65 sh_90 ?_
      refine mj_iald C dX8_findMinutes_66 sh_104 ?_
      refine mj_iadd C dX8_findMinutes_67 ?_
      refine mj_istoreL C (fun l4_5 => [(4, .int l4_5), (0, rf K 84), (2, .int (md_bi l2)), (3, .int l3)]) dX8_findMinutes_68 (by decide) rfl (fun l4_5 => ?_)
      refine mj_iload C 0 dX8_findMinutes_70 rfl ?_
      refine mj_aload_n C 1 dX8_findMinutes_72 (i := 0) rfl rfl ?_
      refine mj_getR C ff_X8_71 dX8_findMinutes_73 sh_84 rfl ?_
      refine mj_aload_n C 1 dX8_findMinutes_76 (i := 0) rfl rfl ?_
      refine mj_getR C ff_X8_22 dX8_findMinutes_77 sh_84 rfl ?_
      refine mj_iload_n C 3 dX8_findMinutes_80 (i := 3) rfl rfl ?_
      refine mj_iald C dX8_findMinutes_81 sh_89 ?_
      refine mj_iald C dX8_findMinutes_82 sh_104 ?_
      refine mj_phi2 101 (fun (v_6 : Bool) (h_7 : Mm) => [(0, rf K 84), (2, .int (md_bi v_6)), (3, .int l3)]) (fun (v_6 : Bool) (h_7 : Mm) => []) (fun (v_6 : Bool) (h_7 : Mm) => h_7) (fun P' kj_8 => ?_) (fun v_6 h_7 => ?_)
      · refine mj_icmp_ge C 101 dX8_findMinutes_83 (by decide) ?_ ?_
        · exact mj_sub [1, 2, 3] rfl (mj_some (kj_8 l2 h))
        · refine mj_aload_n C 1 dX8_findMinutes_86 (i := 0) rfl rfl ?_
          refine mj_getR C ff_X8_71 dX8_findMinutes_87 sh_84 rfl ?_
          refine mj_aload_n C 1 dX8_findMinutes_90 (i := 0) rfl rfl ?_
          refine mj_getR C ff_X8_22 dX8_findMinutes_91 sh_84 rfl ?_
          refine mj_iload_n C 3 dX8_findMinutes_94 (i := 3) rfl rfl ?_
          refine mj_iald C dX8_findMinutes_95 sh_89 ?_
          refine mj_iload C 0 dX8_findMinutes_96 rfl ?_
          refine mj_iast C dX8_findMinutes_98 sh_104 (fun h_9 => ?_)
          refine mj_iconst C (v := 1) dX8_findMinutes_99 rfl ?_
          refine mj_istore_n C [(2, .int (1 : Int32)), (4, .int l4_5), (0, rf K 84), (3, .int l3)] dX8_findMinutes_100 (i := 2) rfl (by decide) rfl ?_
          exact mj_sub [2, 0, 3] rfl (mj_some (kj_8 true h_9))
      · refine mj_iinc C (l3 + 1) 2 [(3, .int (l3 + 1)), (0, rf K 84), (2, .int (md_bi v_6))] dX8_findMinutes_101 rfl rfl (by decide) rfl ?_
        refine mj_goto C 42 dX8_findMinutes_104 (by decide) ?_
        exact mj_sub [1, 2, 0] rfl (ih h_7 v_6 (l3 + 1) kk0)
noncomputable def fX8_findMinutes_34 : Nat → Mm → Bool → Option (Mm)
  | 0, _, _ => none
  | n + 1, h, l2 => (if l2 = true then md_b2 (fX8_findMinutes_42 md_N h false (0 : Int32)) (fun (v_10 : Bool) (h_11 : Mm) => fX8_findMinutes_34 n h_11 v_10) else some h)
set_option maxRecDepth 100000 in
set_option maxHeartbeats 4000000 in
theorem lX8_findMinutes_34 {K : Kx} {Y : Yx} {cs : Nat × Nat} (C : Cx K Y cs cX8_findMinutes RX8 5 0 0) {P : Mm → Prop} : ∀ (n : Nat) (h : Mm) (l2 : Bool), (∀ (hw : Mm), J SHc K Y cs (P hw) 110 [] [] hw) → J SHc K Y cs (mj_O (fX8_findMinutes_34 n h l2) P) 34 [(0, rf K 84), (2, .int (md_bi l2))] [] h := by
  intro n
  induction n with
  | zero => intro h l2 kk0; exact mj_none
  | succ n ih =>
    intro h l2 kk0
    rw [fX8_findMinutes_34]
    refine mj_iload_n C 1 dX8_findMinutes_34 (i := 2) rfl rfl ?_
    refine mj_b_eq C 110 dX8_findMinutes_35 (by decide) ?_ ?_
    · exact mj_sub [] rfl (mj_some (kk0 h))
    · refine mj_iconst C (v := 0) dX8_findMinutes_38 rfl ?_
      refine mj_istore_n C [(2, .int (0 : Int32)), (0, rf K 84)] dX8_findMinutes_39 (i := 2) rfl (by decide) rfl ?_
      refine mj_iconst C (v := 0) dX8_findMinutes_40 rfl ?_
      refine mj_istore_n C [(3, .int (0 : Int32)), (2, .int (0 : Int32)), (0, rf K 84)] dX8_findMinutes_41 (i := 3) rfl (by decide) rfl ?_
      refine mj_phi2 107 (fun (v_10 : Bool) (h_11 : Mm) => [(0, rf K 84), (2, .int (md_bi v_10))]) (fun (v_10 : Bool) (h_11 : Mm) => []) (fun (v_10 : Bool) (h_11 : Mm) => h_11) (fun P' kj_12 => mj_sub [2, 1, 0] rfl (lX8_findMinutes_42 C md_N h false (0 : Int32) kj_12)) (fun v_10 h_11 => ?_)
      refine mj_goto C 34 dX8_findMinutes_107 (by decide) ?_
      exact mj_sub [0, 1] rfl (ih h_11 v_10 kk0)
noncomputable def fX8_findMinutes (h : Mm) (l1 : Int32) : Option (Mm) := md_bd (fX8_findMinutes_2 md_N h l1 (0 : Int32)) (fun (h_4 : Mm) => md_bd (fX8_findMinutes_34 md_N h_4 true) (fun (h_13 : Mm) => some h_13))
set_option maxRecDepth 100000 in
set_option maxHeartbeats 4000000 in
theorem ctX8_findMinutes (K : Kx) (h : Mm) (l1 : Int32) {a : Mm} (hF : fX8_findMinutes h l1 = some a) : Mt K yX8_findMinutes cX8_findMinutes 5 none 0 0 SHc [rf K 84, .int l1] h none a := by
  refine Mt.of hF [(0, rf K 84), (1, .int l1)] (by decide) (Nat.le_of_ble_eq_true rfl) rfl (fun Y C N => ?_)
  have C : Cx K Y (0, 0) cX8_findMinutes RX8 5 0 0 := C
  unfold fX8_findMinutes
  refine mj_iconst C (v := 0) dX8_findMinutes_0 rfl ?_
  refine mj_istore_n C [(2, .int (0 : Int32)), (0, rf K 84), (1, .int l1)] dX8_findMinutes_1 (i := 2) rfl (by decide) rfl ?_
  refine mj_phi1 32 (fun (h_4 : Mm) => [(0, rf K 84)]) (fun (h_4 : Mm) => []) (fun (h_4 : Mm) => h_4) (fun P' kj_15 => mj_sub [1, 2, 0] rfl (lX8_findMinutes_2 C md_N h l1 (0 : Int32) kj_15)) (fun h_4 => ?_)
  refine mj_iconst C (v := 1) dX8_findMinutes_32 rfl ?_
  refine mj_istore_n C [(2, .int (1 : Int32)), (0, rf K 84)] dX8_findMinutes_33 (i := 2) rfl (by decide) rfl ?_
  refine mj_phi1 110 (fun (h_13 : Mm) => []) (fun (h_13 : Mm) => []) (fun (h_13 : Mm) => h_13) (fun P' kj_14 => mj_sub [1, 0] rfl (lX8_findMinutes_34 C md_N h_4 true kj_14)) (fun h_13 => ?_)
  exact mj_rV C N dX8_findMinutes_110
noncomputable def fX8_talkDown_73 : Nat → Mm → Int32 → Int32 → Int32 → Int32 → Option (Int32)
  | 0, _, _, _, _, _ => none
  | n + 1, h, l1, l2, l4, l5 => (if l5 < 0 then some l4 else (if l1 = l2 then some l4 else md_bd (fX8_quickest h l1 l5) (fun r_6 => md_bd ((if (1000000 : Int32) ≤ r_6 then some l4 else md_ck (md_in l5 8) (md_ck (md_in l1 8) ((if (r_6 + (h 104 (l5).toNatClampNeg)) = (h 104 (l1).toNatClampNeg) then some l5 else some l4))))) (fun (v_7 : Int32) => fX8_talkDown_73 n h l1 l2 v_7 (l5 + (-1))))))
set_option maxRecDepth 100000 in
set_option maxHeartbeats 4000000 in
theorem lX8_talkDown_73 {K : Kx} {Y : Yx} {cs : Nat × Nat} (C : Cx K Y cs cX8_talkDown RX8 7 2 46) {P : Int32 → Prop} : ∀ (n : Nat) (h : Mm) (l1 : Int32) (l2 : Int32) (l4 : Int32) (l5 : Int32), (∀ (w4 : Int32), J SHc K Y cs (P w4) 134 [(4, .int w4)] [] h) → J SHc K Y cs (mj_O (fX8_talkDown_73 n h l1 l2 l4 l5) P) 73 [(0, rf K 84), (1, .int l1), (2, .int l2), (4, .int l4), (5, .int l5)] [] h := by
  intro n
  induction n with
  | zero => intro h l1 l2 l4 l5 kk0; exact mj_none
  | succ n ih =>
    intro h l1 l2 l4 l5 kk0
    rw [fX8_talkDown_73]
    refine mj_iload C 4 dX8_talkDown_73 rfl ?_
    refine mj_if_lt C 134 dX8_talkDown_75 (by decide) ?_ ?_
    · exact mj_sub [3] rfl (mj_some (kk0 l4))
    · refine mj_iload_n C 1 dX8_talkDown_78 (i := 1) rfl rfl ?_
      refine mj_iload_n C 2 dX8_talkDown_79 (i := 2) rfl rfl ?_
      refine mj_icmp_eq C 134 dX8_talkDown_80 (by decide) ?_ ?_
      · exact mj_sub [3] rfl (mj_some (kk0 l4))
      · refine mj_aload_n C 0 dX8_talkDown_83 (i := 0) rfl rfl ?_
        refine mj_iload_n C 1 dX8_talkDown_84 (i := 1) rfl rfl ?_
        refine mj_iload C 4 dX8_talkDown_85 rfl ?_
        refine mj_vI C my_X8_quickest mv_X8_263 dX8_talkDown_87 sh_84 rfl (fun a hF => ctX8_quickest K h l1 l5  hF) (by decide) (by decide) rfl rfl (Nat.le_of_ble_eq_true rfl) (fun r_6 => ?_)
        refine mj_istore C [(6, .int r_6), (0, rf K 84), (1, .int l1), (2, .int l2), (4, .int l4), (5, .int l5)] dX8_talkDown_90 (by decide) rfl ?_
        refine mj_iload C 0 dX8_talkDown_92 rfl ?_
        refine mj_ldcw C kc_X8_262 dX8_talkDown_94 ?_
        refine mj_phi1 126 (fun (v_7 : Int32) => [(0, rf K 84), (1, .int l1), (2, .int l2), (5, .int l5)]) (fun (v_7 : Int32) => [.int v_7]) (fun (v_7 : Int32) => h) (fun P' kj_8 => ?_) (fun v_7 => ?_)
        · refine mj_icmp_ge C 124 dX8_talkDown_97 (by decide) ?_ ?_
          · refine mj_iload C 4 dX8_talkDown_124 rfl ?_
            exact mj_sub [1, 2, 3, 5] rfl (mj_some (kj_8 l4))
          · refine mj_iload C 0 dX8_talkDown_100 rfl ?_
            refine mj_aload_n C 1 dX8_talkDown_102 (i := 0) rfl rfl ?_
            refine mj_getR C ff_X8_71 dX8_talkDown_103 sh_84 rfl ?_
            refine mj_iload C 5 dX8_talkDown_106 rfl ?_
            refine mj_iald C dX8_talkDown_108 sh_104 ?_
            refine mj_iadd C dX8_talkDown_109 ?_
            refine mj_aload_n C 1 dX8_talkDown_110 (i := 0) rfl rfl ?_
            refine mj_getR C ff_X8_71 dX8_talkDown_111 sh_84 rfl ?_
            refine mj_iload_n C 2 dX8_talkDown_114 (i := 1) rfl rfl ?_
            refine mj_iald C dX8_talkDown_115 sh_104 ?_
            refine mj_icmp_ne C 124 dX8_talkDown_116 (by decide) ?_ ?_
            · refine mj_iload C 4 dX8_talkDown_124 rfl ?_
              exact mj_sub [1, 2, 3, 5] rfl (mj_some (kj_8 l4))
            · refine mj_iload C 5 dX8_talkDown_119 rfl ?_
              refine mj_goto C 126 dX8_talkDown_121 (by decide) ?_
              exact mj_sub [1, 2, 3, 5] rfl (mj_some (kj_8 l5))
        · refine mj_istore C [(4, .int v_7), (0, rf K 84), (1, .int l1), (2, .int l2), (5, .int l5)] dX8_talkDown_126 (by decide) rfl ?_
          refine mj_iinc C (l5 + (-1)) 4 [(5, .int (l5 + (-1))), (4, .int v_7), (0, rf K 84), (1, .int l1), (2, .int l2)] dX8_talkDown_128 rfl rfl (by decide) rfl ?_
          refine mj_goto C 73 dX8_talkDown_131 (by decide) ?_
          exact mj_sub [2, 3, 4, 1, 0] rfl (ih h l1 l2 v_7 (l5 + (-1)) kk0)
noncomputable def fX8_talkDown (h : Mm) (l1 : Int32) (l2 : Int32) (l3 : Int32) : Option (Int32 × Mm) := md_bd (fX8_isIdea h l1) (fun r_1 => (if r_1 = true then md_bd (fX8_isIdea h l2) (fun r_2 => (if r_2 = true then md_bd (fX8_in h ((l3).toInt64) (0 : Int64) (1 : Int64)) (fun r_3 => (if r_3 = true then md_bd (fX8_findMinutes h l2) (fun h_4 => md_ck (md_in l1 8) ((if (h_4 104 (l1).toNatClampNeg) < (1000000 : Int32) then (if l3 = 0 then md_ck (md_in l1 8) (some ((h_4 104 (l1).toNatClampNeg), h_4)) else md_lt ((h_4 84 2) - (1 : Int32)) (fun l5_5 : Int32 => md_bd (fX8_talkDown_73 md_N h_4 l1 l2 (-1 : Int32) l5_5) (fun (v_9 : Int32) => some (v_9, h_4)))) else some ((-1 : Int32), h_4)))) else some ((-1000000002 : Int32), h))) else some ((-1000000001 : Int32), h))) else some ((-1000000001 : Int32), h)))
set_option maxRecDepth 100000 in
set_option maxHeartbeats 4000000 in
theorem ctX8_talkDown (K : Kx) (h : Mm) (l1 : Int32) (l2 : Int32) (l3 : Int32) {a : Int32 × Mm} (hF : fX8_talkDown h l1 l2 l3 = some a) : Mt K yX8_talkDown cX8_talkDown 7 (some .int) 2 46 SHc [rf K 84, .int l1, .int l2, .int l3] h (some (.int a.1)) a.2 := by
  refine Mt.of hF [(0, rf K 84), (1, .int l1), (2, .int l2), (3, .int l3)] (by decide) (Nat.le_of_ble_eq_true rfl) rfl (fun Y C N => ?_)
  have C : Cx K Y (0, 0) cX8_talkDown RX8 7 2 46 := C
  unfold fX8_talkDown
  refine mj_aload_n C 0 dX8_talkDown_0 (i := 0) rfl rfl ?_
  refine mj_iload_n C 1 dX8_talkDown_1 (i := 1) rfl rfl ?_
  refine mj_vB C my_X8_isIdea mv_X8_238 dX8_talkDown_2 sh_84 rfl (fun a hF => ctX8_isIdea K h l1  hF) (by decide) (by decide) rfl rfl (Nat.le_of_ble_eq_true rfl) (fun r_1 => ?_)
  refine mj_b_eq C 16 dX8_talkDown_5 (by decide) ?_ ?_
  · refine mj_ldc C kc_X8_241 dX8_talkDown_16 ?_
    exact mj_rIM C N dX8_talkDown_18
  · refine mj_aload_n C 0 dX8_talkDown_8 (i := 0) rfl rfl ?_
    refine mj_iload_n C 2 dX8_talkDown_9 (i := 2) rfl rfl ?_
    refine mj_vB C my_X8_isIdea mv_X8_238 dX8_talkDown_10 sh_84 rfl (fun a hF => ctX8_isIdea K h l2  hF) (by decide) (by decide) rfl rfl (Nat.le_of_ble_eq_true rfl) (fun r_2 => ?_)
    refine mj_b_ne C 19 dX8_talkDown_13 (by decide) ?_ ?_
    · refine mj_iload_n C 3 dX8_talkDown_19 (i := 3) rfl rfl ?_
      refine mj_i2l C dX8_talkDown_20 ?_
      refine mj_lconst C (v := 0) dX8_talkDown_21 rfl ?_
      refine mj_lconst C (v := 1) dX8_talkDown_22 rfl ?_
      refine mj_sB C my_X8_in ms_X8_106 dX8_talkDown_23 (fun a hF => ctX8_in K h ((l3).toInt64) (0 : Int64) (1 : Int64)  hF) (by decide) (by decide) rfl rfl (Nat.le_of_ble_eq_true rfl) (fun r_3 => ?_)
      refine mj_b_ne C 32 dX8_talkDown_26 (by decide) ?_ ?_
      · refine mj_aload_n C 0 dX8_talkDown_32 (i := 0) rfl rfl ?_
        refine mj_iload_n C 2 dX8_talkDown_33 (i := 2) rfl rfl ?_
        refine mj_vM C my_X8_findMinutes mv_X8_291 dX8_talkDown_34 sh_84 rfl (fun a hF => ctX8_findMinutes K h l2  hF) (by decide) (by decide) rfl rfl (Nat.le_of_ble_eq_true rfl) (fun h_4 => ?_)
        refine mj_aload_n C 0 dX8_talkDown_37 (i := 0) rfl rfl ?_
        refine mj_getR C ff_X8_71 dX8_talkDown_38 sh_84 rfl ?_
        refine mj_iload_n C 1 dX8_talkDown_41 (i := 1) rfl rfl ?_
        refine mj_iald C dX8_talkDown_42 sh_104 ?_
        refine mj_ldcw C kc_X8_262 dX8_talkDown_43 ?_
        refine mj_icmp_lt C 51 dX8_talkDown_46 (by decide) ?_ ?_
        · refine mj_iload_n C 3 dX8_talkDown_51 (i := 3) rfl rfl ?_
          refine mj_if_ne C 62 dX8_talkDown_52 (by decide) ?_ ?_
          · refine mj_iconst C (v := -1) dX8_talkDown_62 rfl ?_
            refine mj_istore C [(4, .int (-1 : Int32)), (0, rf K 84), (1, .int l1), (2, .int l2), (3, .int l3)] dX8_talkDown_63 (by decide) rfl ?_
            refine mj_aload_n C 1 dX8_talkDown_65 (i := 0) rfl rfl ?_
            refine mj_getI C ff_X8_103 dX8_talkDown_66 sh_84 rfl ?_
            refine mj_iconst C (v := 1) dX8_talkDown_69 rfl ?_
            refine mj_isub C dX8_talkDown_70 ?_
            refine mj_istoreL C (fun l5_5 => [(5, .int l5_5), (4, .int (-1 : Int32)), (0, rf K 84), (1, .int l1), (2, .int l2), (3, .int l3)]) dX8_talkDown_71 (by decide) rfl (fun l5_5 => ?_)
            refine mj_phi1 134 (fun (v_9 : Int32) => [(4, .int v_9)]) (fun (v_9 : Int32) => []) (fun (v_9 : Int32) => h_4) (fun P' kj_10 => mj_sub [2, 3, 4, 1, 0] rfl (lX8_talkDown_73 C md_N h_4 l1 l2 (-1 : Int32) l5_5 kj_10)) (fun v_9 => ?_)
            refine mj_iload C 0 dX8_talkDown_134 rfl ?_
            exact mj_rIM C N dX8_talkDown_136
          · refine mj_aload_n C 0 dX8_talkDown_55 (i := 0) rfl rfl ?_
            refine mj_getR C ff_X8_71 dX8_talkDown_56 sh_84 rfl ?_
            refine mj_iload_n C 1 dX8_talkDown_59 (i := 1) rfl rfl ?_
            refine mj_iald C dX8_talkDown_60 sh_104 ?_
            exact mj_rIM C N dX8_talkDown_61
        · refine mj_iconst C (v := -1) dX8_talkDown_49 rfl ?_
          exact mj_rIM C N dX8_talkDown_50
      · refine mj_ldc C kc_X8_115 dX8_talkDown_29 ?_
        exact mj_rIM C N dX8_talkDown_31
    · refine mj_ldc C kc_X8_241 dX8_talkDown_16 ?_
      exact mj_rIM C N dX8_talkDown_18
noncomputable def fX8_minutesOf_11 : Nat → Mm → Int32 → Int32 → Int32 → Int32 → Option ((Unit) ⊕ (Int32 × Int32))
  | 0, _, _, _, _, _ => none
  | n + 1, h, l3, l4, l5, l6 => (if (3 : Int32) ≤ l6 then some (.inr (l3, l4)) else md_lt (l5 - l5 / (11 : Int32) * (11 : Int32)) (fun l7_1 : Int32 => md_lt (l5 / (11 : Int32)) (fun l5_2 : Int32 => (if (10 : Int32) ≤ l7_1 then fX8_minutesOf_11 n h l3 l4 l5_2 (l6 + 1) else (if (h 84 8) ≤ l7_1 then some (.inl ()) else md_ck (md_in l7_1 10) (md_bd (fX8_has h l3 (h 89 (l7_1).toNatClampNeg)) (fun r_3 => (if r_3 = true then md_ck (md_in l7_1 10) (md_ck (md_in l7_1 10) (md_bd (fX8_talked h l3 (h 89 (l7_1).toNatClampNeg) (h 90 (l7_1).toNatClampNeg)) (fun r_4 => md_ck (md_in l7_1 10) (md_lt (l4 + (h 91 (l7_1).toNatClampNeg)) (fun l4_5 : Int32 => fX8_minutesOf_11 n h r_4 l4_5 l5_2 (l6 + 1)))))) else some (.inl ())))))))))
set_option maxRecDepth 100000 in
set_option maxHeartbeats 4000000 in
theorem lX8_minutesOf_11 {K : Kx} {Y : Yx} {cs : Nat × Nat} (C : Cx K Y cs cX8_minutesOf RX8 8 2 44) {P : (Unit) ⊕ (Int32 × Int32) → Prop} : ∀ (n : Nat) (h : Mm) (l3 : Int32) (l4 : Int32) (l5 : Int32) (l6 : Int32), (∀ (q : Unit), J SHc K Y cs (P (.inl q)) 61 [] [] h) → (∀ (q : Int32 × Int32), J SHc K Y cs (P (.inr q)) 102 [(0, rf K 84), (3, .int q.1), (4, .int q.2)] [] h) → J SHc K Y cs (mj_O (fX8_minutesOf_11 n h l3 l4 l5 l6) P) 11 [(0, rf K 84), (3, .int l3), (4, .int l4), (5, .int l5), (6, .int l6)] [] h := by
  intro n
  induction n with
  | zero => intro h l3 l4 l5 l6 kk0 kk1; exact mj_none
  | succ n ih =>
    intro h l3 l4 l5 l6 kk0 kk1
    rw [fX8_minutesOf_11]
    refine mj_iload C 4 dX8_minutesOf_11 rfl ?_
    refine mj_iconst C (v := 3) dX8_minutesOf_13 rfl ?_
    refine mj_icmp_ge C 102 dX8_minutesOf_14 (by decide) ?_ ?_
    · exact mj_sub [0, 1, 2] rfl (mj_some (kk1 (l3, l4)))
    · refine mj_iload C 3 dX8_minutesOf_17 rfl ?_
      refine mj_bipush C (v := 11) dX8_minutesOf_19 rfl ?_
      refine mj_irem C dX8_minutesOf_21 (by decide) ?_
      refine mj_istoreL C (fun l7_1 => [(7, .int l7_1), (0, rf K 84), (3, .int l3), (4, .int l4), (5, .int l5), (6, .int l6)]) dX8_minutesOf_22 (by decide) rfl (fun l7_1 => ?_)
      refine mj_iload C 4 dX8_minutesOf_24 rfl ?_
      refine mj_bipush C (v := 11) dX8_minutesOf_26 rfl ?_
      refine mj_idiv C dX8_minutesOf_28 (by decide) ?_
      refine mj_istoreL C (fun l5_2 => [(5, .int l5_2), (7, .int l7_1), (0, rf K 84), (3, .int l3), (4, .int l4), (6, .int l6)]) dX8_minutesOf_29 (by decide) rfl (fun l5_2 => ?_)
      refine mj_iload C 1 dX8_minutesOf_31 rfl ?_
      refine mj_bipush C (v := 10) dX8_minutesOf_33 rfl ?_
      refine mj_icmp_ge C 96 dX8_minutesOf_35 (by decide) ?_ ?_
      · refine mj_iinc C (l6 + 1) 5 [(6, .int (l6 + 1)), (5, .int l5_2), (7, .int l7_1), (0, rf K 84), (3, .int l3), (4, .int l4)] dX8_minutesOf_96 rfl rfl (by decide) rfl ?_
        refine mj_goto C 11 dX8_minutesOf_99 (by decide) ?_
        exact mj_sub [3, 4, 5, 1, 0] rfl (ih h l3 l4 l5_2 (l6 + 1) kk0 kk1)
      · refine mj_iload C 1 dX8_minutesOf_38 rfl ?_
        refine mj_aload_n C 2 dX8_minutesOf_40 (i := 0) rfl rfl ?_
        refine mj_getI C ff_X8_202 dX8_minutesOf_41 sh_84 rfl ?_
        refine mj_icmp_ge C 61 dX8_minutesOf_44 (by decide) ?_ ?_
        · exact mj_sub [] rfl (mj_some (kk0 ()))
        · refine mj_iload_n C 3 dX8_minutesOf_47 (i := 3) rfl rfl ?_
          refine mj_aload_n C 2 dX8_minutesOf_48 (i := 0) rfl rfl ?_
          refine mj_getR C ff_X8_22 dX8_minutesOf_49 sh_84 rfl ?_
          refine mj_iload C 1 dX8_minutesOf_52 rfl ?_
          refine mj_iald C dX8_minutesOf_54 sh_89 ?_
          refine mj_sB C my_X8_has ms_X8_160 dX8_minutesOf_55 (fun a hF => ctX8_has K h l3 (h 89 (l7_1).toNatClampNeg)  hF) (by decide) (by decide) rfl rfl (Nat.le_of_ble_eq_true rfl) (fun r_3 => ?_)
          refine mj_b_ne C 65 dX8_minutesOf_58 (by decide) ?_ ?_
          · refine mj_iload_n C 3 dX8_minutesOf_65 (i := 3) rfl rfl ?_
            refine mj_aload_n C 2 dX8_minutesOf_66 (i := 0) rfl rfl ?_
            refine mj_getR C ff_X8_22 dX8_minutesOf_67 sh_84 rfl ?_
            refine mj_iload C 1 dX8_minutesOf_70 rfl ?_
            refine mj_iald C dX8_minutesOf_72 sh_89 ?_
            refine mj_aload_n C 2 dX8_minutesOf_73 (i := 0) rfl rfl ?_
            refine mj_getR C ff_X8_25 dX8_minutesOf_74 sh_84 rfl ?_
            refine mj_iload C 1 dX8_minutesOf_77 rfl ?_
            refine mj_iald C dX8_minutesOf_79 sh_90 ?_
            refine mj_sI C my_X8_talked ms_X8_266 dX8_minutesOf_80 (fun a hF => ctX8_talked K h l3 (h 89 (l7_1).toNatClampNeg) (h 90 (l7_1).toNatClampNeg)  hF) (by decide) (by decide) rfl rfl (Nat.le_of_ble_eq_true rfl) (fun r_4 => ?_)
            refine mj_istore_n C [(3, .int r_4), (5, .int l5_2), (7, .int l7_1), (0, rf K 84), (4, .int l4), (6, .int l6)] dX8_minutesOf_83 (i := 3) rfl (by decide) rfl ?_
            refine mj_iload C 4 dX8_minutesOf_84 rfl ?_
            refine mj_aload_n C 3 dX8_minutesOf_86 (i := 0) rfl rfl ?_
            refine mj_getR C ff_X8_28 dX8_minutesOf_87 sh_84 rfl ?_
            refine mj_iload C 2 dX8_minutesOf_90 rfl ?_
            refine mj_iald C dX8_minutesOf_92 sh_91 ?_
            refine mj_iadd C dX8_minutesOf_93 ?_
            refine mj_istoreL C (fun l4_5 => [(4, .int l4_5), (3, .int r_4), (5, .int l5_2), (7, .int l7_1), (0, rf K 84), (6, .int l6)]) dX8_minutesOf_94 (by decide) rfl (fun l4_5 => ?_)
            refine mj_iinc C (l6 + 1) 5 [(6, .int (l6 + 1)), (4, .int l4_5), (3, .int r_4), (5, .int l5_2), (7, .int l7_1), (0, rf K 84)] dX8_minutesOf_96 rfl rfl (by decide) rfl ?_
            refine mj_goto C 11 dX8_minutesOf_99 (by decide) ?_
            exact mj_sub [5, 2, 1, 3, 0] rfl (ih h r_4 l4_5 l5_2 (l6 + 1) kk0 kk1)
          · exact mj_sub [] rfl (mj_some (kk0 ()))
noncomputable def fX8_minutesOf (h : Mm) (l1 : Int32) (l2 : Int32) : Option (Int32) := md_bS (fX8_minutesOf_11 md_N h l2 (0 : Int32) l1 (0 : Int32)) (fun q_6 : Unit => some (1000000 : Int32)) (fun q_7 : Int32 × Int32 => md_bd (fX8_sizeOf h q_7.1) (fun r_8 => md_bd ((if r_8 ≤ (h 84 0) then some q_7.2 else some (1000000 : Int32))) (fun (v_9 : Int32) => some v_9)))
set_option maxRecDepth 100000 in
set_option maxHeartbeats 4000000 in
theorem ctX8_minutesOf (K : Kx) (h : Mm) (l1 : Int32) (l2 : Int32) {a : Int32} (hF : fX8_minutesOf h l1 l2 = some a) : Mt K yX8_minutesOf cX8_minutesOf 8 (some .int) 2 44 SHc [rf K 84, .int l1, .int l2] h (some (.int a)) h := by
  refine Mt.of hF [(0, rf K 84), (1, .int l1), (2, .int l2)] (by decide) (Nat.le_of_ble_eq_true rfl) rfl (fun Y C N => ?_)
  have C : Cx K Y (0, 0) cX8_minutesOf RX8 8 2 44 := C
  unfold fX8_minutesOf
  refine mj_iload_n C 2 dX8_minutesOf_0 (i := 2) rfl rfl ?_
  refine mj_istore_n C [(3, .int l2), (0, rf K 84), (1, .int l1), (2, .int l2)] dX8_minutesOf_1 (i := 3) rfl (by decide) rfl ?_
  refine mj_iconst C (v := 0) dX8_minutesOf_2 rfl ?_
  refine mj_istore C [(4, .int (0 : Int32)), (3, .int l2), (0, rf K 84), (1, .int l1), (2, .int l2)] dX8_minutesOf_3 (by decide) rfl ?_
  refine mj_iload_n C 3 dX8_minutesOf_5 (i := 1) rfl rfl ?_
  refine mj_istore C [(5, .int l1), (4, .int (0 : Int32)), (3, .int l2), (0, rf K 84), (1, .int l1), (2, .int l2)] dX8_minutesOf_6 (by decide) rfl ?_
  refine mj_iconst C (v := 0) dX8_minutesOf_8 rfl ?_
  refine mj_istore C [(6, .int (0 : Int32)), (5, .int l1), (4, .int (0 : Int32)), (3, .int l2), (0, rf K 84), (1, .int l1), (2, .int l2)] dX8_minutesOf_9 (by decide) rfl ?_
  refine mj_phiS 61 102 (fun q_6 => []) (fun q_7 => [(0, rf K 84), (3, .int q_7.1), (4, .int q_7.2)]) (fun q_6 => h) (fun q_7 => h) (fun P' kj_11 kj_12 => mj_sub [4, 3, 2, 1, 0] rfl (lX8_minutesOf_11 C md_N h l2 (0 : Int32) l1 (0 : Int32) kj_11 kj_12)) (fun q_6 => ?_) (fun q_7 => ?_)
  · refine mj_ldcw C kc_X8_262 dX8_minutesOf_61 ?_
    exact mj_rI C N dX8_minutesOf_64
  · refine mj_aload_n C 0 dX8_minutesOf_102 (i := 0) rfl rfl ?_
    refine mj_iload_n C 1 dX8_minutesOf_103 (i := 3) rfl rfl ?_
    refine mj_vI C my_X8_sizeOf mv_X8_226 dX8_minutesOf_104 sh_84 rfl (fun a hF => ctX8_sizeOf K h q_7.1  hF) (by decide) (by decide) rfl rfl (Nat.le_of_ble_eq_true rfl) (fun r_8 => ?_)
    refine mj_aload_n C 0 dX8_minutesOf_107 (i := 0) rfl rfl ?_
    refine mj_getI C ff_X8_99 dX8_minutesOf_108 sh_84 rfl ?_
    refine mj_phi1 122 (fun (v_9 : Int32) => []) (fun (v_9 : Int32) => [.int v_9]) (fun (v_9 : Int32) => h) (fun P' kj_10 => ?_) (fun v_9 => ?_)
    · refine mj_icmp_le C 120 dX8_minutesOf_111 (by decide) ?_ ?_
      · refine mj_iload C 2 dX8_minutesOf_120 rfl ?_
        exact mj_sub [] rfl (mj_some (kj_10 q_7.2))
      · refine mj_ldcw C kc_X8_262 dX8_minutesOf_114 ?_
        refine mj_goto C 122 dX8_minutesOf_117 (by decide) ?_
        exact mj_sub [] rfl (mj_some (kj_10 (1000000 : Int32)))
    · exact mj_rI C N dX8_minutesOf_122
noncomputable def fX8_soonest_28 : Nat → Mm → Int32 → Int32 → Int32 → Option (Int32)
  | 0, _, _, _, _ => none
  | n + 1, h, l1, l2, l3 => (if (1331 : Int32) ≤ l3 then some l2 else md_ck (md_in ((2 : Int32) + l1) 9) (md_bd (fX8_minutesOf h l3 (h 92 (((2 : Int32) + l1)).toNatClampNeg)) (fun r_3 => md_bd ((if l2 ≤ r_3 then some l2 else some r_3)) (fun (v_4 : Int32) => fX8_soonest_28 n h l1 v_4 (l3 + 1)))))
set_option maxRecDepth 100000 in
set_option maxHeartbeats 4000000 in
theorem lX8_soonest_28 {K : Kx} {Y : Yx} {cs : Nat × Nat} (C : Cx K Y cs cX8_soonest RX8 5 3 71) {P : Int32 → Prop} : ∀ (n : Nat) (h : Mm) (l1 : Int32) (l2 : Int32) (l3 : Int32), (∀ (w2 : Int32), J SHc K Y cs (P w2) 69 [(2, .int w2)] [] h) → J SHc K Y cs (mj_O (fX8_soonest_28 n h l1 l2 l3) P) 28 [(0, rf K 84), (1, .int l1), (2, .int l2), (3, .int l3)] [] h := by
  intro n
  induction n with
  | zero => intro h l1 l2 l3 kk0; exact mj_none
  | succ n ih =>
    intro h l1 l2 l3 kk0
    rw [fX8_soonest_28]
    refine mj_iload_n C 3 dX8_soonest_28 (i := 3) rfl rfl ?_
    refine mj_sipush C (v := 1331) dX8_soonest_29 rfl ?_
    refine mj_icmp_ge C 69 dX8_soonest_32 (by decide) ?_ ?_
    · exact mj_sub [2] rfl (mj_some (kk0 l2))
    · refine mj_aload_n C 0 dX8_soonest_35 (i := 0) rfl rfl ?_
      refine mj_iload_n C 3 dX8_soonest_36 (i := 3) rfl rfl ?_
      refine mj_aload_n C 0 dX8_soonest_37 (i := 0) rfl rfl ?_
      refine mj_getR C ff_X8_31 dX8_soonest_38 sh_84 rfl ?_
      refine mj_iconst C (v := 2) dX8_soonest_41 rfl ?_
      refine mj_iload_n C 1 dX8_soonest_42 (i := 1) rfl rfl ?_
      refine mj_iadd C dX8_soonest_43 ?_
      refine mj_iald C dX8_soonest_44 sh_92 ?_
      refine mj_vI C my_X8_minutesOf mv_X8_295 dX8_soonest_45 sh_84 rfl (fun a hF => ctX8_minutesOf K h l3 (h 92 (((2 : Int32) + l1)).toNatClampNeg)  hF) (by decide) (by decide) rfl rfl (Nat.le_of_ble_eq_true rfl) (fun r_3 => ?_)
      refine mj_istore C [(4, .int r_3), (0, rf K 84), (1, .int l1), (2, .int l2), (3, .int l3)] dX8_soonest_48 (by decide) rfl ?_
      refine mj_iload C 0 dX8_soonest_50 rfl ?_
      refine mj_iload_n C 3 dX8_soonest_52 (i := 2) rfl rfl ?_
      refine mj_phi1 62 (fun (v_4 : Int32) => [(0, rf K 84), (1, .int l1), (3, .int l3)]) (fun (v_4 : Int32) => [.int v_4]) (fun (v_4 : Int32) => h) (fun P' kj_5 => ?_) (fun v_4 => ?_)
      · refine mj_icmp_ge C 61 dX8_soonest_53 (by decide) ?_ ?_
        · refine mj_iload_n C 3 dX8_soonest_61 (i := 2) rfl rfl ?_
          exact mj_sub [1, 2, 4] rfl (mj_some (kj_5 l2))
        · refine mj_iload C 0 dX8_soonest_56 rfl ?_
          refine mj_goto C 62 dX8_soonest_58 (by decide) ?_
          exact mj_sub [1, 2, 4] rfl (mj_some (kj_5 r_3))
      · refine mj_istore_n C [(2, .int v_4), (0, rf K 84), (1, .int l1), (3, .int l3)] dX8_soonest_62 (i := 2) rfl (by decide) rfl ?_
        refine mj_iinc C (l3 + 1) 3 [(3, .int (l3 + 1)), (2, .int v_4), (0, rf K 84), (1, .int l1)] dX8_soonest_63 rfl rfl (by decide) rfl ?_
        refine mj_goto C 28 dX8_soonest_66 (by decide) ?_
        exact mj_sub [2, 3, 1, 0] rfl (ih h l1 v_4 (l3 + 1) kk0)
noncomputable def fX8_soonest (h : Mm) (l1 : Int32) : Option (Int32) := md_bd (fX8_isTraveller h l1) (fun r_1 => (if r_1 = true then md_bd (fX8_isGone h l1) (fun r_2 => (if r_2 = true then some (-1000000003 : Int32) else md_bd (fX8_soonest_28 md_N h l1 (1000000 : Int32) (0 : Int32)) (fun (v_6 : Int32) => md_bd ((if (1000000 : Int32) ≤ v_6 then some (-1 : Int32) else some v_6)) (fun (v_7 : Int32) => some v_7)))) else some (-1000000001 : Int32)))
set_option maxRecDepth 100000 in
set_option maxHeartbeats 4000000 in
theorem ctX8_soonest (K : Kx) (h : Mm) (l1 : Int32) {a : Int32} (hF : fX8_soonest h l1 = some a) : Mt K yX8_soonest cX8_soonest 5 (some .int) 3 71 SHc [rf K 84, .int l1] h (some (.int a)) h := by
  refine Mt.of hF [(0, rf K 84), (1, .int l1)] (by decide) (Nat.le_of_ble_eq_true rfl) rfl (fun Y C N => ?_)
  have C : Cx K Y (0, 0) cX8_soonest RX8 5 3 71 := C
  unfold fX8_soonest
  refine mj_aload_n C 0 dX8_soonest_0 (i := 0) rfl rfl ?_
  refine mj_iload_n C 1 dX8_soonest_1 (i := 1) rfl rfl ?_
  refine mj_vB C my_X8_isTraveller mv_X8_242 dX8_soonest_2 sh_84 rfl (fun a hF => ctX8_isTraveller K h l1  hF) (by decide) (by decide) rfl rfl (Nat.le_of_ble_eq_true rfl) (fun r_1 => ?_)
  refine mj_b_ne C 11 dX8_soonest_5 (by decide) ?_ ?_
  · refine mj_aload_n C 0 dX8_soonest_11 (i := 0) rfl rfl ?_
    refine mj_iload_n C 1 dX8_soonest_12 (i := 1) rfl rfl ?_
    refine mj_vB C my_X8_isGone mv_X8_229 dX8_soonest_13 sh_84 rfl (fun a hF => ctX8_isGone K h l1  hF) (by decide) (by decide) rfl rfl (Nat.le_of_ble_eq_true rfl) (fun r_2 => ?_)
    refine mj_b_eq C 22 dX8_soonest_16 (by decide) ?_ ?_
    · refine mj_ldcw C kc_X8_262 dX8_soonest_22 ?_
      refine mj_istore_n C [(2, .int (1000000 : Int32)), (0, rf K 84), (1, .int l1)] dX8_soonest_25 (i := 2) rfl (by decide) rfl ?_
      refine mj_iconst C (v := 0) dX8_soonest_26 rfl ?_
      refine mj_istore_n C [(3, .int (0 : Int32)), (2, .int (1000000 : Int32)), (0, rf K 84), (1, .int l1)] dX8_soonest_27 (i := 3) rfl (by decide) rfl ?_
      refine mj_phi1 69 (fun (v_6 : Int32) => [(2, .int v_6)]) (fun (v_6 : Int32) => []) (fun (v_6 : Int32) => h) (fun P' kj_9 => mj_sub [2, 3, 1, 0] rfl (lX8_soonest_28 C md_N h l1 (1000000 : Int32) (0 : Int32) kj_9)) (fun v_6 => ?_)
      refine mj_iload_n C 0 dX8_soonest_69 (i := 2) rfl rfl ?_
      refine mj_ldcw C kc_X8_262 dX8_soonest_70 ?_
      refine mj_phi1 81 (fun (v_7 : Int32) => []) (fun (v_7 : Int32) => [.int v_7]) (fun (v_7 : Int32) => h) (fun P' kj_8 => ?_) (fun v_7 => ?_)
      · refine mj_icmp_ge C 80 dX8_soonest_73 (by decide) ?_ ?_
        · refine mj_iconst C (v := -1) dX8_soonest_80 rfl ?_
          exact mj_sub [] rfl (mj_some (kj_8 (-1 : Int32)))
        · refine mj_iload_n C 0 dX8_soonest_76 (i := 2) rfl rfl ?_
          refine mj_goto C 81 dX8_soonest_77 (by decide) ?_
          exact mj_sub [] rfl (mj_some (kj_8 v_6))
      · exact mj_rI C N dX8_soonest_81
    · refine mj_ldc C kc_X8_251 dX8_soonest_19 ?_
      exact mj_rI C N dX8_soonest_21
  · refine mj_ldc C kc_X8_241 dX8_soonest_8 ?_
    exact mj_rI C N dX8_soonest_10
noncomputable def fX8_smallestSet_15 : Nat → Mm → Int32 → Int32 → Int32 → Option (Int32)
  | 0, _, _, _, _ => none
  | n + 1, h, l1, l2, l3 => (if ((1 : Int32) <<< ((h 84 2) &&& 31)) ≤ l3 then some l2 else md_bd ((if l2 < 0 then some true else md_bd (fX8_bits h l3) (fun r_4 => md_bd (fX8_bits h l2) (fun r_5 => (if r_5 ≤ r_4 then some false else some true))))) (fun (v_2 : Bool) => md_bd ((if v_2 = true then md_bd (fX8_close h l3) (fun r_8 => (if r_8 = l1 then some l3 else some l2)) else some l2)) (fun (v_6 : Int32) => fX8_smallestSet_15 n h l1 v_6 (l3 + 1))))
set_option maxRecDepth 100000 in
set_option maxHeartbeats 4000000 in
theorem lX8_smallestSet_15 {K : Kx} {Y : Yx} {cs : Nat × Nat} (C : Cx K Y cs cX8_smallestSet RX8 5 2 45) {P : Int32 → Prop} : ∀ (n : Nat) (h : Mm) (l1 : Int32) (l2 : Int32) (l3 : Int32), (∀ (w2 : Int32), J SHc K Y cs (P w2) 73 [(2, .int w2)] [] h) → J SHc K Y cs (mj_O (fX8_smallestSet_15 n h l1 l2 l3) P) 15 [(0, rf K 84), (1, .int l1), (2, .int l2), (3, .int l3)] [] h := by
  intro n
  induction n with
  | zero => intro h l1 l2 l3 kk0; exact mj_none
  | succ n ih =>
    intro h l1 l2 l3 kk0
    rw [fX8_smallestSet_15]
    refine mj_iload_n C 3 dX8_smallestSet_15 (i := 3) rfl rfl ?_
    refine mj_iconst C (v := 1) dX8_smallestSet_16 rfl ?_
    refine mj_aload_n C 0 dX8_smallestSet_17 (i := 0) rfl rfl ?_
    refine mj_getI C ff_X8_103 dX8_smallestSet_18 sh_84 rfl ?_
    refine mj_ishl C dX8_smallestSet_21 ?_
    refine mj_icmp_ge C 73 dX8_smallestSet_22 (by decide) ?_ ?_
    · exact mj_sub [2] rfl (mj_some (kk0 l2))
    · refine mj_iload_n C 2 dX8_smallestSet_25 (i := 2) rfl rfl ?_
      refine mj_phi1 45 (fun (v_2 : Bool) => [(0, rf K 84), (1, .int l1), (2, .int l2), (3, .int l3)]) (fun (v_2 : Bool) => [.int (md_bi v_2)]) (fun (v_2 : Bool) => h) (fun P' kj_3 => ?_) (fun v_2 => ?_)
      · refine mj_if_lt C 40 dX8_smallestSet_26 (by decide) ?_ ?_
        · refine mj_iconst C (v := 1) dX8_smallestSet_40 rfl ?_
          refine mj_goto C 45 dX8_smallestSet_41 (by decide) ?_
          exact mj_sub [0, 1, 2, 3] rfl (mj_some (kj_3 true))
        · refine mj_iload_n C 3 dX8_smallestSet_29 (i := 3) rfl rfl ?_
          refine mj_sI C my_X8_bits ms_X8_298 dX8_smallestSet_30 (fun a hF => ctX8_bits K h l3  hF) (by decide) (by decide) rfl rfl (Nat.le_of_ble_eq_true rfl) (fun r_4 => ?_)
          refine mj_iload_n C 2 dX8_smallestSet_33 (i := 2) rfl rfl ?_
          refine mj_sI C my_X8_bits ms_X8_298 dX8_smallestSet_34 (fun a hF => ctX8_bits K h l2  hF) (by decide) (by decide) rfl rfl (Nat.le_of_ble_eq_true rfl) (fun r_5 => ?_)
          refine mj_icmp_ge C 44 dX8_smallestSet_37 (by decide) ?_ ?_
          · refine mj_iconst C (v := 0) dX8_smallestSet_44 rfl ?_
            exact mj_sub [0, 1, 2, 3] rfl (mj_some (kj_3 false))
          · refine mj_iconst C (v := 1) dX8_smallestSet_40 rfl ?_
            refine mj_goto C 45 dX8_smallestSet_41 (by decide) ?_
            exact mj_sub [0, 1, 2, 3] rfl (mj_some (kj_3 true))
      · refine mj_istore C [(4, .int (md_bi v_2)), (0, rf K 84), (1, .int l1), (2, .int l2), (3, .int l3)] dX8_smallestSet_45 (by decide) rfl ?_
        refine mj_iload C 0 dX8_smallestSet_47 rfl ?_
        refine mj_phi1 66 (fun (v_6 : Int32) => [(0, rf K 84), (1, .int l1), (3, .int l3)]) (fun (v_6 : Int32) => [.int v_6]) (fun (v_6 : Int32) => h) (fun P' kj_7 => ?_) (fun v_6 => ?_)
        · refine mj_b_eq C 65 dX8_smallestSet_49 (by decide) ?_ ?_
          · refine mj_iload_n C 3 dX8_smallestSet_65 (i := 2) rfl rfl ?_
            exact mj_sub [1, 2, 4] rfl (mj_some (kj_7 l2))
          · refine mj_aload_n C 1 dX8_smallestSet_52 (i := 0) rfl rfl ?_
            refine mj_iload_n C 4 dX8_smallestSet_53 (i := 3) rfl rfl ?_
            refine mj_vI C my_X8_close mv_X8_220 dX8_smallestSet_54 sh_84 rfl (fun a hF => ctX8_close K h l3  hF) (by decide) (by decide) rfl rfl (Nat.le_of_ble_eq_true rfl) (fun r_8 => ?_)
            refine mj_iload_n C 2 dX8_smallestSet_57 (i := 1) rfl rfl ?_
            refine mj_icmp_ne C 65 dX8_smallestSet_58 (by decide) ?_ ?_
            · refine mj_iload_n C 3 dX8_smallestSet_65 (i := 2) rfl rfl ?_
              exact mj_sub [1, 2, 4] rfl (mj_some (kj_7 l2))
            · refine mj_iload_n C 4 dX8_smallestSet_61 (i := 3) rfl rfl ?_
              refine mj_goto C 66 dX8_smallestSet_62 (by decide) ?_
              exact mj_sub [1, 2, 4] rfl (mj_some (kj_7 l3))
        · refine mj_istore_n C [(2, .int v_6), (0, rf K 84), (1, .int l1), (3, .int l3)] dX8_smallestSet_66 (i := 2) rfl (by decide) rfl ?_
          refine mj_iinc C (l3 + 1) 3 [(3, .int (l3 + 1)), (2, .int v_6), (0, rf K 84), (1, .int l1)] dX8_smallestSet_67 rfl rfl (by decide) rfl ?_
          refine mj_goto C 15 dX8_smallestSet_70 (by decide) ?_
          exact mj_sub [2, 3, 1, 0] rfl (ih h l1 v_6 (l3 + 1) kk0)
noncomputable def fX8_smallestSet (h : Mm) : Option (Int32) := md_ck (md_in (0 : Int32) 9) (md_bd (fX8_close h (h 92 ((0 : Int32)).toNatClampNeg)) (fun r_1 => md_bd (fX8_smallestSet_15 md_N h r_1 (-1 : Int32) (0 : Int32)) (fun (v_9 : Int32) => some v_9)))
set_option maxRecDepth 100000 in
set_option maxHeartbeats 4000000 in
theorem ctX8_smallestSet (K : Kx) (h : Mm) {a : Int32} (hF : fX8_smallestSet h = some a) : Mt K yX8_smallestSet cX8_smallestSet 5 (some .int) 2 45 SHc [rf K 84] h (some (.int a)) h := by
  refine Mt.of hF [(0, rf K 84)] (by decide) (Nat.le_of_ble_eq_true rfl) rfl (fun Y C N => ?_)
  have C : Cx K Y (0, 0) cX8_smallestSet RX8 5 2 45 := C
  unfold fX8_smallestSet
  refine mj_aload_n C 0 dX8_smallestSet_0 (i := 0) rfl rfl ?_
  refine mj_aload_n C 0 dX8_smallestSet_1 (i := 0) rfl rfl ?_
  refine mj_getR C ff_X8_31 dX8_smallestSet_2 sh_84 rfl ?_
  refine mj_iconst C (v := 0) dX8_smallestSet_5 rfl ?_
  refine mj_iald C dX8_smallestSet_6 sh_92 ?_
  refine mj_vI C my_X8_close mv_X8_220 dX8_smallestSet_7 sh_84 rfl (fun a hF => ctX8_close K h (h 92 ((0 : Int32)).toNatClampNeg)  hF) (by decide) (by decide) rfl rfl (Nat.le_of_ble_eq_true rfl) (fun r_1 => ?_)
  refine mj_istore_n C [(1, .int r_1), (0, rf K 84)] dX8_smallestSet_10 (i := 1) rfl (by decide) rfl ?_
  refine mj_iconst C (v := -1) dX8_smallestSet_11 rfl ?_
  refine mj_istore_n C [(2, .int (-1 : Int32)), (1, .int r_1), (0, rf K 84)] dX8_smallestSet_12 (i := 2) rfl (by decide) rfl ?_
  refine mj_iconst C (v := 0) dX8_smallestSet_13 rfl ?_
  refine mj_istore_n C [(3, .int (0 : Int32)), (2, .int (-1 : Int32)), (1, .int r_1), (0, rf K 84)] dX8_smallestSet_14 (i := 3) rfl (by decide) rfl ?_
  refine mj_phi1 73 (fun (v_9 : Int32) => [(2, .int v_9)]) (fun (v_9 : Int32) => []) (fun (v_9 : Int32) => h) (fun P' kj_10 => mj_sub [3, 2, 1, 0] rfl (lX8_smallestSet_15 C md_N h r_1 (-1 : Int32) (0 : Int32) kj_10)) (fun v_9 => ?_)
  refine mj_iload_n C 0 dX8_smallestSet_73 (i := 2) rfl rfl ?_
  exact mj_rI C N dX8_smallestSet_74
noncomputable def fX8_needless_4 : Nat → Mm → Int32 → Int32 → Option (Int32)
  | 0, _, _, _ => none
  | n + 1, h, l1, l2 => (if (h 84 2) ≤ l2 then some l1 else md_ck (md_in (0 : Int32) 9) (md_bd (fX8_has h (h 92 ((0 : Int32)).toNatClampNeg) l2) (fun r_1 => md_bd ((if r_1 = true then md_ck (md_in (0 : Int32) 9) (md_bd (fX8_close h ((h 92 ((0 : Int32)).toNatClampNeg) &&& (((1 : Int32) <<< (l2 &&& 31)) ^^^ (-1 : Int32)))) (fun r_4 => md_ck (md_in (0 : Int32) 9) (md_bd (fX8_close h (h 92 ((0 : Int32)).toNatClampNeg)) (fun r_5 => (if r_4 = r_5 then some true else some false))))) else some false)) (fun (v_2 : Bool) => md_bd ((if v_2 = true then some ((1 : Int32) <<< (l2 &&& 31)) else some (0 : Int32))) (fun (v_6 : Int32) => md_lt (l1 ||| v_6) (fun l1_8 : Int32 => fX8_needless_4 n h l1_8 (l2 + 1)))))))
set_option maxRecDepth 100000 in
set_option maxHeartbeats 4000000 in
theorem lX8_needless_4 {K : Kx} {Y : Yx} {cs : Nat × Nat} (C : Cx K Y cs cX8_needless RX8 4 2 45) {P : Int32 → Prop} : ∀ (n : Nat) (h : Mm) (l1 : Int32) (l2 : Int32), (∀ (w1 : Int32), J SHc K Y cs (P w1) 80 [(1, .int w1)] [] h) → J SHc K Y cs (mj_O (fX8_needless_4 n h l1 l2) P) 4 [(0, rf K 84), (1, .int l1), (2, .int l2)] [] h := by
  intro n
  induction n with
  | zero => intro h l1 l2 kk0; exact mj_none
  | succ n ih =>
    intro h l1 l2 kk0
    rw [fX8_needless_4]
    refine mj_iload_n C 2 dX8_needless_4 (i := 2) rfl rfl ?_
    refine mj_aload_n C 0 dX8_needless_5 (i := 0) rfl rfl ?_
    refine mj_getI C ff_X8_103 dX8_needless_6 sh_84 rfl ?_
    refine mj_icmp_ge C 80 dX8_needless_9 (by decide) ?_ ?_
    · exact mj_sub [1] rfl (mj_some (kk0 l1))
    · refine mj_aload_n C 0 dX8_needless_12 (i := 0) rfl rfl ?_
      refine mj_getR C ff_X8_31 dX8_needless_13 sh_84 rfl ?_
      refine mj_iconst C (v := 0) dX8_needless_16 rfl ?_
      refine mj_iald C dX8_needless_17 sh_92 ?_
      refine mj_iload_n C 2 dX8_needless_18 (i := 2) rfl rfl ?_
      refine mj_sB C my_X8_has ms_X8_160 dX8_needless_19 (fun a hF => ctX8_has K h (h 92 ((0 : Int32)).toNatClampNeg) l2  hF) (by decide) (by decide) rfl rfl (Nat.le_of_ble_eq_true rfl) (fun r_1 => ?_)
      refine mj_phi1 59 (fun (v_2 : Bool) => [(0, rf K 84), (1, .int l1), (2, .int l2)]) (fun (v_2 : Bool) => [.int (md_bi v_2)]) (fun (v_2 : Bool) => h) (fun P' kj_3 => ?_) (fun v_2 => ?_)
      · refine mj_b_eq C 58 dX8_needless_22 (by decide) ?_ ?_
        · refine mj_iconst C (v := 0) dX8_needless_58 rfl ?_
          exact mj_sub [0, 1, 2] rfl (mj_some (kj_3 false))
        · refine mj_aload_n C 0 dX8_needless_25 (i := 0) rfl rfl ?_
          refine mj_aload_n C 0 dX8_needless_26 (i := 0) rfl rfl ?_
          refine mj_getR C ff_X8_31 dX8_needless_27 sh_84 rfl ?_
          refine mj_iconst C (v := 0) dX8_needless_30 rfl ?_
          refine mj_iald C dX8_needless_31 sh_92 ?_
          refine mj_iconst C (v := 1) dX8_needless_32 rfl ?_
          refine mj_iload_n C 2 dX8_needless_33 (i := 2) rfl rfl ?_
          refine mj_ishl C dX8_needless_34 ?_
          refine mj_iconst C (v := -1) dX8_needless_35 rfl ?_
          refine mj_ixor C dX8_needless_36 ?_
          refine mj_iand C dX8_needless_37 ?_
          refine mj_vI C my_X8_close mv_X8_220 dX8_needless_38 sh_84 rfl (fun a hF => ctX8_close K h ((h 92 ((0 : Int32)).toNatClampNeg) &&& (((1 : Int32) <<< (l2 &&& 31)) ^^^ (-1 : Int32)))  hF) (by decide) (by decide) rfl rfl (Nat.le_of_ble_eq_true rfl) (fun r_4 => ?_)
          refine mj_aload_n C 0 dX8_needless_41 (i := 0) rfl rfl ?_
          refine mj_aload_n C 0 dX8_needless_42 (i := 0) rfl rfl ?_
          refine mj_getR C ff_X8_31 dX8_needless_43 sh_84 rfl ?_
          refine mj_iconst C (v := 0) dX8_needless_46 rfl ?_
          refine mj_iald C dX8_needless_47 sh_92 ?_
          refine mj_vI C my_X8_close mv_X8_220 dX8_needless_48 sh_84 rfl (fun a hF => ctX8_close K h (h 92 ((0 : Int32)).toNatClampNeg)  hF) (by decide) (by decide) rfl rfl (Nat.le_of_ble_eq_true rfl) (fun r_5 => ?_)
          refine mj_icmp_ne C 58 dX8_needless_51 (by decide) ?_ ?_
          · refine mj_iconst C (v := 0) dX8_needless_58 rfl ?_
            exact mj_sub [0, 1, 2] rfl (mj_some (kj_3 false))
          · refine mj_iconst C (v := 1) dX8_needless_54 rfl ?_
            refine mj_goto C 59 dX8_needless_55 (by decide) ?_
            exact mj_sub [0, 1, 2] rfl (mj_some (kj_3 true))
      · refine mj_istore_n C [(3, .int (md_bi v_2)), (0, rf K 84), (1, .int l1), (2, .int l2)] dX8_needless_59 (i := 3) rfl (by decide) rfl ?_
        refine mj_iload_n C 2 dX8_needless_60 (i := 1) rfl rfl ?_
        refine mj_iload_n C 0 dX8_needless_61 (i := 3) rfl rfl ?_
        refine mj_phi1 72 (fun (v_6 : Int32) => [(0, rf K 84), (2, .int l2)]) (fun (v_6 : Int32) => [.int v_6, .int l1]) (fun (v_6 : Int32) => h) (fun P' kj_7 => ?_) (fun v_6 => ?_)
        · refine mj_b_eq C 71 dX8_needless_62 (by decide) ?_ ?_
          · refine mj_iconst C (v := 0) dX8_needless_71 rfl ?_
            exact mj_sub [1, 3] rfl (mj_some (kj_7 (0 : Int32)))
          · refine mj_iconst C (v := 1) dX8_needless_65 rfl ?_
            refine mj_iload_n C 3 dX8_needless_66 (i := 2) rfl rfl ?_
            refine mj_ishl C dX8_needless_67 ?_
            refine mj_goto C 72 dX8_needless_68 (by decide) ?_
            exact mj_sub [1, 3] rfl (mj_some (kj_7 ((1 : Int32) <<< (l2 &&& 31))))
        · refine mj_ior C dX8_needless_72 ?_
          refine mj_istore_nL C (fun l1_8 => [(1, .int l1_8), (0, rf K 84), (2, .int l2)]) dX8_needless_73 (i := 1) rfl (by decide) rfl (fun l1_8 => ?_)
          refine mj_iinc C (l2 + 1) 2 [(2, .int (l2 + 1)), (1, .int l1_8), (0, rf K 84)] dX8_needless_74 rfl rfl (by decide) rfl ?_
          refine mj_goto C 4 dX8_needless_77 (by decide) ?_
          exact mj_sub [2, 1, 0] rfl (ih h l1_8 (l2 + 1) kk0)
noncomputable def fX8_needless (h : Mm) : Option (Int32) := md_bd (fX8_needless_4 md_N h (0 : Int32) (0 : Int32)) (fun (v_9 : Int32) => some v_9)
set_option maxRecDepth 100000 in
set_option maxHeartbeats 4000000 in
theorem ctX8_needless (K : Kx) (h : Mm) {a : Int32} (hF : fX8_needless h = some a) : Mt K yX8_needless cX8_needless 4 (some .int) 2 45 SHc [rf K 84] h (some (.int a)) h := by
  refine Mt.of hF [(0, rf K 84)] (by decide) (Nat.le_of_ble_eq_true rfl) rfl (fun Y C N => ?_)
  have C : Cx K Y (0, 0) cX8_needless RX8 4 2 45 := C
  unfold fX8_needless
  refine mj_iconst C (v := 0) dX8_needless_0 rfl ?_
  refine mj_istore_n C [(1, .int (0 : Int32)), (0, rf K 84)] dX8_needless_1 (i := 1) rfl (by decide) rfl ?_
  refine mj_iconst C (v := 0) dX8_needless_2 rfl ?_
  refine mj_istore_n C [(2, .int (0 : Int32)), (1, .int (0 : Int32)), (0, rf K 84)] dX8_needless_3 (i := 2) rfl (by decide) rfl ?_
  refine mj_phi1 80 (fun (v_9 : Int32) => [(1, .int v_9)]) (fun (v_9 : Int32) => []) (fun (v_9 : Int32) => h) (fun P' kj_10 => mj_sub [2, 1, 0] rfl (lX8_needless_4 C md_N h (0 : Int32) (0 : Int32) kj_10)) (fun v_9 => ?_)
  refine mj_iload_n C 0 dX8_needless_80 (i := 1) rfl rfl ?_
  exact mj_rI C N dX8_needless_81
noncomputable def fX8_smallest (h : Mm) (l1 : Int32) : Option (Int32) := md_bd ((if l1 = 0 then md_bd (fX8_smallestSet h) (fun r_4 => some r_4) else (if l1 = (1 : Int32) then md_bd (fX8_needless h) (fun r_3 => some r_3) else some (-1000000002 : Int32)))) (fun (v_1 : Int32) => some v_1)
set_option maxRecDepth 100000 in
set_option maxHeartbeats 4000000 in
theorem ctX8_smallest (K : Kx) (h : Mm) (l1 : Int32) {a : Int32} (hF : fX8_smallest h l1 = some a) : Mt K yX8_smallest cX8_smallest 2 (some .int) 3 69 SHc [rf K 84, .int l1] h (some (.int a)) h := by
  refine Mt.of hF [(0, rf K 84), (1, .int l1)] (by decide) (Nat.le_of_ble_eq_true rfl) rfl (fun Y C N => ?_)
  have C : Cx K Y (0, 0) cX8_smallest RX8 2 3 69 := C
  unfold fX8_smallest
  refine mj_iload_n C 1 dX8_smallest_0 (i := 1) rfl rfl ?_
  refine mj_phi1 25 (fun (v_1 : Int32) => []) (fun (v_1 : Int32) => [.int v_1]) (fun (v_1 : Int32) => h) (fun P' kj_2 => ?_) (fun v_1 => ?_)
  · refine mj_if_ne C 11 dX8_smallest_1 (by decide) ?_ ?_
    · refine mj_iload_n C 1 dX8_smallest_11 (i := 1) rfl rfl ?_
      refine mj_iconst C (v := 1) dX8_smallest_12 rfl ?_
      refine mj_icmp_ne C 23 dX8_smallest_13 (by decide) ?_ ?_
      · refine mj_ldc C kc_X8_115 dX8_smallest_23 ?_
        exact mj_sub [] rfl (mj_some (kj_2 (-1000000002 : Int32)))
      · refine mj_aload_n C 0 dX8_smallest_16 (i := 0) rfl rfl ?_
        refine mj_vI C my_X8_needless mv_X8_304 dX8_smallest_17 sh_84 rfl (fun a hF => ctX8_needless K h   hF) (by decide) (by decide) rfl rfl (Nat.le_of_ble_eq_true rfl) (fun r_3 => ?_)
        refine mj_goto C 25 dX8_smallest_20 (by decide) ?_
        exact mj_sub [] rfl (mj_some (kj_2 r_3))
    · refine mj_aload_n C 0 dX8_smallest_4 (i := 0) rfl rfl ?_
      refine mj_vI C my_X8_smallestSet mv_X8_301 dX8_smallest_5 sh_84 rfl (fun a hF => ctX8_smallestSet K h   hF) (by decide) (by decide) rfl rfl (Nat.le_of_ble_eq_true rfl) (fun r_4 => ?_)
      refine mj_goto C 25 dX8_smallest_8 (by decide) ?_
      exact mj_sub [] rfl (mj_some (kj_2 r_4))
  · exact mj_rI C N dX8_smallest_25
noncomputable def fX8_better (h : Mm) (l1 : Int32) (l2 : Int32) : Option (Int32) := md_bd (fX8_isTraveller h l1) (fun r_1 => (if r_1 = true then md_bd (fX8_in h ((l2).toInt64) (0 : Int64) (9999 : Int64)) (fun r_2 => (if r_2 = true then md_bd (fX8_isGone h l1) (fun r_3 => (if r_3 = true then some (-1000000003 : Int32) else md_bd (fX8_isStuck h l1) (fun r_4 => md_bd ((if r_4 = true then some true else md_ck (md_in ((2 : Int32) + l1) 9) (md_bd (fX8_owedFor h (h 92 (((2 : Int32) + l1)).toNatClampNeg)) (fun r_7 => (if r_7 ≤ (((h 84 1) * l2) / (100 : Int32)) then some false else some true))))) (fun (v_5 : Bool) => some (md_bi v_5))))) else some (-1000000002 : Int32))) else some (-1000000001 : Int32)))
set_option maxRecDepth 100000 in
set_option maxHeartbeats 4000000 in
theorem ctX8_better (K : Kx) (h : Mm) (l1 : Int32) (l2 : Int32) {a : Int32} (hF : fX8_better h l1 l2 = some a) : Mt K yX8_better cX8_better 3 (some .int) 4 90 SHc [rf K 84, .int l1, .int l2] h (some (.int a)) h := by
  refine Mt.of hF [(0, rf K 84), (1, .int l1), (2, .int l2)] (by decide) (Nat.le_of_ble_eq_true rfl) rfl (fun Y C N => ?_)
  have C : Cx K Y (0, 0) cX8_better RX8 3 4 90 := C
  unfold fX8_better
  refine mj_aload_n C 0 dX8_better_0 (i := 0) rfl rfl ?_
  refine mj_iload_n C 1 dX8_better_1 (i := 1) rfl rfl ?_
  refine mj_vB C my_X8_isTraveller mv_X8_242 dX8_better_2 sh_84 rfl (fun a hF => ctX8_isTraveller K h l1  hF) (by decide) (by decide) rfl rfl (Nat.le_of_ble_eq_true rfl) (fun r_1 => ?_)
  refine mj_b_ne C 11 dX8_better_5 (by decide) ?_ ?_
  · refine mj_iload_n C 2 dX8_better_11 (i := 2) rfl rfl ?_
    refine mj_i2l C dX8_better_12 ?_
    refine mj_lconst C (v := 0) dX8_better_13 rfl ?_
    refine mj_ldc2 C kc_X8_307 dX8_better_14 ?_
    refine mj_sB C my_X8_in ms_X8_106 dX8_better_17 (fun a hF => ctX8_in K h ((l2).toInt64) (0 : Int64) (9999 : Int64)  hF) (by decide) (by decide) rfl rfl (Nat.le_of_ble_eq_true rfl) (fun r_2 => ?_)
    refine mj_b_ne C 26 dX8_better_20 (by decide) ?_ ?_
    · refine mj_aload_n C 0 dX8_better_26 (i := 0) rfl rfl ?_
      refine mj_iload_n C 1 dX8_better_27 (i := 1) rfl rfl ?_
      refine mj_vB C my_X8_isGone mv_X8_229 dX8_better_28 sh_84 rfl (fun a hF => ctX8_isGone K h l1  hF) (by decide) (by decide) rfl rfl (Nat.le_of_ble_eq_true rfl) (fun r_3 => ?_)
      refine mj_b_eq C 37 dX8_better_31 (by decide) ?_ ?_
      · refine mj_aload_n C 0 dX8_better_37 (i := 0) rfl rfl ?_
        refine mj_iload_n C 1 dX8_better_38 (i := 1) rfl rfl ?_
        refine mj_vB C my_X8_isStuck mv_X8_232 dX8_better_39 sh_84 rfl (fun a hF => ctX8_isStuck K h l1  hF) (by decide) (by decide) rfl rfl (Nat.le_of_ble_eq_true rfl) (fun r_4 => ?_)
        refine mj_phi1 74 (fun (v_5 : Bool) => []) (fun (v_5 : Bool) => [.int (md_bi v_5)]) (fun (v_5 : Bool) => h) (fun P' kj_6 => ?_) (fun v_5 => ?_)
        · refine mj_b_ne C 69 dX8_better_42 (by decide) ?_ ?_
          · refine mj_iconst C (v := 1) dX8_better_69 rfl ?_
            refine mj_goto C 74 dX8_better_70 (by decide) ?_
            exact mj_sub [] rfl (mj_some (kj_6 true))
          · refine mj_aload_n C 0 dX8_better_45 (i := 0) rfl rfl ?_
            refine mj_aload_n C 0 dX8_better_46 (i := 0) rfl rfl ?_
            refine mj_getR C ff_X8_31 dX8_better_47 sh_84 rfl ?_
            refine mj_iconst C (v := 2) dX8_better_50 rfl ?_
            refine mj_iload_n C 1 dX8_better_51 (i := 1) rfl rfl ?_
            refine mj_iadd C dX8_better_52 ?_
            refine mj_iald C dX8_better_53 sh_92 ?_
            refine mj_vI C my_X8_owedFor mv_X8_245 dX8_better_54 sh_84 rfl (fun a hF => ctX8_owedFor K h (h 92 (((2 : Int32) + l1)).toNatClampNeg)  hF) (by decide) (by decide) rfl rfl (Nat.le_of_ble_eq_true rfl) (fun r_7 => ?_)
            refine mj_aload_n C 0 dX8_better_57 (i := 0) rfl rfl ?_
            refine mj_getI C ff_X8_196 dX8_better_58 sh_84 rfl ?_
            refine mj_iload_n C 2 dX8_better_61 (i := 2) rfl rfl ?_
            refine mj_imul C dX8_better_62 ?_
            refine mj_bipush C (v := 100) dX8_better_63 rfl ?_
            refine mj_idiv C dX8_better_65 (by decide) ?_
            refine mj_icmp_le C 73 dX8_better_66 (by decide) ?_ ?_
            · refine mj_iconst C (v := 0) dX8_better_73 rfl ?_
              exact mj_sub [] rfl (mj_some (kj_6 false))
            · refine mj_iconst C (v := 1) dX8_better_69 rfl ?_
              refine mj_goto C 74 dX8_better_70 (by decide) ?_
              exact mj_sub [] rfl (mj_some (kj_6 true))
        · exact mj_rI C N dX8_better_74
      · refine mj_ldc C kc_X8_251 dX8_better_34 ?_
        exact mj_rI C N dX8_better_36
    · refine mj_ldc C kc_X8_115 dX8_better_23 ?_
      exact mj_rI C N dX8_better_25
  · refine mj_ldc C kc_X8_241 dX8_better_8 ?_
    exact mj_rI C N dX8_better_10
noncomputable def fX8_gains (h : Mm) (l1 : Int32) (l2 : Int32) : Option (Int32) := md_bd (fX8_isTraveller h l1) (fun r_1 => (if r_1 = true then md_bd (fX8_isSet h l2) (fun r_2 => (if r_2 = true then md_bd (fX8_isGone h l1) (fun r_3 => (if r_3 = true then some (-1000000003 : Int32) else md_ck (md_in ((2 : Int32) + l1) 9) (md_bd (fX8_owedFor h (h 92 (((2 : Int32) + l1)).toNatClampNeg)) (fun r_4 => md_ck (md_in ((2 : Int32) + l1) 9) (md_bd (fX8_close h l2) (fun r_5 => md_bd (fX8_owedWhere h (h 92 (((2 : Int32) + l1)).toNatClampNeg) r_5) (fun r_6 => some ((r_4 - r_6) + (1000 : Int32))))))))) else some (-1000000001 : Int32))) else some (-1000000001 : Int32)))
set_option maxRecDepth 100000 in
set_option maxHeartbeats 4000000 in
theorem ctX8_gains (K : Kx) (h : Mm) (l1 : Int32) (l2 : Int32) {a : Int32} (hF : fX8_gains h l1 l2 = some a) : Mt K yX8_gains cX8_gains 3 (some .int) 4 90 SHc [rf K 84, .int l1, .int l2] h (some (.int a)) h := by
  refine Mt.of hF [(0, rf K 84), (1, .int l1), (2, .int l2)] (by decide) (Nat.le_of_ble_eq_true rfl) rfl (fun Y C N => ?_)
  have C : Cx K Y (0, 0) cX8_gains RX8 3 4 90 := C
  unfold fX8_gains
  refine mj_aload_n C 0 dX8_gains_0 (i := 0) rfl rfl ?_
  refine mj_iload_n C 1 dX8_gains_1 (i := 1) rfl rfl ?_
  refine mj_vB C my_X8_isTraveller mv_X8_242 dX8_gains_2 sh_84 rfl (fun a hF => ctX8_isTraveller K h l1  hF) (by decide) (by decide) rfl rfl (Nat.le_of_ble_eq_true rfl) (fun r_1 => ?_)
  refine mj_b_eq C 16 dX8_gains_5 (by decide) ?_ ?_
  · refine mj_ldc C kc_X8_241 dX8_gains_16 ?_
    exact mj_rI C N dX8_gains_18
  · refine mj_aload_n C 0 dX8_gains_8 (i := 0) rfl rfl ?_
    refine mj_iload_n C 2 dX8_gains_9 (i := 2) rfl rfl ?_
    refine mj_vB C my_X8_isSet mv_X8_270 dX8_gains_10 sh_84 rfl (fun a hF => ctX8_isSet K h l2  hF) (by decide) (by decide) rfl rfl (Nat.le_of_ble_eq_true rfl) (fun r_2 => ?_)
    refine mj_b_ne C 19 dX8_gains_13 (by decide) ?_ ?_
    · refine mj_aload_n C 0 dX8_gains_19 (i := 0) rfl rfl ?_
      refine mj_iload_n C 1 dX8_gains_20 (i := 1) rfl rfl ?_
      refine mj_vB C my_X8_isGone mv_X8_229 dX8_gains_21 sh_84 rfl (fun a hF => ctX8_isGone K h l1  hF) (by decide) (by decide) rfl rfl (Nat.le_of_ble_eq_true rfl) (fun r_3 => ?_)
      refine mj_b_eq C 30 dX8_gains_24 (by decide) ?_ ?_
      · refine mj_aload_n C 0 dX8_gains_30 (i := 0) rfl rfl ?_
        refine mj_aload_n C 0 dX8_gains_31 (i := 0) rfl rfl ?_
        refine mj_getR C ff_X8_31 dX8_gains_32 sh_84 rfl ?_
        refine mj_iconst C (v := 2) dX8_gains_35 rfl ?_
        refine mj_iload_n C 1 dX8_gains_36 (i := 1) rfl rfl ?_
        refine mj_iadd C dX8_gains_37 ?_
        refine mj_iald C dX8_gains_38 sh_92 ?_
        refine mj_vI C my_X8_owedFor mv_X8_245 dX8_gains_39 sh_84 rfl (fun a hF => ctX8_owedFor K h (h 92 (((2 : Int32) + l1)).toNatClampNeg)  hF) (by decide) (by decide) rfl rfl (Nat.le_of_ble_eq_true rfl) (fun r_4 => ?_)
        refine mj_aload_n C 0 dX8_gains_42 (i := 0) rfl rfl ?_
        refine mj_aload_n C 0 dX8_gains_43 (i := 0) rfl rfl ?_
        refine mj_getR C ff_X8_31 dX8_gains_44 sh_84 rfl ?_
        refine mj_iconst C (v := 2) dX8_gains_47 rfl ?_
        refine mj_iload_n C 1 dX8_gains_48 (i := 1) rfl rfl ?_
        refine mj_iadd C dX8_gains_49 ?_
        refine mj_iald C dX8_gains_50 sh_92 ?_
        refine mj_aload_n C 0 dX8_gains_51 (i := 0) rfl rfl ?_
        refine mj_iload_n C 2 dX8_gains_52 (i := 2) rfl rfl ?_
        refine mj_vI C my_X8_close mv_X8_220 dX8_gains_53 sh_84 rfl (fun a hF => ctX8_close K h l2  hF) (by decide) (by decide) rfl rfl (Nat.le_of_ble_eq_true rfl) (fun r_5 => ?_)
        refine mj_vI C my_X8_owedWhere mv_X8_223 dX8_gains_56 sh_84 rfl (fun a hF => ctX8_owedWhere K h (h 92 (((2 : Int32) + l1)).toNatClampNeg) r_5  hF) (by decide) (by decide) rfl rfl (Nat.le_of_ble_eq_true rfl) (fun r_6 => ?_)
        refine mj_isub C dX8_gains_59 ?_
        refine mj_sipush C (v := 1000) dX8_gains_60 rfl ?_
        refine mj_iadd C dX8_gains_63 ?_
        exact mj_rI C N dX8_gains_64
      · refine mj_ldc C kc_X8_251 dX8_gains_27 ?_
        exact mj_rI C N dX8_gains_29
    · refine mj_ldc C kc_X8_241 dX8_gains_16 ?_
      exact mj_rI C N dX8_gains_18
noncomputable def fX8_free (h : Mm) : Option (Int32) := md_ck (md_in (0 : Int32) 9) (md_bd (fX8_close h (h 92 ((0 : Int32)).toNatClampNeg)) (fun r_1 => md_ck (md_in (0 : Int32) 9) (some (r_1 &&& ((h 92 ((0 : Int32)).toNatClampNeg) ^^^ (-1 : Int32))))))
set_option maxRecDepth 100000 in
set_option maxHeartbeats 4000000 in
theorem ctX8_free (K : Kx) (h : Mm) {a : Int32} (hF : fX8_free h = some a) : Mt K yX8_free cX8_free 1 (some .int) 2 45 SHc [rf K 84] h (some (.int a)) h := by
  refine Mt.of hF [(0, rf K 84)] (by decide) (Nat.le_of_ble_eq_true rfl) rfl (fun Y C N => ?_)
  have C : Cx K Y (0, 0) cX8_free RX8 1 2 45 := C
  unfold fX8_free
  refine mj_aload_n C 0 dX8_free_0 (i := 0) rfl rfl ?_
  refine mj_aload_n C 0 dX8_free_1 (i := 0) rfl rfl ?_
  refine mj_getR C ff_X8_31 dX8_free_2 sh_84 rfl ?_
  refine mj_iconst C (v := 0) dX8_free_5 rfl ?_
  refine mj_iald C dX8_free_6 sh_92 ?_
  refine mj_vI C my_X8_close mv_X8_220 dX8_free_7 sh_84 rfl (fun a hF => ctX8_close K h (h 92 ((0 : Int32)).toNatClampNeg)  hF) (by decide) (by decide) rfl rfl (Nat.le_of_ble_eq_true rfl) (fun r_1 => ?_)
  refine mj_aload_n C 0 dX8_free_10 (i := 0) rfl rfl ?_
  refine mj_getR C ff_X8_31 dX8_free_11 sh_84 rfl ?_
  refine mj_iconst C (v := 0) dX8_free_14 rfl ?_
  refine mj_iald C dX8_free_15 sh_92 ?_
  refine mj_iconst C (v := -1) dX8_free_16 rfl ?_
  refine mj_ixor C dX8_free_17 ?_
  refine mj_iand C dX8_free_18 ?_
  exact mj_rI C N dX8_free_19
noncomputable def fX8_share_26 : Nat → Mm → Int32 → Int32 → Int32 → Option (Int32)
  | 0, _, _, _, _ => none
  | n + 1, h, l1, l2, l3 => (if (h 84 12) ≤ l3 then some l2 else md_bd (fX8_isGone h l3) (fun r_3 => md_bd ((if r_3 = true then some (0 : Int32) else md_ck (md_in ((2 : Int32) + l3) 9) (md_bd (fX8_owedFor h (h 92 (((2 : Int32) + l3)).toNatClampNeg)) (fun r_6 => some r_6)))) (fun (v_4 : Int32) => md_lt (l2 + v_4) (fun l2_7 : Int32 => fX8_share_26 n h l1 l2_7 (l3 + 1)))))
set_option maxRecDepth 100000 in
set_option maxHeartbeats 4000000 in
theorem lX8_share_26 {K : Kx} {Y : Yx} {cs : Nat × Nat} (C : Cx K Y cs cX8_share RX8 4 4 90) {P : Int32 → Prop} : ∀ (n : Nat) (h : Mm) (l1 : Int32) (l2 : Int32) (l3 : Int32), (∀ (w2 : Int32), J SHc K Y cs (P w2) 67 [(0, rf K 84), (1, .int l1), (2, .int w2)] [] h) → J SHc K Y cs (mj_O (fX8_share_26 n h l1 l2 l3) P) 26 [(0, rf K 84), (1, .int l1), (2, .int l2), (3, .int l3)] [] h := by
  intro n
  induction n with
  | zero => intro h l1 l2 l3 kk0; exact mj_none
  | succ n ih =>
    intro h l1 l2 l3 kk0
    rw [fX8_share_26]
    refine mj_iload_n C 3 dX8_share_26 (i := 3) rfl rfl ?_
    refine mj_aload_n C 0 dX8_share_27 (i := 0) rfl rfl ?_
    refine mj_getI C ff_X8_110 dX8_share_28 sh_84 rfl ?_
    refine mj_icmp_ge C 67 dX8_share_31 (by decide) ?_ ?_
    · exact mj_sub [0, 1, 2] rfl (mj_some (kk0 l2))
    · refine mj_iload_n C 2 dX8_share_34 (i := 2) rfl rfl ?_
      refine mj_aload_n C 0 dX8_share_35 (i := 0) rfl rfl ?_
      refine mj_iload_n C 3 dX8_share_36 (i := 3) rfl rfl ?_
      refine mj_vB C my_X8_isGone mv_X8_229 dX8_share_37 sh_84 rfl (fun a hF => ctX8_isGone K h l3  hF) (by decide) (by decide) rfl rfl (Nat.le_of_ble_eq_true rfl) (fun r_3 => ?_)
      refine mj_phi1 59 (fun (v_4 : Int32) => [(0, rf K 84), (1, .int l1), (3, .int l3)]) (fun (v_4 : Int32) => [.int v_4, .int l2]) (fun (v_4 : Int32) => h) (fun P' kj_5 => ?_) (fun v_4 => ?_)
      · refine mj_b_eq C 47 dX8_share_40 (by decide) ?_ ?_
        · refine mj_aload_n C 0 dX8_share_47 (i := 0) rfl rfl ?_
          refine mj_aload_n C 0 dX8_share_48 (i := 0) rfl rfl ?_
          refine mj_getR C ff_X8_31 dX8_share_49 sh_84 rfl ?_
          refine mj_iconst C (v := 2) dX8_share_52 rfl ?_
          refine mj_iload_n C 3 dX8_share_53 (i := 3) rfl rfl ?_
          refine mj_iadd C dX8_share_54 ?_
          refine mj_iald C dX8_share_55 sh_92 ?_
          refine mj_vI C my_X8_owedFor mv_X8_245 dX8_share_56 sh_84 rfl (fun a hF => ctX8_owedFor K h (h 92 (((2 : Int32) + l3)).toNatClampNeg)  hF) (by decide) (by decide) rfl rfl (Nat.le_of_ble_eq_true rfl) (fun r_6 => ?_)
          exact mj_sub [0, 1, 3] rfl (mj_some (kj_5 r_6))
        · refine mj_iconst C (v := 0) dX8_share_43 rfl ?_
          refine mj_goto C 59 dX8_share_44 (by decide) ?_
          exact mj_sub [0, 1, 3] rfl (mj_some (kj_5 (0 : Int32)))
      · refine mj_iadd C dX8_share_59 ?_
        refine mj_istore_nL C (fun l2_7 => [(2, .int l2_7), (0, rf K 84), (1, .int l1), (3, .int l3)]) dX8_share_60 (i := 2) rfl (by decide) rfl (fun l2_7 => ?_)
        refine mj_iinc C (l3 + 1) 3 [(3, .int (l3 + 1)), (2, .int l2_7), (0, rf K 84), (1, .int l1)] dX8_share_61 rfl rfl (by decide) rfl ?_
        refine mj_goto C 26 dX8_share_64 (by decide) ?_
        exact mj_sub [2, 3, 1, 0] rfl (ih h l1 l2_7 (l3 + 1) kk0)
noncomputable def fX8_share (h : Mm) (l1 : Int32) : Option (Int32) := md_bd (fX8_isTraveller h l1) (fun r_1 => (if r_1 = true then md_bd (fX8_isGone h l1) (fun r_2 => (if r_2 = true then some (-1000000003 : Int32) else md_bd (fX8_share_26 md_N h l1 (0 : Int32) (0 : Int32)) (fun (v_8 : Int32) => md_bd ((if v_8 = 0 then some (0 : Int32) else md_ck (md_in ((2 : Int32) + l1) 9) (md_bd (fX8_owedFor h (h 92 (((2 : Int32) + l1)).toNatClampNeg)) (fun r_11 => md_ck (decide (¬ v_8 = 0)) (some ((r_11 * (1000 : Int32)) / v_8)))))) (fun (v_9 : Int32) => some v_9)))) else some (-1000000001 : Int32)))
set_option maxRecDepth 100000 in
set_option maxHeartbeats 4000000 in
theorem ctX8_share (K : Kx) (h : Mm) (l1 : Int32) {a : Int32} (hF : fX8_share h l1 = some a) : Mt K yX8_share cX8_share 4 (some .int) 4 90 SHc [rf K 84, .int l1] h (some (.int a)) h := by
  refine Mt.of hF [(0, rf K 84), (1, .int l1)] (by decide) (Nat.le_of_ble_eq_true rfl) rfl (fun Y C N => ?_)
  have C : Cx K Y (0, 0) cX8_share RX8 4 4 90 := C
  unfold fX8_share
  refine mj_aload_n C 0 dX8_share_0 (i := 0) rfl rfl ?_
  refine mj_iload_n C 1 dX8_share_1 (i := 1) rfl rfl ?_
  refine mj_vB C my_X8_isTraveller mv_X8_242 dX8_share_2 sh_84 rfl (fun a hF => ctX8_isTraveller K h l1  hF) (by decide) (by decide) rfl rfl (Nat.le_of_ble_eq_true rfl) (fun r_1 => ?_)
  refine mj_b_ne C 11 dX8_share_5 (by decide) ?_ ?_
  · refine mj_aload_n C 0 dX8_share_11 (i := 0) rfl rfl ?_
    refine mj_iload_n C 1 dX8_share_12 (i := 1) rfl rfl ?_
    refine mj_vB C my_X8_isGone mv_X8_229 dX8_share_13 sh_84 rfl (fun a hF => ctX8_isGone K h l1  hF) (by decide) (by decide) rfl rfl (Nat.le_of_ble_eq_true rfl) (fun r_2 => ?_)
    refine mj_b_eq C 22 dX8_share_16 (by decide) ?_ ?_
    · refine mj_iconst C (v := 0) dX8_share_22 rfl ?_
      refine mj_istore_n C [(2, .int (0 : Int32)), (0, rf K 84), (1, .int l1)] dX8_share_23 (i := 2) rfl (by decide) rfl ?_
      refine mj_iconst C (v := 0) dX8_share_24 rfl ?_
      refine mj_istore_n C [(3, .int (0 : Int32)), (2, .int (0 : Int32)), (0, rf K 84), (1, .int l1)] dX8_share_25 (i := 3) rfl (by decide) rfl ?_
      refine mj_phi1 67 (fun (v_8 : Int32) => [(0, rf K 84), (1, .int l1), (2, .int v_8)]) (fun (v_8 : Int32) => []) (fun (v_8 : Int32) => h) (fun P' kj_12 => mj_sub [2, 3, 1, 0] rfl (lX8_share_26 C md_N h l1 (0 : Int32) (0 : Int32) kj_12)) (fun v_8 => ?_)
      refine mj_iload_n C 2 dX8_share_67 (i := 2) rfl rfl ?_
      refine mj_phi1 93 (fun (v_9 : Int32) => []) (fun (v_9 : Int32) => [.int v_9]) (fun (v_9 : Int32) => h) (fun P' kj_10 => ?_) (fun v_9 => ?_)
      · refine mj_if_ne C 75 dX8_share_68 (by decide) ?_ ?_
        · refine mj_aload_n C 0 dX8_share_75 (i := 0) rfl rfl ?_
          refine mj_aload_n C 0 dX8_share_76 (i := 0) rfl rfl ?_
          refine mj_getR C ff_X8_31 dX8_share_77 sh_84 rfl ?_
          refine mj_iconst C (v := 2) dX8_share_80 rfl ?_
          refine mj_iload_n C 1 dX8_share_81 (i := 1) rfl rfl ?_
          refine mj_iadd C dX8_share_82 ?_
          refine mj_iald C dX8_share_83 sh_92 ?_
          refine mj_vI C my_X8_owedFor mv_X8_245 dX8_share_84 sh_84 rfl (fun a hF => ctX8_owedFor K h (h 92 (((2 : Int32) + l1)).toNatClampNeg)  hF) (by decide) (by decide) rfl rfl (Nat.le_of_ble_eq_true rfl) (fun r_11 => ?_)
          refine mj_sipush C (v := 1000) dX8_share_87 rfl ?_
          refine mj_imul C dX8_share_90 ?_
          refine mj_iload_n C 2 dX8_share_91 (i := 2) rfl rfl ?_
          refine mj_idivC C dX8_share_92 ?_
          exact mj_sub [] rfl (mj_some (kj_10 ((r_11 * (1000 : Int32)) / v_8)))
        · refine mj_iconst C (v := 0) dX8_share_71 rfl ?_
          refine mj_goto C 93 dX8_share_72 (by decide) ?_
          exact mj_sub [] rfl (mj_some (kj_10 (0 : Int32)))
      · exact mj_rI C N dX8_share_93
    · refine mj_ldc C kc_X8_251 dX8_share_19 ?_
      exact mj_rI C N dX8_share_21
  · refine mj_ldc C kc_X8_241 dX8_share_8 ?_
    exact mj_rI C N dX8_share_10
noncomputable def fX8_glacier_22 : Nat → Mm → Int32 → Int64 → Int32 → Option (Int64)
  | 0, _, _, _, _ => none
  | n + 1, h, l1, l2, l4 => (if l1 ≤ l4 then some l2 else md_lt ((l2 * (((100 : Int32) - (h 84 1))).toInt64) / (100 : Int64)) (fun l2_3 : Int64 => fX8_glacier_22 n h l1 l2_3 (l4 + 1)))
set_option maxRecDepth 100000 in
set_option maxHeartbeats 4000000 in
theorem lX8_glacier_22 {K : Kx} {Y : Yx} {cs : Nat × Nat} (C : Cx K Y cs cX8_glacier RX8 5 1 25) {P : Int64 → Prop} : ∀ (n : Nat) (h : Mm) (l1 : Int32) (l2 : Int64) (l4 : Int32), (∀ (w2 : Int64), J SHc K Y cs (P w2) 49 [(2, .long w2)] [] h) → J SHc K Y cs (mj_O (fX8_glacier_22 n h l1 l2 l4) P) 22 [(0, rf K 84), (1, .int l1), (2, .long l2), (4, .int l4)] [] h := by
  intro n
  induction n with
  | zero => intro h l1 l2 l4 kk0; exact mj_none
  | succ n ih =>
    intro h l1 l2 l4 kk0
    rw [fX8_glacier_22]
    refine mj_iload C 3 dX8_glacier_22 rfl ?_
    refine mj_iload_n C 1 dX8_glacier_24 (i := 1) rfl rfl ?_
    refine mj_icmp_ge C 49 dX8_glacier_25 (by decide) ?_ ?_
    · exact mj_sub [2] rfl (mj_some (kk0 l2))
    · refine mj_lload_n C 2 dX8_glacier_28 (i := 2) rfl rfl ?_
      refine mj_bipush C (v := 100) dX8_glacier_29 rfl ?_
      refine mj_aload_n C 0 dX8_glacier_31 (i := 0) rfl rfl ?_
      refine mj_getI C ff_X8_196 dX8_glacier_32 sh_84 rfl ?_
      refine mj_isub C dX8_glacier_35 ?_
      refine mj_i2l C dX8_glacier_36 ?_
      refine mj_lmul C dX8_glacier_37 ?_
      refine mj_ldc2 C kc_X8_311 dX8_glacier_38 ?_
      refine mj_ldiv C dX8_glacier_41 (by decide) ?_
      refine mj_lstore_nL C (fun l2_3 => [(2, .long l2_3), (0, rf K 84), (1, .int l1), (4, .int l4)]) dX8_glacier_42 (i := 2) rfl (by decide) rfl (fun l2_3 => ?_)
      refine mj_iinc C (l4 + 1) 3 [(4, .int (l4 + 1)), (2, .long l2_3), (0, rf K 84), (1, .int l1)] dX8_glacier_43 rfl rfl (by decide) rfl ?_
      refine mj_goto C 22 dX8_glacier_46 (by decide) ?_
      exact mj_sub [2, 3, 1, 0] rfl (ih h l1 l2_3 (l4 + 1) kk0)
noncomputable def fX8_glacier (h : Mm) (l1 : Int32) : Option (Int32) := md_bd (fX8_in h ((l1).toInt64) (0 : Int64) (60 : Int64)) (fun r_1 => (if r_1 = true then md_lt (1000000000 : Int64) (fun l2_2 : Int64 => md_bd (fX8_glacier_22 md_N h l1 l2_2 (0 : Int32)) (fun (v_4 : Int64) => some ((v_4).toInt32))) else some (-1000000002 : Int32)))
set_option maxRecDepth 100000 in
set_option maxHeartbeats 4000000 in
theorem ctX8_glacier (K : Kx) (h : Mm) (l1 : Int32) {a : Int32} (hF : fX8_glacier h l1 = some a) : Mt K yX8_glacier cX8_glacier 5 (some .int) 1 25 SHc [rf K 84, .int l1] h (some (.int a)) h := by
  refine Mt.of hF [(0, rf K 84), (1, .int l1)] (by decide) (Nat.le_of_ble_eq_true rfl) rfl (fun Y C N => ?_)
  have C : Cx K Y (0, 0) cX8_glacier RX8 5 1 25 := C
  unfold fX8_glacier
  refine mj_iload_n C 1 dX8_glacier_0 (i := 1) rfl rfl ?_
  refine mj_i2l C dX8_glacier_1 ?_
  refine mj_lconst C (v := 0) dX8_glacier_2 rfl ?_
  refine mj_ldc2 C kc_X8_286 dX8_glacier_3 ?_
  refine mj_sB C my_X8_in ms_X8_106 dX8_glacier_6 (fun a hF => ctX8_in K h ((l1).toInt64) (0 : Int64) (60 : Int64)  hF) (by decide) (by decide) rfl rfl (Nat.le_of_ble_eq_true rfl) (fun r_1 => ?_)
  refine mj_b_ne C 15 dX8_glacier_9 (by decide) ?_ ?_
  · refine mj_ldc2 C kc_X8_309 dX8_glacier_15 ?_
    refine mj_lstore_nL C (fun l2_2 => [(2, .long l2_2), (0, rf K 84), (1, .int l1)]) dX8_glacier_18 (i := 2) rfl (by decide) rfl (fun l2_2 => ?_)
    refine mj_iconst C (v := 0) dX8_glacier_19 rfl ?_
    refine mj_istore C [(4, .int (0 : Int32)), (2, .long l2_2), (0, rf K 84), (1, .int l1)] dX8_glacier_20 (by decide) rfl ?_
    refine mj_phi1 49 (fun (v_4 : Int64) => [(2, .long v_4)]) (fun (v_4 : Int64) => []) (fun (v_4 : Int64) => h) (fun P' kj_5 => mj_sub [2, 3, 1, 0] rfl (lX8_glacier_22 C md_N h l1 l2_2 (0 : Int32) kj_5)) (fun v_4 => ?_)
    refine mj_lload_n C 0 dX8_glacier_49 (i := 2) rfl rfl ?_
    refine mj_l2i C dX8_glacier_50 ?_
    exact mj_rI C N dX8_glacier_51
  · refine mj_ldc C kc_X8_115 dX8_glacier_12 ?_
    exact mj_rI C N dX8_glacier_14
noncomputable def fX8_ask (h : Mm) (l1 : Int32) (l2 : Int32) (l3 : Bool) : Option (Int32 × Mm) := md_bd (fX8_isSet h l1) (fun r_1 => (if r_1 = true then md_bd (fX8_in h ((l2).toInt64) (0 : Int64) (10 : Int64)) (fun r_2 => (if r_2 = true then (if (h 84 38) = (6 : Int32) then some ((-1000000004 : Int32), h) else md_ck (md_in (h 84 38) 6) (md_lt (md_up h 105 ((h 84 38)).toNatClampNeg l1) (fun h_3 : Mm => md_ck (md_in (h_3 84 38) 6) (md_lt (md_up h_3 106 ((h_3 84 38)).toNatClampNeg l2) (fun h_4 : Mm => md_ck (md_in (h_4 84 38) 6) (md_lt (md_up h_4 107 ((h_4 84 38)).toNatClampNeg (md_bi l3)) (fun h_5 : Mm => md_lt (md_up h_5 84 38 ((h_5 84 38) + (1 : Int32))) (fun h_6 : Mm => some ((h_6 84 38), h_6))))))))) else some ((-1000000002 : Int32), h))) else some ((-1000000001 : Int32), h)))
set_option maxRecDepth 100000 in
set_option maxHeartbeats 4000000 in
theorem ctX8_ask (K : Kx) (h : Mm) (l1 : Int32) (l2 : Int32) (l3 : Bool) {a : Int32 × Mm} (hF : fX8_ask h l1 l2 l3 = some a) : Mt K yX8_ask cX8_ask 4 (some .int) 2 46 SHc [rf K 84, .int l1, .int l2, .int (md_bi l3)] h (some (.int a.1)) a.2 := by
  refine Mt.of hF [(0, rf K 84), (1, .int l1), (2, .int l2), (3, .int (md_bi l3))] (by decide) (Nat.le_of_ble_eq_true rfl) rfl (fun Y C N => ?_)
  have C : Cx K Y (0, 0) cX8_ask RX8 4 2 46 := C
  unfold fX8_ask
  refine mj_aload_n C 0 dX8_ask_0 (i := 0) rfl rfl ?_
  refine mj_iload_n C 1 dX8_ask_1 (i := 1) rfl rfl ?_
  refine mj_vB C my_X8_isSet mv_X8_270 dX8_ask_2 sh_84 rfl (fun a hF => ctX8_isSet K h l1  hF) (by decide) (by decide) rfl rfl (Nat.le_of_ble_eq_true rfl) (fun r_1 => ?_)
  refine mj_b_ne C 11 dX8_ask_5 (by decide) ?_ ?_
  · refine mj_iload_n C 2 dX8_ask_11 (i := 2) rfl rfl ?_
    refine mj_i2l C dX8_ask_12 ?_
    refine mj_lconst C (v := 0) dX8_ask_13 rfl ?_
    refine mj_ldc2 C kc_X8_313 dX8_ask_14 ?_
    refine mj_sB C my_X8_in ms_X8_106 dX8_ask_17 (fun a hF => ctX8_in K h ((l2).toInt64) (0 : Int64) (10 : Int64)  hF) (by decide) (by decide) rfl rfl (Nat.le_of_ble_eq_true rfl) (fun r_2 => ?_)
    refine mj_b_ne C 26 dX8_ask_20 (by decide) ?_ ?_
    · refine mj_aload_n C 0 dX8_ask_26 (i := 0) rfl rfl ?_
      refine mj_getI C ff_X8_211 dX8_ask_27 sh_84 rfl ?_
      refine mj_bipush C (v := 6) dX8_ask_30 rfl ?_
      refine mj_icmp_ne C 38 dX8_ask_32 (by decide) ?_ ?_
      · refine mj_aload_n C 0 dX8_ask_38 (i := 0) rfl rfl ?_
        refine mj_getR C ff_X8_74 dX8_ask_39 sh_84 rfl ?_
        refine mj_aload_n C 0 dX8_ask_42 (i := 0) rfl rfl ?_
        refine mj_getI C ff_X8_211 dX8_ask_43 sh_84 rfl ?_
        refine mj_iload_n C 1 dX8_ask_46 (i := 1) rfl rfl ?_
        refine mj_iast C dX8_ask_47 sh_105 (fun h_3 => ?_)
        refine mj_aload_n C 0 dX8_ask_48 (i := 0) rfl rfl ?_
        refine mj_getR C ff_X8_77 dX8_ask_49 sh_84 rfl ?_
        refine mj_aload_n C 0 dX8_ask_52 (i := 0) rfl rfl ?_
        refine mj_getI C ff_X8_211 dX8_ask_53 sh_84 rfl ?_
        refine mj_iload_n C 2 dX8_ask_56 (i := 2) rfl rfl ?_
        refine mj_iast C dX8_ask_57 sh_106 (fun h_4 => ?_)
        refine mj_aload_n C 0 dX8_ask_58 (i := 0) rfl rfl ?_
        refine mj_getR C ff_X8_80 dX8_ask_59 sh_84 rfl ?_
        refine mj_aload_n C 0 dX8_ask_62 (i := 0) rfl rfl ?_
        refine mj_getI C ff_X8_211 dX8_ask_63 sh_84 rfl ?_
        refine mj_iload_n C 3 dX8_ask_66 (i := 3) rfl rfl ?_
        refine mj_zast C (v := l3) dX8_ask_67 sh_107 (fun h_5 => ?_)
        refine mj_aload_n C 0 dX8_ask_68 (i := 0) rfl rfl ?_
        refine mj_dup C dX8_ask_69 rfl ?_
        refine mj_getI C ff_X8_211 dX8_ask_70 sh_84 rfl ?_
        refine mj_iconst C (v := 1) dX8_ask_73 rfl ?_
        refine mj_iadd C dX8_ask_74 ?_
        refine mj_putL C fp_X8_211 dX8_ask_75 sh_84 rfl rfl rfl (fun h_6 => ?_)
        refine mj_aload_n C 0 dX8_ask_78 (i := 0) rfl rfl ?_
        refine mj_getI C ff_X8_211 dX8_ask_79 sh_84 rfl ?_
        exact mj_rIM C N dX8_ask_82
      · refine mj_ldc C kc_X8_119 dX8_ask_35 ?_
        exact mj_rIM C N dX8_ask_37
    · refine mj_ldc C kc_X8_115 dX8_ask_23 ?_
      exact mj_rIM C N dX8_ask_25
  · refine mj_ldc C kc_X8_241 dX8_ask_8 ?_
    exact mj_rIM C N dX8_ask_10
noncomputable def fX8_answers (h : Mm) (l0 : Int32) (l1 : Int32) (l2 : Int32) : Option (Bool) := md_lt (l0 &&& l1) (fun l3_1 : Int32 => md_bd ((if l2 = 0 then (if l3_1 = 0 then some false else some true) else (if l2 = (1 : Int32) then (if l3_1 = l1 then some true else some false) else md_bd (fX8_bits h l3_1) (fun r_4 => (if r_4 = (l2 - (2 : Int32)) then some true else some false))))) (fun (v_2 : Bool) => some v_2))
set_option maxRecDepth 100000 in
set_option maxHeartbeats 4000000 in
theorem ctX8_answers (K : Kx) (h : Mm) (l0 : Int32) (l1 : Int32) (l2 : Int32) {a : Bool} (hF : fX8_answers h l0 l1 l2 = some a) : Mt K yX8_answers cX8_answers 4 (some .boolean) 1 22 SHc [.int l0, .int l1, .int l2] h (some (.int (md_bi a))) h := by
  refine Mt.of hF [(0, .int l0), (1, .int l1), (2, .int l2)] (by decide) (Nat.le_of_ble_eq_true rfl) rfl (fun Y C N => ?_)
  have C : Cx K Y (0, 0) cX8_answers RX8 4 1 22 := C
  unfold fX8_answers
  refine mj_iload_n C 0 dX8_answers_0 (i := 0) rfl rfl ?_
  refine mj_iload_n C 1 dX8_answers_1 (i := 1) rfl rfl ?_
  refine mj_iand C dX8_answers_2 ?_
  refine mj_istore_nL C (fun l3_1 => [(3, .int l3_1), (0, .int l0), (1, .int l1), (2, .int l2)]) dX8_answers_3 (i := 3) rfl (by decide) rfl (fun l3_1 => ?_)
  refine mj_iload_n C 3 dX8_answers_4 (i := 2) rfl rfl ?_
  refine mj_phi1 53 (fun (v_2 : Bool) => []) (fun (v_2 : Bool) => [.int (md_bi v_2)]) (fun (v_2 : Bool) => h) (fun P' kj_3 => ?_) (fun v_2 => ?_)
  · refine mj_if_ne C 20 dX8_answers_5 (by decide) ?_ ?_
    · refine mj_iload_n C 3 dX8_answers_20 (i := 2) rfl rfl ?_
      refine mj_iconst C (v := 1) dX8_answers_21 rfl ?_
      refine mj_icmp_ne C 38 dX8_answers_22 (by decide) ?_ ?_
      · refine mj_iload_n C 0 dX8_answers_38 (i := 3) rfl rfl ?_
        refine mj_sI C my_X8_bits ms_X8_298 dX8_answers_39 (fun a hF => ctX8_bits K h l3_1  hF) (by decide) (by decide) rfl rfl (Nat.le_of_ble_eq_true rfl) (fun r_4 => ?_)
        refine mj_iload_n C 3 dX8_answers_42 (i := 2) rfl rfl ?_
        refine mj_iconst C (v := 2) dX8_answers_43 rfl ?_
        refine mj_isub C dX8_answers_44 ?_
        refine mj_icmp_ne C 52 dX8_answers_45 (by decide) ?_ ?_
        · refine mj_iconst C (v := 0) dX8_answers_52 rfl ?_
          exact mj_sub [] rfl (mj_some (kj_3 false))
        · refine mj_iconst C (v := 1) dX8_answers_48 rfl ?_
          refine mj_goto C 53 dX8_answers_49 (by decide) ?_
          exact mj_sub [] rfl (mj_some (kj_3 true))
      · refine mj_iload_n C 0 dX8_answers_25 (i := 3) rfl rfl ?_
        refine mj_iload_n C 2 dX8_answers_26 (i := 1) rfl rfl ?_
        refine mj_icmp_ne C 34 dX8_answers_27 (by decide) ?_ ?_
        · refine mj_iconst C (v := 0) dX8_answers_34 rfl ?_
          refine mj_goto C 53 dX8_answers_35 (by decide) ?_
          exact mj_sub [] rfl (mj_some (kj_3 false))
        · refine mj_iconst C (v := 1) dX8_answers_30 rfl ?_
          refine mj_goto C 53 dX8_answers_31 (by decide) ?_
          exact mj_sub [] rfl (mj_some (kj_3 true))
    · refine mj_iload_n C 0 dX8_answers_8 (i := 3) rfl rfl ?_
      refine mj_if_eq C 16 dX8_answers_9 (by decide) ?_ ?_
      · refine mj_iconst C (v := 0) dX8_answers_16 rfl ?_
        refine mj_goto C 53 dX8_answers_17 (by decide) ?_
        exact mj_sub [] rfl (mj_some (kj_3 false))
      · refine mj_iconst C (v := 1) dX8_answers_12 rfl ?_
        refine mj_goto C 53 dX8_answers_13 (by decide) ?_
        exact mj_sub [] rfl (mj_some (kj_3 true))
  · exact mj_rZ C N dX8_answers_53
noncomputable def fX8_couldBe_4 : Nat → Mm → Int32 → Bool → Int32 → Option (Bool)
  | 0, _, _, _, _ => none
  | n + 1, h, l1, l2, l3 => (if (h 84 38) ≤ l3 then some l2 else md_bd ((if l2 = true then md_ck (md_in l3 6) (md_ck (md_in l3 6) (md_bd (fX8_answers h l1 (h 105 (l3).toNatClampNeg) (h 106 (l3).toNatClampNeg)) (fun r_3 => md_ck (md_in l3 6) ((if (md_bi r_3) = (h 107 (l3).toNatClampNeg) then some true else some false))))) else some false)) (fun (v_1 : Bool) => fX8_couldBe_4 n h l1 v_1 (l3 + 1)))
set_option maxRecDepth 100000 in
set_option maxHeartbeats 4000000 in
theorem lX8_couldBe_4 {K : Kx} {Y : Yx} {cs : Nat × Nat} (C : Cx K Y cs cX8_couldBe RX8 4 2 45) {P : Bool → Prop} : ∀ (n : Nat) (h : Mm) (l1 : Int32) (l2 : Bool) (l3 : Int32), (∀ (w2 : Bool), J SHc K Y cs (P w2) 53 [(2, .int (md_bi w2))] [] h) → J SHc K Y cs (mj_O (fX8_couldBe_4 n h l1 l2 l3) P) 4 [(0, rf K 84), (1, .int l1), (2, .int (md_bi l2)), (3, .int l3)] [] h := by
  intro n
  induction n with
  | zero => intro h l1 l2 l3 kk0; exact mj_none
  | succ n ih =>
    intro h l1 l2 l3 kk0
    rw [fX8_couldBe_4]
    refine mj_iload_n C 3 dX8_couldBe_4 (i := 3) rfl rfl ?_
    refine mj_aload_n C 0 dX8_couldBe_5 (i := 0) rfl rfl ?_
    refine mj_getI C ff_X8_211 dX8_couldBe_6 sh_84 rfl ?_
    refine mj_icmp_ge C 53 dX8_couldBe_9 (by decide) ?_ ?_
    · exact mj_sub [2] rfl (mj_some (kk0 l2))
    · refine mj_iload_n C 2 dX8_couldBe_12 (i := 2) rfl rfl ?_
      refine mj_phi1 46 (fun (v_1 : Bool) => [(0, rf K 84), (1, .int l1), (3, .int l3)]) (fun (v_1 : Bool) => [.int (md_bi v_1)]) (fun (v_1 : Bool) => h) (fun P' kj_2 => ?_) (fun v_1 => ?_)
      · refine mj_b_eq C 45 dX8_couldBe_13 (by decide) ?_ ?_
        · refine mj_iconst C (v := 0) dX8_couldBe_45 rfl ?_
          exact mj_sub [0, 1, 3] rfl (mj_some (kj_2 false))
        · refine mj_iload_n C 1 dX8_couldBe_16 (i := 1) rfl rfl ?_
          refine mj_aload_n C 0 dX8_couldBe_17 (i := 0) rfl rfl ?_
          refine mj_getR C ff_X8_74 dX8_couldBe_18 sh_84 rfl ?_
          refine mj_iload_n C 3 dX8_couldBe_21 (i := 3) rfl rfl ?_
          refine mj_iald C dX8_couldBe_22 sh_105 ?_
          refine mj_aload_n C 0 dX8_couldBe_23 (i := 0) rfl rfl ?_
          refine mj_getR C ff_X8_77 dX8_couldBe_24 sh_84 rfl ?_
          refine mj_iload_n C 3 dX8_couldBe_27 (i := 3) rfl rfl ?_
          refine mj_iald C dX8_couldBe_28 sh_106 ?_
          refine mj_sB C my_X8_answers ms_X8_315 dX8_couldBe_29 (fun a hF => ctX8_answers K h l1 (h 105 (l3).toNatClampNeg) (h 106 (l3).toNatClampNeg)  hF) (by decide) (by decide) rfl rfl (Nat.le_of_ble_eq_true rfl) (fun r_3 => ?_)
          refine mj_aload_n C 0 dX8_couldBe_32 (i := 0) rfl rfl ?_
          refine mj_getR C ff_X8_80 dX8_couldBe_33 sh_84 rfl ?_
          refine mj_iload_n C 3 dX8_couldBe_36 (i := 3) rfl rfl ?_
          refine mj_zald C dX8_couldBe_37 sh_107 ?_
          refine mj_icmp_ne C 45 dX8_couldBe_38 (by decide) ?_ ?_
          · refine mj_iconst C (v := 0) dX8_couldBe_45 rfl ?_
            exact mj_sub [0, 1, 3] rfl (mj_some (kj_2 false))
          · refine mj_iconst C (v := 1) dX8_couldBe_41 rfl ?_
            refine mj_goto C 46 dX8_couldBe_42 (by decide) ?_
            exact mj_sub [0, 1, 3] rfl (mj_some (kj_2 true))
      · refine mj_istore_n C [(2, .int (md_bi v_1)), (0, rf K 84), (1, .int l1), (3, .int l3)] dX8_couldBe_46 (i := 2) rfl (by decide) rfl ?_
        refine mj_iinc C (l3 + 1) 3 [(3, .int (l3 + 1)), (2, .int (md_bi v_1)), (0, rf K 84), (1, .int l1)] dX8_couldBe_47 rfl rfl (by decide) rfl ?_
        refine mj_goto C 4 dX8_couldBe_50 (by decide) ?_
        exact mj_sub [2, 3, 1, 0] rfl (ih h l1 v_1 (l3 + 1) kk0)
noncomputable def fX8_couldBe (h : Mm) (l1 : Int32) : Option (Bool) := md_bd (fX8_couldBe_4 md_N h l1 true (0 : Int32)) (fun (v_4 : Bool) => some v_4)
set_option maxRecDepth 100000 in
set_option maxHeartbeats 4000000 in
theorem ctX8_couldBe (K : Kx) (h : Mm) (l1 : Int32) {a : Bool} (hF : fX8_couldBe h l1 = some a) : Mt K yX8_couldBe cX8_couldBe 4 (some .boolean) 2 45 SHc [rf K 84, .int l1] h (some (.int (md_bi a))) h := by
  refine Mt.of hF [(0, rf K 84), (1, .int l1)] (by decide) (Nat.le_of_ble_eq_true rfl) rfl (fun Y C N => ?_)
  have C : Cx K Y (0, 0) cX8_couldBe RX8 4 2 45 := C
  unfold fX8_couldBe
  refine mj_iconst C (v := 1) dX8_couldBe_0 rfl ?_
  refine mj_istore_n C [(2, .int (1 : Int32)), (0, rf K 84), (1, .int l1)] dX8_couldBe_1 (i := 2) rfl (by decide) rfl ?_
  refine mj_iconst C (v := 0) dX8_couldBe_2 rfl ?_
  refine mj_istore_n C [(3, .int (0 : Int32)), (2, .int (1 : Int32)), (0, rf K 84), (1, .int l1)] dX8_couldBe_3 (i := 3) rfl (by decide) rfl ?_
  refine mj_phi1 53 (fun (v_4 : Bool) => [(2, .int (md_bi v_4))]) (fun (v_4 : Bool) => []) (fun (v_4 : Bool) => h) (fun P' kj_5 => mj_sub [2, 3, 1, 0] rfl (lX8_couldBe_4 C md_N h l1 true (0 : Int32) kj_5)) (fun v_4 => ?_)
  refine mj_iload_n C 0 dX8_couldBe_53 (i := 2) rfl rfl ?_
  exact mj_rZ C N dX8_couldBe_54
noncomputable def fX8_minds_32 : Nat → Mm → Int32 → Int32 → Int32 → Int32 → Int32 → Option (Int32 × Int32 × Int32)
  | 0, _, _, _, _, _, _ => none
  | n + 1, h, l1, l2, l3, l4, l5 => (if ((1 : Int32) <<< ((h 84 2) &&& 31)) ≤ l5 then some (l2, l3, l4) else md_bd (fX8_couldBe h l5) (fun r_3 => md_b3 ((if r_3 = true then md_bd ((if l2 = 0 then some l5 else some l3)) (fun (v_8 : Int32) => md_lt (l4 &&& l5) (fun l4_10 : Int32 => some ((l2 + 1), v_8, l4_10))) else some (l2, l3, l4))) (fun (v_4 : Int32) (v_5 : Int32) (v_6 : Int32) => fX8_minds_32 n h l1 v_4 v_5 v_6 (l5 + 1))))
set_option maxRecDepth 100000 in
set_option maxHeartbeats 4000000 in
theorem lX8_minds_32 {K : Kx} {Y : Yx} {cs : Nat × Nat} (C : Cx K Y cs cX8_minds RX8 6 3 68) {P : Int32 × Int32 × Int32 → Prop} : ∀ (n : Nat) (h : Mm) (l1 : Int32) (l2 : Int32) (l3 : Int32) (l4 : Int32) (l5 : Int32), (∀ (w2 : Int32) (w3 : Int32) (w4 : Int32), J SHc K Y cs (P (w2, w3, w4)) 79 [(1, .int l1), (2, .int w2), (3, .int w3), (4, .int w4)] [] h) → J SHc K Y cs (mj_O (fX8_minds_32 n h l1 l2 l3 l4 l5) P) 32 [(0, rf K 84), (1, .int l1), (2, .int l2), (3, .int l3), (4, .int l4), (5, .int l5)] [] h := by
  intro n
  induction n with
  | zero => intro h l1 l2 l3 l4 l5 kk0; exact mj_none
  | succ n ih =>
    intro h l1 l2 l3 l4 l5 kk0
    rw [fX8_minds_32]
    refine mj_iload C 5 dX8_minds_32 rfl ?_
    refine mj_iconst C (v := 1) dX8_minds_34 rfl ?_
    refine mj_aload_n C 0 dX8_minds_35 (i := 0) rfl rfl ?_
    refine mj_getI C ff_X8_103 dX8_minds_36 sh_84 rfl ?_
    refine mj_ishl C dX8_minds_39 ?_
    refine mj_icmp_ge C 79 dX8_minds_40 (by decide) ?_ ?_
    · exact mj_sub [1, 2, 3, 4] rfl (mj_some (kk0 l2 l3 l4))
    · refine mj_aload_n C 0 dX8_minds_43 (i := 0) rfl rfl ?_
      refine mj_iload C 5 dX8_minds_44 rfl ?_
      refine mj_vB C my_X8_couldBe mv_X8_321 dX8_minds_46 sh_84 rfl (fun a hF => ctX8_couldBe K h l5  hF) (by decide) (by decide) rfl rfl (Nat.le_of_ble_eq_true rfl) (fun r_3 => ?_)
      refine mj_phi3 73 (fun (v_4 : Int32) (v_5 : Int32) (v_6 : Int32) => [(0, rf K 84), (1, .int l1), (2, .int v_4), (3, .int v_5), (4, .int v_6), (5, .int l5)]) (fun (v_4 : Int32) (v_5 : Int32) (v_6 : Int32) => []) (fun (v_4 : Int32) (v_5 : Int32) (v_6 : Int32) => h) (fun P' kj_7 => ?_) (fun v_4 v_5 v_6 => ?_)
      · refine mj_b_eq C 73 dX8_minds_49 (by decide) ?_ ?_
        · exact mj_sub [0, 1, 2, 3, 4, 5] rfl (mj_some (kj_7 l2 l3 l4))
        · refine mj_iload_n C 2 dX8_minds_52 (i := 2) rfl rfl ?_
          refine mj_phi1 62 (fun (v_8 : Int32) => [(0, rf K 84), (1, .int l1), (2, .int l2), (4, .int l4), (5, .int l5)]) (fun (v_8 : Int32) => [.int v_8]) (fun (v_8 : Int32) => h) (fun P' kj_9 => ?_) (fun v_8 => ?_)
          · refine mj_if_ne C 61 dX8_minds_53 (by decide) ?_ ?_
            · refine mj_iload_n C 3 dX8_minds_61 (i := 3) rfl rfl ?_
              exact mj_sub [0, 1, 2, 4, 5] rfl (mj_some (kj_9 l3))
            · refine mj_iload C 5 dX8_minds_56 rfl ?_
              refine mj_goto C 62 dX8_minds_58 (by decide) ?_
              exact mj_sub [0, 1, 2, 4, 5] rfl (mj_some (kj_9 l5))
          · refine mj_istore_n C [(3, .int v_8), (0, rf K 84), (1, .int l1), (2, .int l2), (4, .int l4), (5, .int l5)] dX8_minds_62 (i := 3) rfl (by decide) rfl ?_
            refine mj_iload C 4 dX8_minds_63 rfl ?_
            refine mj_iload C 5 dX8_minds_65 rfl ?_
            refine mj_iand C dX8_minds_67 ?_
            refine mj_istoreL C (fun l4_10 => [(4, .int l4_10), (3, .int v_8), (0, rf K 84), (1, .int l1), (2, .int l2), (5, .int l5)]) dX8_minds_68 (by decide) rfl (fun l4_10 => ?_)
            refine mj_iinc C (l2 + 1) 4 [(2, .int (l2 + 1)), (4, .int l4_10), (3, .int v_8), (0, rf K 84), (1, .int l1), (5, .int l5)] dX8_minds_70 rfl rfl (by decide) rfl ?_
            exact mj_sub [3, 4, 0, 2, 1, 5] rfl (mj_some (kj_7 (l2 + 1) v_8 l4_10))
      · refine mj_iinc C (l5 + 1) 5 [(5, .int (l5 + 1)), (0, rf K 84), (1, .int l1), (2, .int v_4), (3, .int v_5), (4, .int v_6)] dX8_minds_73 rfl rfl (by decide) rfl ?_
        refine mj_goto C 32 dX8_minds_76 (by decide) ?_
        exact mj_sub [1, 2, 3, 4, 5, 0] rfl (ih h l1 v_4 v_5 v_6 (l5 + 1) kk0)
noncomputable def fX8_minds (h : Mm) (l1 : Int32) : Option (Int32) := md_bd (fX8_in h ((l1).toInt64) (0 : Int64) (2 : Int64)) (fun r_1 => (if r_1 = true then md_lt (((1 : Int32) <<< ((h 84 2) &&& 31)) - (1 : Int32)) (fun l4_2 : Int32 => md_b3 (fX8_minds_32 md_N h l1 (0 : Int32) (-1 : Int32) l4_2 (0 : Int32)) (fun (v_11 : Int32) (v_12 : Int32) (v_13 : Int32) => md_bd ((if l1 = 0 then some v_11 else (if l1 = (1 : Int32) then some v_12 else (if v_11 = 0 then some (0 : Int32) else some v_13)))) (fun (v_14 : Int32) => some v_14))) else some (-1000000002 : Int32)))
set_option maxRecDepth 100000 in
set_option maxHeartbeats 4000000 in
theorem ctX8_minds (K : Kx) (h : Mm) (l1 : Int32) {a : Int32} (hF : fX8_minds h l1 = some a) : Mt K yX8_minds cX8_minds 6 (some .int) 3 68 SHc [rf K 84, .int l1] h (some (.int a)) h := by
  refine Mt.of hF [(0, rf K 84), (1, .int l1)] (by decide) (Nat.le_of_ble_eq_true rfl) rfl (fun Y C N => ?_)
  have C : Cx K Y (0, 0) cX8_minds RX8 6 3 68 := C
  unfold fX8_minds
  refine mj_iload_n C 1 dX8_minds_0 (i := 1) rfl rfl ?_
  refine mj_i2l C dX8_minds_1 ?_
  refine mj_lconst C (v := 0) dX8_minds_2 rfl ?_
  refine mj_ldc2 C kc_X8_319 dX8_minds_3 ?_
  refine mj_sB C my_X8_in ms_X8_106 dX8_minds_6 (fun a hF => ctX8_in K h ((l1).toInt64) (0 : Int64) (2 : Int64)  hF) (by decide) (by decide) rfl rfl (Nat.le_of_ble_eq_true rfl) (fun r_1 => ?_)
  refine mj_b_ne C 15 dX8_minds_9 (by decide) ?_ ?_
  · refine mj_iconst C (v := 0) dX8_minds_15 rfl ?_
    refine mj_istore_n C [(2, .int (0 : Int32)), (0, rf K 84), (1, .int l1)] dX8_minds_16 (i := 2) rfl (by decide) rfl ?_
    refine mj_iconst C (v := -1) dX8_minds_17 rfl ?_
    refine mj_istore_n C [(3, .int (-1 : Int32)), (2, .int (0 : Int32)), (0, rf K 84), (1, .int l1)] dX8_minds_18 (i := 3) rfl (by decide) rfl ?_
    refine mj_iconst C (v := 1) dX8_minds_19 rfl ?_
    refine mj_aload_n C 2 dX8_minds_20 (i := 0) rfl rfl ?_
    refine mj_getI C ff_X8_103 dX8_minds_21 sh_84 rfl ?_
    refine mj_ishl C dX8_minds_24 ?_
    refine mj_iconst C (v := 1) dX8_minds_25 rfl ?_
    refine mj_isub C dX8_minds_26 ?_
    refine mj_istoreL C (fun l4_2 => [(4, .int l4_2), (3, .int (-1 : Int32)), (2, .int (0 : Int32)), (0, rf K 84), (1, .int l1)]) dX8_minds_27 (by decide) rfl (fun l4_2 => ?_)
    refine mj_iconst C (v := 0) dX8_minds_29 rfl ?_
    refine mj_istore C [(5, .int (0 : Int32)), (4, .int l4_2), (3, .int (-1 : Int32)), (2, .int (0 : Int32)), (0, rf K 84), (1, .int l1)] dX8_minds_30 (by decide) rfl ?_
    refine mj_phi3 79 (fun (v_11 : Int32) (v_12 : Int32) (v_13 : Int32) => [(1, .int l1), (2, .int v_11), (3, .int v_12), (4, .int v_13)]) (fun (v_11 : Int32) (v_12 : Int32) (v_13 : Int32) => []) (fun (v_11 : Int32) (v_12 : Int32) (v_13 : Int32) => h) (fun P' kj_16 => mj_sub [4, 5, 3, 2, 1, 0] rfl (lX8_minds_32 C md_N h l1 (0 : Int32) (-1 : Int32) l4_2 (0 : Int32) kj_16)) (fun v_11 v_12 v_13 => ?_)
    refine mj_iload_n C 0 dX8_minds_79 (i := 1) rfl rfl ?_
    refine mj_phi1 106 (fun (v_14 : Int32) => []) (fun (v_14 : Int32) => [.int v_14]) (fun (v_14 : Int32) => h) (fun P' kj_15 => ?_) (fun v_14 => ?_)
    · refine mj_if_ne C 87 dX8_minds_80 (by decide) ?_ ?_
      · refine mj_iload_n C 0 dX8_minds_87 (i := 1) rfl rfl ?_
        refine mj_iconst C (v := 1) dX8_minds_88 rfl ?_
        refine mj_icmp_ne C 96 dX8_minds_89 (by decide) ?_ ?_
        · refine mj_iload_n C 1 dX8_minds_96 (i := 2) rfl rfl ?_
          refine mj_if_ne C 104 dX8_minds_97 (by decide) ?_ ?_
          · refine mj_iload C 3 dX8_minds_104 rfl ?_
            exact mj_sub [] rfl (mj_some (kj_15 v_13))
          · refine mj_iconst C (v := 0) dX8_minds_100 rfl ?_
            refine mj_goto C 106 dX8_minds_101 (by decide) ?_
            exact mj_sub [] rfl (mj_some (kj_15 (0 : Int32)))
        · refine mj_iload_n C 2 dX8_minds_92 (i := 3) rfl rfl ?_
          refine mj_goto C 106 dX8_minds_93 (by decide) ?_
          exact mj_sub [] rfl (mj_some (kj_15 v_12))
      · refine mj_iload_n C 1 dX8_minds_83 (i := 2) rfl rfl ?_
        refine mj_goto C 106 dX8_minds_84 (by decide) ?_
        exact mj_sub [] rfl (mj_some (kj_15 v_11))
    · exact mj_rI C N dX8_minds_106
  · refine mj_ldc C kc_X8_115 dX8_minds_12 ?_
    exact mj_rI C N dX8_minds_14
noncomputable def fX8_askNext_4 : Nat → Mm → Bool → Int32 → Option (Mm)
  | 0, _, _, _ => none
  | n + 1, h, l1, l2 => (if (8 : Int32) ≤ l2 then some h else md_ck (md_in l2 8) (md_lt (md_up h 108 (l2).toNatClampNeg (0 : Int32)) (fun h_1 : Mm => fX8_askNext_4 n h_1 l1 (l2 + 1))))
set_option maxRecDepth 100000 in
set_option maxHeartbeats 4000000 in
theorem lX8_askNext_4 {K : Kx} {Y : Yx} {cs : Nat × Nat} (C : Cx K Y cs cX8_askNext RX8 6 3 68) {P : Mm → Prop} : ∀ (n : Nat) (h : Mm) (l1 : Bool) (l2 : Int32), (∀ (hw : Mm), J SHc K Y cs (P hw) 23 [(0, rf K 84), (1, .int (md_bi l1))] [] hw) → J SHc K Y cs (mj_O (fX8_askNext_4 n h l1 l2) P) 4 [(0, rf K 84), (1, .int (md_bi l1)), (2, .int l2)] [] h := by
  intro n
  induction n with
  | zero => intro h l1 l2 kk0; exact mj_none
  | succ n ih =>
    intro h l1 l2 kk0
    rw [fX8_askNext_4]
    refine mj_iload_n C 2 dX8_askNext_4 (i := 2) rfl rfl ?_
    refine mj_bipush C (v := 8) dX8_askNext_5 rfl ?_
    refine mj_icmp_ge C 23 dX8_askNext_7 (by decide) ?_ ?_
    · exact mj_sub [0, 1] rfl (mj_some (kk0 h))
    · refine mj_aload_n C 0 dX8_askNext_10 (i := 0) rfl rfl ?_
      refine mj_getR C ff_X8_84 dX8_askNext_11 sh_84 rfl ?_
      refine mj_iload_n C 2 dX8_askNext_14 (i := 2) rfl rfl ?_
      refine mj_iconst C (v := 0) dX8_askNext_15 rfl ?_
      refine mj_iast C dX8_askNext_16 sh_108 (fun h_1 => ?_)
      refine mj_iinc C (l2 + 1) 2 [(2, .int (l2 + 1)), (0, rf K 84), (1, .int (md_bi l1))] dX8_askNext_17 rfl rfl (by decide) rfl ?_
      refine mj_goto C 4 dX8_askNext_20 (by decide) ?_
      exact mj_sub [1, 2, 0] rfl (ih h_1 l1 (l2 + 1) kk0)
noncomputable def fX8_askNext_48 : Nat → Mm → Int32 → Int32 → Int32 → Option (Mm)
  | 0, _, _, _, _ => none
  | n + 1, h, l1, l2, l3 => (if (8 : Int32) ≤ l3 then some h else md_ck (md_in l3 8) (md_ck (md_in l3 8) (md_lt (md_up h 108 (l3).toNatClampNeg ((h 108 (l3).toNatClampNeg) + ((l2 >>> (l3 &&& 31)) &&& (1 : Int32)))) (fun h_4 : Mm => fX8_askNext_48 n h_4 l1 l2 (l3 + 1)))))
set_option maxRecDepth 100000 in
set_option maxHeartbeats 4000000 in
theorem lX8_askNext_48 {K : Kx} {Y : Yx} {cs : Nat × Nat} (C : Cx K Y cs cX8_askNext RX8 6 3 68) {P : Mm → Prop} : ∀ (n : Nat) (h : Mm) (l1 : Int32) (l2 : Int32) (l3 : Int32), (∀ (hw : Mm), J SHc K Y cs (P hw) 74 [(0, rf K 84), (1, .int l1), (2, .int l2)] [] hw) → J SHc K Y cs (mj_O (fX8_askNext_48 n h l1 l2 l3) P) 48 [(0, rf K 84), (1, .int l1), (2, .int l2), (3, .int l3)] [] h := by
  intro n
  induction n with
  | zero => intro h l1 l2 l3 kk0; exact mj_none
  | succ n ih =>
    intro h l1 l2 l3 kk0
    rw [fX8_askNext_48]
    refine mj_iload_n C 3 dX8_askNext_48 (i := 3) rfl rfl ?_
    refine mj_bipush C (v := 8) dX8_askNext_49 rfl ?_
    refine mj_icmp_ge C 74 dX8_askNext_51 (by decide) ?_ ?_
    · exact mj_sub [0, 1, 2] rfl (mj_some (kk0 h))
    · refine mj_aload_n C 0 dX8_askNext_54 (i := 0) rfl rfl ?_
      refine mj_getR C ff_X8_84 dX8_askNext_55 sh_84 rfl ?_
      refine mj_iload_n C 3 dX8_askNext_58 (i := 3) rfl rfl ?_
      refine mj_dup2 C dX8_askNext_59 rfl rfl ?_
      refine mj_iald C dX8_askNext_60 sh_108 ?_
      refine mj_iload_n C 2 dX8_askNext_61 (i := 2) rfl rfl ?_
      refine mj_iload_n C 3 dX8_askNext_62 (i := 3) rfl rfl ?_
      refine mj_ishr C dX8_askNext_63 ?_
      refine mj_iconst C (v := 1) dX8_askNext_64 rfl ?_
      refine mj_iand C dX8_askNext_65 ?_
      refine mj_iadd C dX8_askNext_66 ?_
      refine mj_iast C dX8_askNext_67 sh_108 (fun h_4 => ?_)
      refine mj_iinc C (l3 + 1) 3 [(3, .int (l3 + 1)), (0, rf K 84), (1, .int l1), (2, .int l2)] dX8_askNext_68 rfl rfl (by decide) rfl ?_
      refine mj_goto C 48 dX8_askNext_71 (by decide) ?_
      exact mj_sub [1, 2, 3, 0] rfl (ih h_4 l1 l2 (l3 + 1) kk0)
noncomputable def fX8_askNext_25 : Nat → Mm → Int32 → Int32 → Option (Int32 × Mm)
  | 0, _, _, _ => none
  | n + 1, h, l1, l2 => (if ((1 : Int32) <<< ((h 84 2) &&& 31)) ≤ l2 then some (l1, h) else md_bd (fX8_couldBe h l2) (fun r_3 => md_b2 ((if r_3 = true then md_bd (fX8_askNext_48 md_N h (l1 + 1) l2 (0 : Int32)) (fun (h_7 : Mm) => some ((l1 + 1), h_7)) else some (l1, h))) (fun (v_4 : Int32) (h_5 : Mm) => fX8_askNext_25 n h_5 v_4 (l2 + 1))))
set_option maxRecDepth 100000 in
set_option maxHeartbeats 4000000 in
theorem lX8_askNext_25 {K : Kx} {Y : Yx} {cs : Nat × Nat} (C : Cx K Y cs cX8_askNext RX8 6 3 68) {P : Int32 × Mm → Prop} : ∀ (n : Nat) (h : Mm) (l1 : Int32) (l2 : Int32), (∀ (w1 : Int32) (hw : Mm), J SHc K Y cs (P (w1, hw)) 80 [(0, rf K 84), (1, .int w1)] [] hw) → J SHc K Y cs (mj_O (fX8_askNext_25 n h l1 l2) P) 25 [(0, rf K 84), (1, .int l1), (2, .int l2)] [] h := by
  intro n
  induction n with
  | zero => intro h l1 l2 kk0; exact mj_none
  | succ n ih =>
    intro h l1 l2 kk0
    rw [fX8_askNext_25]
    refine mj_iload_n C 2 dX8_askNext_25 (i := 2) rfl rfl ?_
    refine mj_iconst C (v := 1) dX8_askNext_26 rfl ?_
    refine mj_aload_n C 0 dX8_askNext_27 (i := 0) rfl rfl ?_
    refine mj_getI C ff_X8_103 dX8_askNext_28 sh_84 rfl ?_
    refine mj_ishl C dX8_askNext_31 ?_
    refine mj_icmp_ge C 80 dX8_askNext_32 (by decide) ?_ ?_
    · exact mj_sub [0, 1] rfl (mj_some (kk0 l1 h))
    · refine mj_aload_n C 0 dX8_askNext_35 (i := 0) rfl rfl ?_
      refine mj_iload_n C 2 dX8_askNext_36 (i := 2) rfl rfl ?_
      refine mj_vB C my_X8_couldBe mv_X8_321 dX8_askNext_37 sh_84 rfl (fun a hF => ctX8_couldBe K h l2  hF) (by decide) (by decide) rfl rfl (Nat.le_of_ble_eq_true rfl) (fun r_3 => ?_)
      refine mj_phi2 74 (fun (v_4 : Int32) (h_5 : Mm) => [(0, rf K 84), (1, .int v_4), (2, .int l2)]) (fun (v_4 : Int32) (h_5 : Mm) => []) (fun (v_4 : Int32) (h_5 : Mm) => h_5) (fun P' kj_6 => ?_) (fun v_4 h_5 => ?_)
      · refine mj_b_eq C 74 dX8_askNext_40 (by decide) ?_ ?_
        · exact mj_sub [0, 1, 2] rfl (mj_some (kj_6 l1 h))
        · refine mj_iinc C (l1 + 1) 1 [(1, .int (l1 + 1)), (0, rf K 84), (2, .int l2)] dX8_askNext_43 rfl rfl (by decide) rfl ?_
          refine mj_iconst C (v := 0) dX8_askNext_46 rfl ?_
          refine mj_istore_n C [(3, .int (0 : Int32)), (1, .int (l1 + 1)), (0, rf K 84), (2, .int l2)] dX8_askNext_47 (i := 3) rfl (by decide) rfl ?_
          refine mj_phi1 74 (fun (h_7 : Mm) => [(0, rf K 84), (1, .int (l1 + 1)), (2, .int l2)]) (fun (h_7 : Mm) => []) (fun (h_7 : Mm) => h_7) (fun P' kj_8 => mj_sub [2, 1, 3, 0] rfl (lX8_askNext_48 C md_N h (l1 + 1) l2 (0 : Int32) kj_8)) (fun h_7 => ?_)
          exact mj_sub [0, 1, 2] rfl (mj_some (kj_6 (l1 + 1) h_7))
      · refine mj_iinc C (l2 + 1) 2 [(2, .int (l2 + 1)), (0, rf K 84), (1, .int v_4)] dX8_askNext_74 rfl rfl (by decide) rfl ?_
        refine mj_goto C 25 dX8_askNext_77 (by decide) ?_
        exact mj_sub [1, 2, 0] rfl (ih h_5 v_4 (l2 + 1) kk0)
noncomputable def fX8_askNext_87 : Nat → Mm → Int32 → Int32 → Int32 → Int32 → Option (Int32)
  | 0, _, _, _, _, _ => none
  | n + 1, h, l1, l2, l3, l4 => (if (h 84 2) ≤ l4 then some l2 else md_ck (md_in l4 8) (md_ck (md_in l4 8) (md_bd ((if (h 108 (l4).toNatClampNeg) ≤ (l1 - (h 108 (l4).toNatClampNeg)) then md_ck (md_in l4 8) (some (l1 - (h 108 (l4).toNatClampNeg))) else md_ck (md_in l4 8) (some (h 108 (l4).toNatClampNeg)))) (fun (v_11 : Int32) => md_bd ((if l3 ≤ v_11 then some l2 else some l4)) (fun (v_13 : Int32) => md_bd ((if l3 ≤ v_11 then some l3 else some v_11)) (fun (v_15 : Int32) => fX8_askNext_87 n h l1 v_13 v_15 (l4 + 1)))))))
set_option maxRecDepth 100000 in
set_option maxHeartbeats 4000000 in
theorem lX8_askNext_87 {K : Kx} {Y : Yx} {cs : Nat × Nat} (C : Cx K Y cs cX8_askNext RX8 6 3 68) {P : Int32 → Prop} : ∀ (n : Nat) (h : Mm) (l1 : Int32) (l2 : Int32) (l3 : Int32) (l4 : Int32), (∀ (w2 : Int32), J SHc K Y cs (P w2) 168 [(2, .int w2)] [] h) → J SHc K Y cs (mj_O (fX8_askNext_87 n h l1 l2 l3 l4) P) 87 [(0, rf K 84), (1, .int l1), (2, .int l2), (3, .int l3), (4, .int l4)] [] h := by
  intro n
  induction n with
  | zero => intro h l1 l2 l3 l4 kk0; exact mj_none
  | succ n ih =>
    intro h l1 l2 l3 l4 kk0
    rw [fX8_askNext_87]
    refine mj_iload C 4 dX8_askNext_87 rfl ?_
    refine mj_aload_n C 0 dX8_askNext_89 (i := 0) rfl rfl ?_
    refine mj_getI C ff_X8_103 dX8_askNext_90 sh_84 rfl ?_
    refine mj_icmp_ge C 168 dX8_askNext_93 (by decide) ?_ ?_
    · exact mj_sub [2] rfl (mj_some (kk0 l2))
    · refine mj_aload_n C 0 dX8_askNext_96 (i := 0) rfl rfl ?_
      refine mj_getR C ff_X8_84 dX8_askNext_97 sh_84 rfl ?_
      refine mj_iload C 4 dX8_askNext_100 rfl ?_
      refine mj_iald C dX8_askNext_102 sh_108 ?_
      refine mj_iload_n C 1 dX8_askNext_103 (i := 1) rfl rfl ?_
      refine mj_aload_n C 0 dX8_askNext_104 (i := 0) rfl rfl ?_
      refine mj_getR C ff_X8_84 dX8_askNext_105 sh_84 rfl ?_
      refine mj_iload C 4 dX8_askNext_108 rfl ?_
      refine mj_iald C dX8_askNext_110 sh_108 ?_
      refine mj_isub C dX8_askNext_111 ?_
      refine mj_phi1 134 (fun (v_11 : Int32) => [(0, rf K 84), (1, .int l1), (2, .int l2), (3, .int l3), (4, .int l4)]) (fun (v_11 : Int32) => [.int v_11]) (fun (v_11 : Int32) => h) (fun P' kj_12 => ?_) (fun v_11 => ?_)
      · refine mj_icmp_le C 125 dX8_askNext_112 (by decide) ?_ ?_
        · refine mj_iload_n C 1 dX8_askNext_125 (i := 1) rfl rfl ?_
          refine mj_aload_n C 0 dX8_askNext_126 (i := 0) rfl rfl ?_
          refine mj_getR C ff_X8_84 dX8_askNext_127 sh_84 rfl ?_
          refine mj_iload C 4 dX8_askNext_130 rfl ?_
          refine mj_iald C dX8_askNext_132 sh_108 ?_
          refine mj_isub C dX8_askNext_133 ?_
          exact mj_sub [0, 1, 2, 3, 4] rfl (mj_some (kj_12 (l1 - (h 108 (l4).toNatClampNeg))))
        · refine mj_aload_n C 0 dX8_askNext_115 (i := 0) rfl rfl ?_
          refine mj_getR C ff_X8_84 dX8_askNext_116 sh_84 rfl ?_
          refine mj_iload C 4 dX8_askNext_119 rfl ?_
          refine mj_iald C dX8_askNext_121 sh_108 ?_
          refine mj_goto C 134 dX8_askNext_122 (by decide) ?_
          exact mj_sub [0, 1, 2, 3, 4] rfl (mj_some (kj_12 (h 108 (l4).toNatClampNeg)))
      · refine mj_istore C [(5, .int v_11), (0, rf K 84), (1, .int l1), (2, .int l2), (3, .int l3), (4, .int l4)] dX8_askNext_134 (by decide) rfl ?_
        refine mj_iload C 0 dX8_askNext_136 rfl ?_
        refine mj_iload_n C 4 dX8_askNext_138 (i := 3) rfl rfl ?_
        refine mj_phi1 148 (fun (v_13 : Int32) => [(0, rf K 84), (1, .int l1), (3, .int l3), (4, .int l4), (5, .int v_11)]) (fun (v_13 : Int32) => [.int v_13]) (fun (v_13 : Int32) => h) (fun P' kj_14 => ?_) (fun v_13 => ?_)
        · refine mj_icmp_ge C 147 dX8_askNext_139 (by decide) ?_ ?_
          · refine mj_iload_n C 3 dX8_askNext_147 (i := 2) rfl rfl ?_
            exact mj_sub [1, 2, 4, 5, 0] rfl (mj_some (kj_14 l2))
          · refine mj_iload C 5 dX8_askNext_142 rfl ?_
            refine mj_goto C 148 dX8_askNext_144 (by decide) ?_
            exact mj_sub [1, 2, 4, 5, 0] rfl (mj_some (kj_14 l4))
        · refine mj_istore_n C [(2, .int v_13), (0, rf K 84), (1, .int l1), (3, .int l3), (4, .int l4), (5, .int v_11)] dX8_askNext_148 (i := 2) rfl (by decide) rfl ?_
          refine mj_iload C 5 dX8_askNext_149 rfl ?_
          refine mj_iload_n C 3 dX8_askNext_151 (i := 3) rfl rfl ?_
          refine mj_phi1 161 (fun (v_15 : Int32) => [(0, rf K 84), (1, .int l1), (2, .int v_13), (4, .int l4)]) (fun (v_15 : Int32) => [.int v_15]) (fun (v_15 : Int32) => h) (fun P' kj_16 => ?_) (fun v_15 => ?_)
          · refine mj_icmp_ge C 160 dX8_askNext_152 (by decide) ?_ ?_
            · refine mj_iload_n C 3 dX8_askNext_160 (i := 3) rfl rfl ?_
              exact mj_sub [1, 2, 0, 4] rfl (mj_some (kj_16 l3))
            · refine mj_iload C 5 dX8_askNext_155 rfl ?_
              refine mj_goto C 161 dX8_askNext_157 (by decide) ?_
              exact mj_sub [1, 2, 0, 4] rfl (mj_some (kj_16 v_11))
          · refine mj_istore_n C [(3, .int v_15), (0, rf K 84), (1, .int l1), (2, .int v_13), (4, .int l4)] dX8_askNext_161 (i := 3) rfl (by decide) rfl ?_
            refine mj_iinc C (l4 + 1) 4 [(4, .int (l4 + 1)), (3, .int v_15), (0, rf K 84), (1, .int l1), (2, .int v_13)] dX8_askNext_162 rfl rfl (by decide) rfl ?_
            refine mj_goto C 87 dX8_askNext_165 (by decide) ?_
            exact mj_sub [2, 3, 4, 1, 0] rfl (ih h l1 v_13 v_15 (l4 + 1) kk0)
noncomputable def fX8_askNext (h : Mm) : Option (Int32 × Mm) := md_bd (fX8_askNext_4 md_N h false (0 : Int32)) (fun (h_2 : Mm) => md_b2 (fX8_askNext_25 md_N h_2 (0 : Int32) (0 : Int32)) (fun (v_9 : Int32) (h_10 : Mm) => md_bd (fX8_askNext_87 md_N h_10 v_9 (-1 : Int32) v_9 (0 : Int32)) (fun (v_17 : Int32) => some (v_17, h_10))))
set_option maxRecDepth 100000 in
set_option maxHeartbeats 4000000 in
theorem ctX8_askNext (K : Kx) (h : Mm) {a : Int32 × Mm} (hF : fX8_askNext h = some a) : Mt K yX8_askNext cX8_askNext 6 (some .int) 3 68 SHc [rf K 84] h (some (.int a.1)) a.2 := by
  refine Mt.of hF [(0, rf K 84)] (by decide) (Nat.le_of_ble_eq_true rfl) rfl (fun Y C N => ?_)
  have C : Cx K Y (0, 0) cX8_askNext RX8 6 3 68 := C
  unfold fX8_askNext
  refine mj_iconst C (v := 0) dX8_askNext_0 rfl ?_
  refine mj_istore_n C [(1, .int (0 : Int32)), (0, rf K 84)] dX8_askNext_1 (i := 1) rfl (by decide) rfl ?_
  refine mj_iconst C (v := 0) dX8_askNext_2 rfl ?_
  refine mj_istore_n C [(2, .int (0 : Int32)), (1, .int (0 : Int32)), (0, rf K 84)] dX8_askNext_3 (i := 2) rfl (by decide) rfl ?_
  refine mj_phi1 23 (fun (h_2 : Mm) => [(0, rf K 84), (1, .int (0 : Int32))]) (fun (h_2 : Mm) => []) (fun (h_2 : Mm) => h_2) (fun P' kj_20 => mj_sub [2, 1, 0] rfl (lX8_askNext_4 C md_N h false (0 : Int32) kj_20)) (fun h_2 => ?_)
  refine mj_iconst C (v := 0) dX8_askNext_23 rfl ?_
  refine mj_istore_n C [(2, .int (0 : Int32)), (0, rf K 84), (1, .int (0 : Int32))] dX8_askNext_24 (i := 2) rfl (by decide) rfl ?_
  refine mj_phi2 80 (fun (v_9 : Int32) (h_10 : Mm) => [(0, rf K 84), (1, .int v_9)]) (fun (v_9 : Int32) (h_10 : Mm) => []) (fun (v_9 : Int32) (h_10 : Mm) => h_10) (fun P' kj_19 => mj_sub [1, 2, 0] rfl (lX8_askNext_25 C md_N h_2 (0 : Int32) (0 : Int32) kj_19)) (fun v_9 h_10 => ?_)
  refine mj_iconst C (v := -1) dX8_askNext_80 rfl ?_
  refine mj_istore_n C [(2, .int (-1 : Int32)), (0, rf K 84), (1, .int v_9)] dX8_askNext_81 (i := 2) rfl (by decide) rfl ?_
  refine mj_iload_n C 2 dX8_askNext_82 (i := 1) rfl rfl ?_
  refine mj_istore_n C [(3, .int v_9), (2, .int (-1 : Int32)), (0, rf K 84), (1, .int v_9)] dX8_askNext_83 (i := 3) rfl (by decide) rfl ?_
  refine mj_iconst C (v := 0) dX8_askNext_84 rfl ?_
  refine mj_istore C [(4, .int (0 : Int32)), (3, .int v_9), (2, .int (-1 : Int32)), (0, rf K 84), (1, .int v_9)] dX8_askNext_85 (by decide) rfl ?_
  refine mj_phi1 168 (fun (v_17 : Int32) => [(2, .int v_17)]) (fun (v_17 : Int32) => []) (fun (v_17 : Int32) => h_10) (fun P' kj_18 => mj_sub [3, 4, 2, 1, 0] rfl (lX8_askNext_87 C md_N h_10 v_9 (-1 : Int32) v_9 (0 : Int32) kj_18)) (fun v_17 => ?_)
  refine mj_iload_n C 0 dX8_askNext_168 (i := 2) rfl rfl ?_
  exact mj_rIM C N dX8_askNext_169
noncomputable def fX8_write (h : Mm) (l1 : Int32) (l2 : Int32) : Option (Int32 × Mm) := md_bd (fX8_isIdea h l1) (fun r_1 => (if r_1 = true then md_bd (fX8_in h ((l2).toInt64) (0 : Int64) (1 : Int64)) (fun r_2 => (if r_2 = true then (if (h 84 43) = (15 : Int32) then some ((-1000000004 : Int32), h) else md_ck (md_in (h 84 43) 15) (md_lt (md_up h 109 ((h 84 43)).toNatClampNeg l1) (fun h_3 : Mm => md_ck (md_in (h_3 84 43) 15) (md_lt (md_up h_3 110 ((h_3 84 43)).toNatClampNeg l2) (fun h_4 : Mm => md_lt (md_up h_4 84 43 ((h_4 84 43) + (1 : Int32))) (fun h_5 : Mm => some ((h_5 84 43), h_5))))))) else some ((-1000000002 : Int32), h))) else some ((-1000000001 : Int32), h)))
set_option maxRecDepth 100000 in
set_option maxHeartbeats 4000000 in
theorem ctX8_write (K : Kx) (h : Mm) (l1 : Int32) (l2 : Int32) {a : Int32 × Mm} (hF : fX8_write h l1 l2 = some a) : Mt K yX8_write cX8_write 3 (some .int) 2 46 SHc [rf K 84, .int l1, .int l2] h (some (.int a.1)) a.2 := by
  refine Mt.of hF [(0, rf K 84), (1, .int l1), (2, .int l2)] (by decide) (Nat.le_of_ble_eq_true rfl) rfl (fun Y C N => ?_)
  have C : Cx K Y (0, 0) cX8_write RX8 3 2 46 := C
  unfold fX8_write
  refine mj_aload_n C 0 dX8_write_0 (i := 0) rfl rfl ?_
  refine mj_iload_n C 1 dX8_write_1 (i := 1) rfl rfl ?_
  refine mj_vB C my_X8_isIdea mv_X8_238 dX8_write_2 sh_84 rfl (fun a hF => ctX8_isIdea K h l1  hF) (by decide) (by decide) rfl rfl (Nat.le_of_ble_eq_true rfl) (fun r_1 => ?_)
  refine mj_b_ne C 11 dX8_write_5 (by decide) ?_ ?_
  · refine mj_iload_n C 2 dX8_write_11 (i := 2) rfl rfl ?_
    refine mj_i2l C dX8_write_12 ?_
    refine mj_lconst C (v := 0) dX8_write_13 rfl ?_
    refine mj_lconst C (v := 1) dX8_write_14 rfl ?_
    refine mj_sB C my_X8_in ms_X8_106 dX8_write_15 (fun a hF => ctX8_in K h ((l2).toInt64) (0 : Int64) (1 : Int64)  hF) (by decide) (by decide) rfl rfl (Nat.le_of_ble_eq_true rfl) (fun r_2 => ?_)
    refine mj_b_ne C 24 dX8_write_18 (by decide) ?_ ?_
    · refine mj_aload_n C 0 dX8_write_24 (i := 0) rfl rfl ?_
      refine mj_getI C ff_X8_214 dX8_write_25 sh_84 rfl ?_
      refine mj_bipush C (v := 15) dX8_write_28 rfl ?_
      refine mj_icmp_ne C 36 dX8_write_30 (by decide) ?_ ?_
      · refine mj_aload_n C 0 dX8_write_36 (i := 0) rfl rfl ?_
        refine mj_getR C ff_X8_87 dX8_write_37 sh_84 rfl ?_
        refine mj_aload_n C 0 dX8_write_40 (i := 0) rfl rfl ?_
        refine mj_getI C ff_X8_214 dX8_write_41 sh_84 rfl ?_
        refine mj_iload_n C 1 dX8_write_44 (i := 1) rfl rfl ?_
        refine mj_iast C dX8_write_45 sh_109 (fun h_3 => ?_)
        refine mj_aload_n C 0 dX8_write_46 (i := 0) rfl rfl ?_
        refine mj_getR C ff_X8_90 dX8_write_47 sh_84 rfl ?_
        refine mj_aload_n C 0 dX8_write_50 (i := 0) rfl rfl ?_
        refine mj_getI C ff_X8_214 dX8_write_51 sh_84 rfl ?_
        refine mj_iload_n C 2 dX8_write_54 (i := 2) rfl rfl ?_
        refine mj_iast C dX8_write_55 sh_110 (fun h_4 => ?_)
        refine mj_aload_n C 0 dX8_write_56 (i := 0) rfl rfl ?_
        refine mj_dup C dX8_write_57 rfl ?_
        refine mj_getI C ff_X8_214 dX8_write_58 sh_84 rfl ?_
        refine mj_iconst C (v := 1) dX8_write_61 rfl ?_
        refine mj_iadd C dX8_write_62 ?_
        refine mj_putL C fp_X8_214 dX8_write_63 sh_84 rfl rfl rfl (fun h_5 => ?_)
        refine mj_aload_n C 0 dX8_write_66 (i := 0) rfl rfl ?_
        refine mj_getI C ff_X8_214 dX8_write_67 sh_84 rfl ?_
        exact mj_rIM C N dX8_write_70
      · refine mj_ldc C kc_X8_119 dX8_write_33 ?_
        exact mj_rIM C N dX8_write_35
    · refine mj_ldc C kc_X8_115 dX8_write_21 ?_
      exact mj_rIM C N dX8_write_23
  · refine mj_ldc C kc_X8_241 dX8_write_8 ?_
    exact mj_rIM C N dX8_write_10
noncomputable def fX8_tear (h : Mm) : Option (Int32 × Mm) := md_lt ((h 84 38) + (h 84 43)) (fun l1_1 : Int32 => md_lt (md_up h 84 38 (0 : Int32)) (fun h_2 : Mm => md_lt (md_up h_2 84 43 (0 : Int32)) (fun h_3 : Mm => some (l1_1, h_3))))
set_option maxRecDepth 100000 in
set_option maxHeartbeats 4000000 in
theorem ctX8_tear (K : Kx) (h : Mm) {a : Int32 × Mm} (hF : fX8_tear h = some a) : Mt K yX8_tear cX8_tear 2 (some .int) 0 0 SHc [rf K 84] h (some (.int a.1)) a.2 := by
  refine Mt.of hF [(0, rf K 84)] (by decide) (Nat.le_of_ble_eq_true rfl) rfl (fun Y C N => ?_)
  have C : Cx K Y (0, 0) cX8_tear RX8 2 0 0 := C
  unfold fX8_tear
  refine mj_aload_n C 0 dX8_tear_0 (i := 0) rfl rfl ?_
  refine mj_getI C ff_X8_211 dX8_tear_1 sh_84 rfl ?_
  refine mj_aload_n C 0 dX8_tear_4 (i := 0) rfl rfl ?_
  refine mj_getI C ff_X8_214 dX8_tear_5 sh_84 rfl ?_
  refine mj_iadd C dX8_tear_8 ?_
  refine mj_istore_nL C (fun l1_1 => [(1, .int l1_1), (0, rf K 84)]) dX8_tear_9 (i := 1) rfl (by decide) rfl (fun l1_1 => ?_)
  refine mj_aload_n C 1 dX8_tear_10 (i := 0) rfl rfl ?_
  refine mj_iconst C (v := 0) dX8_tear_11 rfl ?_
  refine mj_putL C fp_X8_211 dX8_tear_12 sh_84 rfl rfl rfl (fun h_2 => ?_)
  refine mj_aload_n C 1 dX8_tear_15 (i := 0) rfl rfl ?_
  refine mj_iconst C (v := 0) dX8_tear_16 rfl ?_
  refine mj_putL C fp_X8_214 dX8_tear_17 sh_84 rfl rfl rfl (fun h_3 => ?_)
  refine mj_iload_n C 0 dX8_tear_20 (i := 1) rfl rfl ?_
  exact mj_rIM C N dX8_tear_21
noncomputable def fX8_judge_13 : Nat → Mm → Int32 → Int32 → Option ((Int32) ⊕ (Unit))
  | 0, _, _, _ => none
  | n + 1, h, l1, l2 => (if (h 84 43) ≤ l2 then some (.inr ()) else md_ck (md_in l2 15) (md_ck (md_in l2 15) ((if ((l1 >>> ((h 109 (l2).toNatClampNeg) &&& 31)) &&& (1 : Int32)) = (h 110 (l2).toNatClampNeg) then fX8_judge_13 n h l1 (l2 + 1) else some (.inl l2)))))
set_option maxRecDepth 100000 in
set_option maxHeartbeats 4000000 in
theorem lX8_judge_13 {K : Kx} {Y : Yx} {cs : Nat × Nat} (C : Cx K Y cs cX8_judge RX8 3 2 45) {P : (Int32) ⊕ (Unit) → Prop} : ∀ (n : Nat) (h : Mm) (l1 : Int32) (l2 : Int32), (∀ (q : Int32), J SHc K Y cs (P (.inl q)) 40 [(2, .int q)] [] h) → (∀ (q : Unit), J SHc K Y cs (P (.inr q)) 48 [] [] h) → J SHc K Y cs (mj_O (fX8_judge_13 n h l1 l2) P) 13 [(0, rf K 84), (1, .int l1), (2, .int l2)] [] h := by
  intro n
  induction n with
  | zero => intro h l1 l2 kk0 kk1; exact mj_none
  | succ n ih =>
    intro h l1 l2 kk0 kk1
    rw [fX8_judge_13]
    refine mj_iload_n C 2 dX8_judge_13 (i := 2) rfl rfl ?_
    refine mj_aload_n C 0 dX8_judge_14 (i := 0) rfl rfl ?_
    refine mj_getI C ff_X8_214 dX8_judge_15 sh_84 rfl ?_
    refine mj_icmp_ge C 48 dX8_judge_18 (by decide) ?_ ?_
    · exact mj_sub [] rfl (mj_some (kk1 ()))
    · refine mj_iload_n C 1 dX8_judge_21 (i := 1) rfl rfl ?_
      refine mj_aload_n C 0 dX8_judge_22 (i := 0) rfl rfl ?_
      refine mj_getR C ff_X8_87 dX8_judge_23 sh_84 rfl ?_
      refine mj_iload_n C 2 dX8_judge_26 (i := 2) rfl rfl ?_
      refine mj_iald C dX8_judge_27 sh_109 ?_
      refine mj_ishr C dX8_judge_28 ?_
      refine mj_iconst C (v := 1) dX8_judge_29 rfl ?_
      refine mj_iand C dX8_judge_30 ?_
      refine mj_aload_n C 0 dX8_judge_31 (i := 0) rfl rfl ?_
      refine mj_getR C ff_X8_90 dX8_judge_32 sh_84 rfl ?_
      refine mj_iload_n C 2 dX8_judge_35 (i := 2) rfl rfl ?_
      refine mj_iald C dX8_judge_36 sh_110 ?_
      refine mj_icmp_eq C 42 dX8_judge_37 (by decide) ?_ ?_
      · refine mj_iinc C (l2 + 1) 2 [(2, .int (l2 + 1)), (0, rf K 84), (1, .int l1)] dX8_judge_42 rfl rfl (by decide) rfl ?_
        refine mj_goto C 13 dX8_judge_45 (by decide) ?_
        exact mj_sub [1, 2, 0] rfl (ih h l1 (l2 + 1) kk0 kk1)
      · exact mj_sub [2] rfl (mj_some (kk0 l2))
noncomputable def fX8_judge (h : Mm) : Option (Int32) := md_ck (md_in (0 : Int32) 9) (md_bd (fX8_close h (h 92 ((0 : Int32)).toNatClampNeg)) (fun r_1 => md_bS (fX8_judge_13 md_N h r_1 (0 : Int32)) (fun q_2 : Int32 => some q_2) (fun q_3 : Unit => some (-1 : Int32))))
set_option maxRecDepth 100000 in
set_option maxHeartbeats 4000000 in
theorem ctX8_judge (K : Kx) (h : Mm) {a : Int32} (hF : fX8_judge h = some a) : Mt K yX8_judge cX8_judge 3 (some .int) 2 45 SHc [rf K 84] h (some (.int a)) h := by
  refine Mt.of hF [(0, rf K 84)] (by decide) (Nat.le_of_ble_eq_true rfl) rfl (fun Y C N => ?_)
  have C : Cx K Y (0, 0) cX8_judge RX8 3 2 45 := C
  unfold fX8_judge
  refine mj_aload_n C 0 dX8_judge_0 (i := 0) rfl rfl ?_
  refine mj_aload_n C 0 dX8_judge_1 (i := 0) rfl rfl ?_
  refine mj_getR C ff_X8_31 dX8_judge_2 sh_84 rfl ?_
  refine mj_iconst C (v := 0) dX8_judge_5 rfl ?_
  refine mj_iald C dX8_judge_6 sh_92 ?_
  refine mj_vI C my_X8_close mv_X8_220 dX8_judge_7 sh_84 rfl (fun a hF => ctX8_close K h (h 92 ((0 : Int32)).toNatClampNeg)  hF) (by decide) (by decide) rfl rfl (Nat.le_of_ble_eq_true rfl) (fun r_1 => ?_)
  refine mj_istore_n C [(1, .int r_1), (0, rf K 84)] dX8_judge_10 (i := 1) rfl (by decide) rfl ?_
  refine mj_iconst C (v := 0) dX8_judge_11 rfl ?_
  refine mj_istore_n C [(2, .int (0 : Int32)), (1, .int r_1), (0, rf K 84)] dX8_judge_12 (i := 2) rfl (by decide) rfl ?_
  refine mj_phiS 40 48 (fun q_2 => [(2, .int q_2)]) (fun q_3 => []) (fun q_2 => h) (fun q_3 => h) (fun P' kj_4 kj_5 => mj_sub [2, 1, 0] rfl (lX8_judge_13 C md_N h r_1 (0 : Int32) kj_4 kj_5)) (fun q_2 => ?_) (fun q_3 => ?_)
  · refine mj_iload_n C 0 dX8_judge_40 (i := 2) rfl rfl ?_
    exact mj_rI C N dX8_judge_41
  · refine mj_iconst C (v := -1) dX8_judge_48 rfl ?_
    exact mj_rI C N dX8_judge_49
noncomputable def fX8_seed (h : Mm) (l1 : Int32) : Option (Int32 × Mm) := (if 0 ≤ l1 then md_lt (h 84 14) (fun l2_1 : Int32 => md_lt (md_up h 84 14 l1) (fun h_2 : Mm => some (l2_1, h_2))) else some ((-1000000002 : Int32), h))
set_option maxRecDepth 100000 in
set_option maxHeartbeats 4000000 in
theorem ctX8_seed (K : Kx) (h : Mm) (l1 : Int32) {a : Int32 × Mm} (hF : fX8_seed h l1 = some a) : Mt K yX8_seed cX8_seed 3 (some .int) 0 0 SHc [rf K 84, .int l1] h (some (.int a.1)) a.2 := by
  refine Mt.of hF [(0, rf K 84), (1, .int l1)] (by decide) (Nat.le_of_ble_eq_true rfl) rfl (fun Y C N => ?_)
  have C : Cx K Y (0, 0) cX8_seed RX8 3 0 0 := C
  unfold fX8_seed
  refine mj_iload_n C 1 dX8_seed_0 (i := 1) rfl rfl ?_
  refine mj_if_ge C 7 dX8_seed_1 (by decide) ?_ ?_
  · refine mj_aload_n C 0 dX8_seed_7 (i := 0) rfl rfl ?_
    refine mj_getI C ff_X8_273 dX8_seed_8 sh_84 rfl ?_
    refine mj_istore_nL C (fun l2_1 => [(2, .int l2_1), (0, rf K 84), (1, .int l1)]) dX8_seed_11 (i := 2) rfl (by decide) rfl (fun l2_1 => ?_)
    refine mj_aload_n C 1 dX8_seed_12 (i := 0) rfl rfl ?_
    refine mj_iload_n C 2 dX8_seed_13 (i := 1) rfl rfl ?_
    refine mj_putL C fp_X8_273 dX8_seed_14 sh_84 rfl rfl rfl (fun h_2 => ?_)
    refine mj_iload_n C 0 dX8_seed_17 (i := 2) rfl rfl ?_
    exact mj_rIM C N dX8_seed_18
  · refine mj_ldc C kc_X8_115 dX8_seed_4 ?_
    exact mj_rIM C N dX8_seed_6
noncomputable def fX8_keep_15 : Nat → Mm → Int32 → Int32 → Option (Mm)
  | 0, _, _, _ => none
  | n + 1, h, l1, l2 => (if (9 : Int32) ≤ l2 then some h else md_ck (md_in l2 9) (md_ck (md_in (((10 : Int32) * l1) + l2) 20) (md_lt (md_up h 111 ((((10 : Int32) * l1) + l2)).toNatClampNeg (h 92 (l2).toNatClampNeg)) (fun h_2 : Mm => fX8_keep_15 n h_2 l1 (l2 + 1)))))
set_option maxRecDepth 100000 in
set_option maxHeartbeats 4000000 in
theorem lX8_keep_15 {K : Kx} {Y : Yx} {cs : Nat × Nat} (C : Cx K Y cs cX8_keep RX8 3 1 25) {P : Mm → Prop} : ∀ (n : Nat) (h : Mm) (l1 : Int32) (l2 : Int32), (∀ (hw : Mm), J SHc K Y cs (P hw) 44 [(0, rf K 84), (1, .int l1)] [] hw) → J SHc K Y cs (mj_O (fX8_keep_15 n h l1 l2) P) 15 [(0, rf K 84), (1, .int l1), (2, .int l2)] [] h := by
  intro n
  induction n with
  | zero => intro h l1 l2 kk0; exact mj_none
  | succ n ih =>
    intro h l1 l2 kk0
    rw [fX8_keep_15]
    refine mj_iload_n C 2 dX8_keep_15 (i := 2) rfl rfl ?_
    refine mj_bipush C (v := 9) dX8_keep_16 rfl ?_
    refine mj_icmp_ge C 44 dX8_keep_18 (by decide) ?_ ?_
    · exact mj_sub [0, 1] rfl (mj_some (kk0 h))
    · refine mj_aload_n C 0 dX8_keep_21 (i := 0) rfl rfl ?_
      refine mj_getR C ff_X8_93 dX8_keep_22 sh_84 rfl ?_
      refine mj_bipush C (v := 10) dX8_keep_25 rfl ?_
      refine mj_iload_n C 1 dX8_keep_27 (i := 1) rfl rfl ?_
      refine mj_imul C dX8_keep_28 ?_
      refine mj_iload_n C 2 dX8_keep_29 (i := 2) rfl rfl ?_
      refine mj_iadd C dX8_keep_30 ?_
      refine mj_aload_n C 0 dX8_keep_31 (i := 0) rfl rfl ?_
      refine mj_getR C ff_X8_31 dX8_keep_32 sh_84 rfl ?_
      refine mj_iload_n C 2 dX8_keep_35 (i := 2) rfl rfl ?_
      refine mj_iald C dX8_keep_36 sh_92 ?_
      refine mj_iast C dX8_keep_37 sh_111 (fun h_2 => ?_)
      refine mj_iinc C (l2 + 1) 2 [(2, .int (l2 + 1)), (0, rf K 84), (1, .int l1)] dX8_keep_38 rfl rfl (by decide) rfl ?_
      refine mj_goto C 15 dX8_keep_41 (by decide) ?_
      exact mj_sub [1, 2, 0] rfl (ih h_2 l1 (l2 + 1) kk0)
noncomputable def fX8_keep (h : Mm) (l1 : Int32) : Option (Int32 × Mm) := md_bd (fX8_in h ((l1).toInt64) (0 : Int64) (1 : Int64)) (fun r_1 => (if r_1 = true then md_bd (fX8_keep_15 md_N h l1 (0 : Int32)) (fun (h_3 : Mm) => md_ck (md_in (((10 : Int32) * l1) + (9 : Int32)) 20) (md_lt (md_up h_3 111 ((((10 : Int32) * l1) + (9 : Int32))).toNatClampNeg (h_3 84 14)) (fun h_4 : Mm => md_ck (md_in l1 2) (md_lt (md_up h_4 112 (l1).toNatClampNeg (md_bi true)) (fun h_5 : Mm => md_lt (md_up h_5 84 35 (0 : Int32)) (fun h_6 : Mm => some ((1 : Int32), h_6))))))) else some ((-1000000001 : Int32), h)))
set_option maxRecDepth 100000 in
set_option maxHeartbeats 4000000 in
theorem ctX8_keep (K : Kx) (h : Mm) (l1 : Int32) {a : Int32 × Mm} (hF : fX8_keep h l1 = some a) : Mt K yX8_keep cX8_keep 3 (some .int) 1 25 SHc [rf K 84, .int l1] h (some (.int a.1)) a.2 := by
  refine Mt.of hF [(0, rf K 84), (1, .int l1)] (by decide) (Nat.le_of_ble_eq_true rfl) rfl (fun Y C N => ?_)
  have C : Cx K Y (0, 0) cX8_keep RX8 3 1 25 := C
  unfold fX8_keep
  refine mj_iload_n C 1 dX8_keep_0 (i := 1) rfl rfl ?_
  refine mj_i2l C dX8_keep_1 ?_
  refine mj_lconst C (v := 0) dX8_keep_2 rfl ?_
  refine mj_lconst C (v := 1) dX8_keep_3 rfl ?_
  refine mj_sB C my_X8_in ms_X8_106 dX8_keep_4 (fun a hF => ctX8_in K h ((l1).toInt64) (0 : Int64) (1 : Int64)  hF) (by decide) (by decide) rfl rfl (Nat.le_of_ble_eq_true rfl) (fun r_1 => ?_)
  refine mj_b_ne C 13 dX8_keep_7 (by decide) ?_ ?_
  · refine mj_iconst C (v := 0) dX8_keep_13 rfl ?_
    refine mj_istore_n C [(2, .int (0 : Int32)), (0, rf K 84), (1, .int l1)] dX8_keep_14 (i := 2) rfl (by decide) rfl ?_
    refine mj_phi1 44 (fun (h_3 : Mm) => [(0, rf K 84), (1, .int l1)]) (fun (h_3 : Mm) => []) (fun (h_3 : Mm) => h_3) (fun P' kj_7 => mj_sub [1, 2, 0] rfl (lX8_keep_15 C md_N h l1 (0 : Int32) kj_7)) (fun h_3 => ?_)
    refine mj_aload_n C 0 dX8_keep_44 (i := 0) rfl rfl ?_
    refine mj_getR C ff_X8_93 dX8_keep_45 sh_84 rfl ?_
    refine mj_bipush C (v := 10) dX8_keep_48 rfl ?_
    refine mj_iload_n C 1 dX8_keep_50 (i := 1) rfl rfl ?_
    refine mj_imul C dX8_keep_51 ?_
    refine mj_bipush C (v := 9) dX8_keep_52 rfl ?_
    refine mj_iadd C dX8_keep_54 ?_
    refine mj_aload_n C 0 dX8_keep_55 (i := 0) rfl rfl ?_
    refine mj_getI C ff_X8_273 dX8_keep_56 sh_84 rfl ?_
    refine mj_iast C dX8_keep_59 sh_111 (fun h_4 => ?_)
    refine mj_aload_n C 0 dX8_keep_60 (i := 0) rfl rfl ?_
    refine mj_getR C ff_X8_96 dX8_keep_61 sh_84 rfl ?_
    refine mj_iload_n C 1 dX8_keep_64 (i := 1) rfl rfl ?_
    refine mj_iconst C (v := 1) dX8_keep_65 rfl ?_
    refine mj_zast C (v := true) dX8_keep_66 sh_112 (fun h_5 => ?_)
    refine mj_aload_n C 0 dX8_keep_67 (i := 0) rfl rfl ?_
    refine mj_iconst C (v := 0) dX8_keep_68 rfl ?_
    refine mj_putL C fp_X8_217 dX8_keep_69 sh_84 rfl rfl rfl (fun h_6 => ?_)
    refine mj_iconst C (v := 1) dX8_keep_72 rfl ?_
    exact mj_rIM C N dX8_keep_73
  · refine mj_ldc C kc_X8_241 dX8_keep_10 ?_
    exact mj_rIM C N dX8_keep_12
noncomputable def fX8_goBack_27 : Nat → Mm → Int32 → Int32 → Option (Mm)
  | 0, _, _, _ => none
  | n + 1, h, l1, l2 => (if (9 : Int32) ≤ l2 then some h else md_ck (md_in (((10 : Int32) * l1) + l2) 20) (md_ck (md_in l2 9) (md_lt (md_up h 92 (l2).toNatClampNeg (h 111 ((((10 : Int32) * l1) + l2)).toNatClampNeg)) (fun h_2 : Mm => fX8_goBack_27 n h_2 l1 (l2 + 1)))))
set_option maxRecDepth 100000 in
set_option maxHeartbeats 4000000 in
theorem lX8_goBack_27 {K : Kx} {Y : Yx} {cs : Nat × Nat} (C : Cx K Y cs cX8_goBack RX8 3 1 25) {P : Mm → Prop} : ∀ (n : Nat) (h : Mm) (l1 : Int32) (l2 : Int32), (∀ (hw : Mm), J SHc K Y cs (P hw) 56 [(0, rf K 84), (1, .int l1)] [] hw) → J SHc K Y cs (mj_O (fX8_goBack_27 n h l1 l2) P) 27 [(0, rf K 84), (1, .int l1), (2, .int l2)] [] h := by
  intro n
  induction n with
  | zero => intro h l1 l2 kk0; exact mj_none
  | succ n ih =>
    intro h l1 l2 kk0
    rw [fX8_goBack_27]
    refine mj_iload_n C 2 dX8_goBack_27 (i := 2) rfl rfl ?_
    refine mj_bipush C (v := 9) dX8_goBack_28 rfl ?_
    refine mj_icmp_ge C 56 dX8_goBack_30 (by decide) ?_ ?_
    · exact mj_sub [0, 1] rfl (mj_some (kk0 h))
    · refine mj_aload_n C 0 dX8_goBack_33 (i := 0) rfl rfl ?_
      refine mj_getR C ff_X8_31 dX8_goBack_34 sh_84 rfl ?_
      refine mj_iload_n C 2 dX8_goBack_37 (i := 2) rfl rfl ?_
      refine mj_aload_n C 0 dX8_goBack_38 (i := 0) rfl rfl ?_
      refine mj_getR C ff_X8_93 dX8_goBack_39 sh_84 rfl ?_
      refine mj_bipush C (v := 10) dX8_goBack_42 rfl ?_
      refine mj_iload_n C 1 dX8_goBack_44 (i := 1) rfl rfl ?_
      refine mj_imul C dX8_goBack_45 ?_
      refine mj_iload_n C 2 dX8_goBack_46 (i := 2) rfl rfl ?_
      refine mj_iadd C dX8_goBack_47 ?_
      refine mj_iald C dX8_goBack_48 sh_111 ?_
      refine mj_iast C dX8_goBack_49 sh_92 (fun h_2 => ?_)
      refine mj_iinc C (l2 + 1) 2 [(2, .int (l2 + 1)), (0, rf K 84), (1, .int l1)] dX8_goBack_50 rfl rfl (by decide) rfl ?_
      refine mj_goto C 27 dX8_goBack_53 (by decide) ?_
      exact mj_sub [1, 2, 0] rfl (ih h_2 l1 (l2 + 1) kk0)
noncomputable def fX8_goBack (h : Mm) (l1 : Int32) : Option (Int32 × Mm) := md_bd (fX8_in h ((l1).toInt64) (0 : Int64) (1 : Int64)) (fun r_1 => (if r_1 = true then md_ck (md_in l1 2) ((if (h 112 (l1).toNatClampNeg) = 0 then some ((-1000000003 : Int32), h) else md_bd (fX8_goBack_27 md_N h l1 (0 : Int32)) (fun (h_3 : Mm) => md_ck (md_in (((10 : Int32) * l1) + (9 : Int32)) 20) (md_lt (md_up h_3 84 14 (h_3 111 ((((10 : Int32) * l1) + (9 : Int32))).toNatClampNeg)) (fun h_4 : Mm => md_lt (md_up h_4 84 35 (0 : Int32)) (fun h_5 : Mm => some ((1 : Int32), h_5))))))) else some ((-1000000001 : Int32), h)))
set_option maxRecDepth 100000 in
set_option maxHeartbeats 4000000 in
theorem ctX8_goBack (K : Kx) (h : Mm) (l1 : Int32) {a : Int32 × Mm} (hF : fX8_goBack h l1 = some a) : Mt K yX8_goBack cX8_goBack 3 (some .int) 1 25 SHc [rf K 84, .int l1] h (some (.int a.1)) a.2 := by
  refine Mt.of hF [(0, rf K 84), (1, .int l1)] (by decide) (Nat.le_of_ble_eq_true rfl) rfl (fun Y C N => ?_)
  have C : Cx K Y (0, 0) cX8_goBack RX8 3 1 25 := C
  unfold fX8_goBack
  refine mj_iload_n C 1 dX8_goBack_0 (i := 1) rfl rfl ?_
  refine mj_i2l C dX8_goBack_1 ?_
  refine mj_lconst C (v := 0) dX8_goBack_2 rfl ?_
  refine mj_lconst C (v := 1) dX8_goBack_3 rfl ?_
  refine mj_sB C my_X8_in ms_X8_106 dX8_goBack_4 (fun a hF => ctX8_in K h ((l1).toInt64) (0 : Int64) (1 : Int64)  hF) (by decide) (by decide) rfl rfl (Nat.le_of_ble_eq_true rfl) (fun r_1 => ?_)
  refine mj_b_ne C 13 dX8_goBack_7 (by decide) ?_ ?_
  · refine mj_aload_n C 0 dX8_goBack_13 (i := 0) rfl rfl ?_
    refine mj_getR C ff_X8_96 dX8_goBack_14 sh_84 rfl ?_
    refine mj_iload_n C 1 dX8_goBack_17 (i := 1) rfl rfl ?_
    refine mj_zald C dX8_goBack_18 sh_112 ?_
    refine mj_if_ne C 25 dX8_goBack_19 (by decide) ?_ ?_
    · refine mj_iconst C (v := 0) dX8_goBack_25 rfl ?_
      refine mj_istore_n C [(2, .int (0 : Int32)), (0, rf K 84), (1, .int l1)] dX8_goBack_26 (i := 2) rfl (by decide) rfl ?_
      refine mj_phi1 56 (fun (h_3 : Mm) => [(0, rf K 84), (1, .int l1)]) (fun (h_3 : Mm) => []) (fun (h_3 : Mm) => h_3) (fun P' kj_6 => mj_sub [1, 2, 0] rfl (lX8_goBack_27 C md_N h l1 (0 : Int32) kj_6)) (fun h_3 => ?_)
      refine mj_aload_n C 0 dX8_goBack_56 (i := 0) rfl rfl ?_
      refine mj_aload_n C 0 dX8_goBack_57 (i := 0) rfl rfl ?_
      refine mj_getR C ff_X8_93 dX8_goBack_58 sh_84 rfl ?_
      refine mj_bipush C (v := 10) dX8_goBack_61 rfl ?_
      refine mj_iload_n C 1 dX8_goBack_63 (i := 1) rfl rfl ?_
      refine mj_imul C dX8_goBack_64 ?_
      refine mj_bipush C (v := 9) dX8_goBack_65 rfl ?_
      refine mj_iadd C dX8_goBack_67 ?_
      refine mj_iald C dX8_goBack_68 sh_111 ?_
      refine mj_putL C fp_X8_273 dX8_goBack_69 sh_84 rfl rfl rfl (fun h_4 => ?_)
      refine mj_aload_n C 0 dX8_goBack_72 (i := 0) rfl rfl ?_
      refine mj_iconst C (v := 0) dX8_goBack_73 rfl ?_
      refine mj_putL C fp_X8_217 dX8_goBack_74 sh_84 rfl rfl rfl (fun h_5 => ?_)
      refine mj_iconst C (v := 1) dX8_goBack_77 rfl ?_
      exact mj_rIM C N dX8_goBack_78
    · refine mj_ldc C kc_X8_251 dX8_goBack_22 ?_
      exact mj_rIM C N dX8_goBack_24
  · refine mj_ldc C kc_X8_241 dX8_goBack_10 ?_
    exact mj_rIM C N dX8_goBack_12
