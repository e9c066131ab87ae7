noncomputable def fX0_append (h : Mm) (l1 : Int32) (l2 : Int32) : Option (Bool × Mm) := (if (h 70 2) < (15 : Int32) then md_ck (md_in (h 70 2) 15) (md_lt (md_up h 71 ((h 70 2)).toNatClampNeg l1) (fun h_1 : Mm => md_ck (md_in (h_1 70 2) 15) (md_lt (md_up h_1 72 ((h_1 70 2)).toNatClampNeg l2) (fun h_2 : Mm => md_lt (md_up h_2 70 2 ((h_2 70 2) + (1 : Int32))) (fun h_3 : Mm => some (true, h_3)))))) else some (false, h))
set_option maxRecDepth 100000 in
set_option maxHeartbeats 4000000 in
theorem ctX0_append (K : Kx) (h : Mm) (l1 : Int32) (l2 : Int32) {a : Bool × Mm} (hF : fX0_append h l1 l2 = some a) : Mt K yX0_append cX0_append 3 (some .boolean) 0 0 SHc [rf K 70, .int l1, .int l2] h (some (.int (md_bi a.1))) a.2 := by
  refine Mt.of hF [(0, rf K 70), (1, .int l1), (2, .int l2)] (by decide) (Nat.le_of_ble_eq_true rfl) rfl (fun Y C N => ?_)
  have C : Cx K Y (0, 0) cX0_append RX0 3 0 0 := C
  unfold fX0_append
  refine mj_aload_n C 0 dX0_append_0 (i := 0) rfl rfl ?_
  refine mj_getI C ff_X0_18 dX0_append_1 sh_70 rfl ?_
  refine mj_bipush C (v := 15) dX0_append_4 rfl ?_
  refine mj_icmp_lt C 11 dX0_append_6 (by decide) ?_ ?_
  · refine mj_aload_n C 0 dX0_append_11 (i := 0) rfl rfl ?_
    refine mj_getR C ff_X0_9 dX0_append_12 sh_70 rfl ?_
    refine mj_aload_n C 0 dX0_append_15 (i := 0) rfl rfl ?_
    refine mj_getI C ff_X0_18 dX0_append_16 sh_70 rfl ?_
    refine mj_iload_n C 1 dX0_append_19 (i := 1) rfl rfl ?_
    refine mj_iast C dX0_append_20 sh_71 (fun h_1 => ?_)
    refine mj_aload_n C 0 dX0_append_21 (i := 0) rfl rfl ?_
    refine mj_getR C ff_X0_15 dX0_append_22 sh_70 rfl ?_
    refine mj_aload_n C 0 dX0_append_25 (i := 0) rfl rfl ?_
    refine mj_getI C ff_X0_18 dX0_append_26 sh_70 rfl ?_
    refine mj_iload_n C 2 dX0_append_29 (i := 2) rfl rfl ?_
    refine mj_iast C dX0_append_30 sh_72 (fun h_2 => ?_)
    refine mj_aload_n C 0 dX0_append_31 (i := 0) rfl rfl ?_
    refine mj_dup C dX0_append_32 rfl ?_
    refine mj_getI C ff_X0_18 dX0_append_33 sh_70 rfl ?_
    refine mj_iconst C (v := 1) dX0_append_36 rfl ?_
    refine mj_iadd C dX0_append_37 ?_
    refine mj_putL C fp_X0_18 dX0_append_38 sh_70 rfl rfl rfl (fun h_3 => ?_)
    refine mj_iconst C (v := 1) dX0_append_41 rfl ?_
    exact mj_rZM C N dX0_append_42
  · refine mj_iconst C (v := 0) dX0_append_9 rfl ?_
    exact mj_rZM C N dX0_append_10
noncomputable def fX0_firstWrong_2 : Nat → Mm → Int32 → Int32 → Option ((Int32) ⊕ (Unit))
  | 0, _, _, _ => none
  | n + 1, h, l1, l2 => (if (h 70 2) ≤ l2 then some (.inr ()) else md_ck (md_in l2 15) (md_ck (md_in l2 15) ((if ((l1 >>> ((h 71 (l2).toNatClampNeg) &&& 31)) &&& (1 : Int32)) = (h 72 (l2).toNatClampNeg) then fX0_firstWrong_2 n h l1 (l2 + 1) else some (.inl l2)))))
set_option maxRecDepth 100000 in
set_option maxHeartbeats 4000000 in
theorem lX0_firstWrong_2 {K : Kx} {Y : Yx} {cs : Nat × Nat} (C : Cx K Y cs cX0_firstWrong RX0 3 0 0) {P : (Int32) ⊕ (Unit) → Prop} : ∀ (n : Nat) (h : Mm) (l1 : Int32) (l2 : Int32), (∀ (q : Int32), J SHc K Y cs (P (.inl q)) 29 [(2, .int q)] [] h) → (∀ (q : Unit), J SHc K Y cs (P (.inr q)) 37 [] [] h) → J SHc K Y cs (mj_O (fX0_firstWrong_2 n h l1 l2) P) 2 [(0, rf K 70), (1, .int l1), (2, .int l2)] [] h := by
  intro n
  induction n with
  | zero => intro h l1 l2 kk0 kk1; exact mj_none
  | succ n ih =>
    intro h l1 l2 kk0 kk1
    rw [fX0_firstWrong_2]
    refine mj_iload_n C 2 dX0_firstWrong_2 (i := 2) rfl rfl ?_
    refine mj_aload_n C 0 dX0_firstWrong_3 (i := 0) rfl rfl ?_
    refine mj_getI C ff_X0_18 dX0_firstWrong_4 sh_70 rfl ?_
    refine mj_icmp_ge C 37 dX0_firstWrong_7 (by decide) ?_ ?_
    · exact mj_sub [] rfl (mj_some (kk1 ()))
    · refine mj_iload_n C 1 dX0_firstWrong_10 (i := 1) rfl rfl ?_
      refine mj_aload_n C 0 dX0_firstWrong_11 (i := 0) rfl rfl ?_
      refine mj_getR C ff_X0_9 dX0_firstWrong_12 sh_70 rfl ?_
      refine mj_iload_n C 2 dX0_firstWrong_15 (i := 2) rfl rfl ?_
      refine mj_iald C dX0_firstWrong_16 sh_71 ?_
      refine mj_ishr C dX0_firstWrong_17 ?_
      refine mj_iconst C (v := 1) dX0_firstWrong_18 rfl ?_
      refine mj_iand C dX0_firstWrong_19 ?_
      refine mj_aload_n C 0 dX0_firstWrong_20 (i := 0) rfl rfl ?_
      refine mj_getR C ff_X0_15 dX0_firstWrong_21 sh_70 rfl ?_
      refine mj_iload_n C 2 dX0_firstWrong_24 (i := 2) rfl rfl ?_
      refine mj_iald C dX0_firstWrong_25 sh_72 ?_
      refine mj_icmp_eq C 31 dX0_firstWrong_26 (by decide) ?_ ?_
      · refine mj_iinc C (l2 + 1) 2 [(2, .int (l2 + 1)), (0, rf K 70), (1, .int l1)] dX0_firstWrong_31 rfl rfl (by decide) rfl ?_
        refine mj_goto C 2 dX0_firstWrong_34 (by decide) ?_
        exact mj_sub [1, 2, 0] rfl (ih h l1 (l2 + 1) kk0 kk1)
      · exact mj_sub [2] rfl (mj_some (kk0 l2))
noncomputable def fX0_firstWrong (h : Mm) (l1 : Int32) : Option (Int32) := md_bS (fX0_firstWrong_2 md_N h l1 (0 : Int32)) (fun q_1 : Int32 => some q_1) (fun q_2 : Unit => some (-1 : Int32))
set_option maxRecDepth 100000 in
set_option maxHeartbeats 4000000 in
theorem ctX0_firstWrong (K : Kx) (h : Mm) (l1 : Int32) {a : Int32} (hF : fX0_firstWrong h l1 = some a) : Mt K yX0_firstWrong cX0_firstWrong 3 (some .int) 0 0 SHc [rf K 70, .int l1] h (some (.int a)) h := by
  refine Mt.of hF [(0, rf K 70), (1, .int l1)] (by decide) (Nat.le_of_ble_eq_true rfl) rfl (fun Y C N => ?_)
  have C : Cx K Y (0, 0) cX0_firstWrong RX0 3 0 0 := C
  unfold fX0_firstWrong
  refine mj_iconst C (v := 0) dX0_firstWrong_0 rfl ?_
  refine mj_istore_n C [(2, .int (0 : Int32)), (0, rf K 70), (1, .int l1)] dX0_firstWrong_1 (i := 2) rfl (by decide) rfl ?_
  refine mj_phiS 29 37 (fun q_1 => [(2, .int q_1)]) (fun q_2 => []) (fun q_1 => h) (fun q_2 => h) (fun P' kj_3 kj_4 => mj_sub [1, 2, 0] rfl (lX0_firstWrong_2 C md_N h l1 (0 : Int32) kj_3 kj_4)) (fun q_1 => ?_) (fun q_2 => ?_)
  · refine mj_iload_n C 0 dX0_firstWrong_29 (i := 2) rfl rfl ?_
    exact mj_rI C N dX0_firstWrong_30
  · refine mj_iconst C (v := -1) dX0_firstWrong_37 rfl ?_
    exact mj_rI C N dX0_firstWrong_38
noncomputable def fX1_clear (h : Mm) (c : Nat) : Option (Mm) := md_lt (md_up h c 0 (0 : Int32)) (fun h_1 : Mm => md_lt (md_up h_1 c 1 (0 : Int32)) (fun h_2 : Mm => md_lt (md_up h_2 c 2 (0 : Int32)) (fun h_3 : Mm => md_lt (md_up h_3 c 3 (0 : Int32)) (fun h_4 : Mm => md_lt (md_up h_4 c 5 (0 : Int32)) (fun h_5 : Mm => md_lt (md_up h_5 c 9 (0 : Int32)) (fun h_6 : Mm => md_lt (md_up h_6 c 13 (0 : Int32)) (fun h_7 : Mm => md_lt (md_up h_7 c 14 (0 : Int32)) (fun h_8 : Mm => some h_8))))))))
set_option maxRecDepth 100000 in
set_option maxHeartbeats 4000000 in
theorem ctX1_clear (K : Kx) (h : Mm) (c : Nat) (hc : isCnt c) {a : Mm} (hF : fX1_clear h c = some a) : Mt K yX1_clear cX1_clear 1 none 0 0 SHc [rf K c] h none a := by
  refine Mt.of hF [(0, rf K c)] (by decide) (Nat.le_of_ble_eq_true rfl) rfl (fun Y C N => ?_)
  have C : Cx K Y (0, 0) cX1_clear RX1 1 0 0 := C
  unfold fX1_clear
  refine mj_aload_n C 0 dX1_clear_0 (i := 0) rfl rfl ?_
  refine mj_iconst C (v := 0) dX1_clear_1 rfl ?_
  refine mj_putL C fp_X1_39 dX1_clear_2 (cn_o hc) rfl rfl rfl (fun h_1 => ?_)
  refine mj_aload_n C 0 dX1_clear_5 (i := 0) rfl rfl ?_
  refine mj_iconst C (v := 0) dX1_clear_6 rfl ?_
  refine mj_putL C fp_X1_43 dX1_clear_7 (cn_o hc) rfl rfl rfl (fun h_2 => ?_)
  refine mj_aload_n C 0 dX1_clear_10 (i := 0) rfl rfl ?_
  refine mj_iconst C (v := 0) dX1_clear_11 rfl ?_
  refine mj_putL C fp_X1_47 dX1_clear_12 (cn_o hc) rfl rfl rfl (fun h_3 => ?_)
  refine mj_aload_n C 0 dX1_clear_15 (i := 0) rfl rfl ?_
  refine mj_iconst C (v := 0) dX1_clear_16 rfl ?_
  refine mj_putL C fp_X1_50 dX1_clear_17 (cn_o hc) rfl rfl rfl (fun h_4 => ?_)
  refine mj_aload_n C 0 dX1_clear_20 (i := 0) rfl rfl ?_
  refine mj_iconst C (v := 0) dX1_clear_21 rfl ?_
  refine mj_putL C fp_X1_53 dX1_clear_22 (cn_o hc) rfl rfl rfl (fun h_5 => ?_)
  refine mj_aload_n C 0 dX1_clear_25 (i := 0) rfl rfl ?_
  refine mj_iconst C (v := 0) dX1_clear_26 rfl ?_
  refine mj_putL C fp_X1_56 dX1_clear_27 (cn_o hc) rfl rfl rfl (fun h_6 => ?_)
  refine mj_aload_n C 0 dX1_clear_30 (i := 0) rfl rfl ?_
  refine mj_iconst C (v := 0) dX1_clear_31 rfl ?_
  refine mj_putL C fp_X1_59 dX1_clear_32 (cn_o hc) rfl rfl rfl (fun h_7 => ?_)
  refine mj_aload_n C 0 dX1_clear_35 (i := 0) rfl rfl ?_
  refine mj_iconst C (v := 0) dX1_clear_36 rfl ?_
  refine mj_putL C fp_X1_62 dX1_clear_37 (cn_o hc) rfl rfl rfl (fun h_8 => ?_)
  exact mj_rV C N dX1_clear_40
noncomputable def fX1_isIdea (h : Mm) (c : Nat) (l1 : Int32) : Option (Bool) := md_bd ((if l1 < 0 then some false else (if (h c 3) ≤ l1 then some false else some true))) (fun (v_1 : Bool) => some v_1)
set_option maxRecDepth 100000 in
set_option maxHeartbeats 4000000 in
theorem ctX1_isIdea (K : Kx) (h : Mm) (c : Nat) (l1 : Int32) (hc : isCnt c) {a : Bool} (hF : fX1_isIdea h c l1 = some a) : Mt K yX1_isIdea cX1_isIdea 2 (some .boolean) 0 0 SHc [rf K c, .int l1] h (some (.int (md_bi a))) h := by
  refine Mt.of hF [(0, rf K c), (1, .int l1)] (by decide) (Nat.le_of_ble_eq_true rfl) rfl (fun Y C N => ?_)
  have C : Cx K Y (0, 0) cX1_isIdea RX1 2 0 0 := C
  unfold fX1_isIdea
  refine mj_iload_n C 1 dX1_isIdea_0 (i := 1) rfl rfl ?_
  refine mj_phi1 17 (fun (v_1 : Bool) => []) (fun (v_1 : Bool) => [.int (md_bi v_1)]) (fun (v_1 : Bool) => h) (fun P' kj_2 => ?_) (fun v_1 => ?_)
  · refine mj_if_lt C 16 dX1_isIdea_1 (by decide) ?_ ?_
    · refine mj_iconst C (v := 0) dX1_isIdea_16 rfl ?_
      exact mj_sub [] rfl (mj_some (kj_2 false))
    · refine mj_iload_n C 1 dX1_isIdea_4 (i := 1) rfl rfl ?_
      refine mj_aload_n C 0 dX1_isIdea_5 (i := 0) rfl rfl ?_
      refine mj_getI C ff_X1_50 dX1_isIdea_6 (cn_o hc) rfl ?_
      refine mj_icmp_ge C 16 dX1_isIdea_9 (by decide) ?_ ?_
      · refine mj_iconst C (v := 0) dX1_isIdea_16 rfl ?_
        exact mj_sub [] rfl (mj_some (kj_2 false))
      · refine mj_iconst C (v := 1) dX1_isIdea_12 rfl ?_
        refine mj_goto C 17 dX1_isIdea_13 (by decide) ?_
        exact mj_sub [] rfl (mj_some (kj_2 true))
  · exact mj_rZ C N dX1_isIdea_17
noncomputable def fX1_isTraveller (h : Mm) (c : Nat) (l1 : Int32) : Option (Bool) := md_bd ((if l1 < 0 then some false else (if (h c 14) ≤ l1 then some false else some true))) (fun (v_1 : Bool) => some v_1)
set_option maxRecDepth 100000 in
set_option maxHeartbeats 4000000 in
theorem ctX1_isTraveller (K : Kx) (h : Mm) (c : Nat) (l1 : Int32) (hc : isCnt c) {a : Bool} (hF : fX1_isTraveller h c l1 = some a) : Mt K yX1_isTraveller cX1_isTraveller 2 (some .boolean) 0 0 SHc [rf K c, .int l1] h (some (.int (md_bi a))) h := by
  refine Mt.of hF [(0, rf K c), (1, .int l1)] (by decide) (Nat.le_of_ble_eq_true rfl) rfl (fun Y C N => ?_)
  have C : Cx K Y (0, 0) cX1_isTraveller RX1 2 0 0 := C
  unfold fX1_isTraveller
  refine mj_iload_n C 1 dX1_isTraveller_0 (i := 1) rfl rfl ?_
  refine mj_phi1 17 (fun (v_1 : Bool) => []) (fun (v_1 : Bool) => [.int (md_bi v_1)]) (fun (v_1 : Bool) => h) (fun P' kj_2 => ?_) (fun v_1 => ?_)
  · refine mj_if_lt C 16 dX1_isTraveller_1 (by decide) ?_ ?_
    · refine mj_iconst C (v := 0) dX1_isTraveller_16 rfl ?_
      exact mj_sub [] rfl (mj_some (kj_2 false))
    · refine mj_iload_n C 1 dX1_isTraveller_4 (i := 1) rfl rfl ?_
      refine mj_aload_n C 0 dX1_isTraveller_5 (i := 0) rfl rfl ?_
      refine mj_getI C ff_X1_62 dX1_isTraveller_6 (cn_o hc) rfl ?_
      refine mj_icmp_ge C 16 dX1_isTraveller_9 (by decide) ?_ ?_
      · refine mj_iconst C (v := 0) dX1_isTraveller_16 rfl ?_
        exact mj_sub [] rfl (mj_some (kj_2 false))
      · refine mj_iconst C (v := 1) dX1_isTraveller_12 rfl ?_
        refine mj_goto C 17 dX1_isTraveller_13 (by decide) ?_
        exact mj_sub [] rfl (mj_some (kj_2 true))
  · exact mj_rZ C N dX1_isTraveller_17
noncomputable def fX1_isSet (h : Mm) (c : Nat) (l1 : Int32) : Option (Bool) := md_bd ((if l1 < 0 then some false else (if ((1 : Int32) <<< ((h c 3) &&& 31)) ≤ l1 then some false else some true))) (fun (v_1 : Bool) => some v_1)
set_option maxRecDepth 100000 in
set_option maxHeartbeats 4000000 in
theorem ctX1_isSet (K : Kx) (h : Mm) (c : Nat) (l1 : Int32) (hc : isCnt c) {a : Bool} (hF : fX1_isSet h c l1 = some a) : Mt K yX1_isSet cX1_isSet 2 (some .boolean) 0 0 SHc [rf K c, .int l1] h (some (.int (md_bi a))) h := by
  refine Mt.of hF [(0, rf K c), (1, .int l1)] (by decide) (Nat.le_of_ble_eq_true rfl) rfl (fun Y C N => ?_)
  have C : Cx K Y (0, 0) cX1_isSet RX1 2 0 0 := C
  unfold fX1_isSet
  refine mj_iload_n C 1 dX1_isSet_0 (i := 1) rfl rfl ?_
  refine mj_phi1 19 (fun (v_1 : Bool) => []) (fun (v_1 : Bool) => [.int (md_bi v_1)]) (fun (v_1 : Bool) => h) (fun P' kj_2 => ?_) (fun v_1 => ?_)
  · refine mj_if_lt C 18 dX1_isSet_1 (by decide) ?_ ?_
    · refine mj_iconst C (v := 0) dX1_isSet_18 rfl ?_
      exact mj_sub [] rfl (mj_some (kj_2 false))
    · refine mj_iload_n C 1 dX1_isSet_4 (i := 1) rfl rfl ?_
      refine mj_iconst C (v := 1) dX1_isSet_5 rfl ?_
      refine mj_aload_n C 0 dX1_isSet_6 (i := 0) rfl rfl ?_
      refine mj_getI C ff_X1_50 dX1_isSet_7 (cn_o hc) rfl ?_
      refine mj_ishl C dX1_isSet_10 ?_
      refine mj_icmp_ge C 18 dX1_isSet_11 (by decide) ?_ ?_
      · refine mj_iconst C (v := 0) dX1_isSet_18 rfl ?_
        exact mj_sub [] rfl (mj_some (kj_2 false))
      · refine mj_iconst C (v := 1) dX1_isSet_14 rfl ?_
        refine mj_goto C 19 dX1_isSet_15 (by decide) ?_
        exact mj_sub [] rfl (mj_some (kj_2 true))
  · exact mj_rZ C N dX1_isSet_19
noncomputable def fX1_joined_16 : Nat → Mm → Nat → Int32 → Int32 → Int32 → Int32 → Option (Int32)
  | 0, _, _, _, _, _, _ => none
  | n + 1, h, c, l2, l3, l4, l5 => (if (h c 5) ≤ l5 then some l2 else md_ck (md_in l5 10) (md_ck (md_in l5 10) (md_lt (((1 : Int32) <<< ((h (c + 2) (l5).toNatClampNeg) &&& 31)) ||| ((1 : Int32) <<< ((h (c + 3) (l5).toNatClampNeg) &&& 31))) (fun l6_1 : Int32 => md_bd ((if (l2 &&& l6_1) = l6_1 then md_ck (md_in l5 10) (md_lt (l2 ||| ((1 : Int32) <<< ((h (c + 4) (l5).toNatClampNeg) &&& 31))) (fun l2_4 : Int32 => some l2_4)) else some l2)) (fun (v_2 : Int32) => fX1_joined_16 n h c v_2 l3 l4 (l5 + 1))))))
set_option maxRecDepth 100000 in
set_option maxHeartbeats 4000000 in
theorem lX1_joined_16 {K : Kx} {Y : Yx} {cs : Nat × Nat} (c : Nat) (hc : isCnt c) (C : Cx K Y cs cX1_joined RX1 7 0 0) {P : Int32 → Prop} : ∀ (n : Nat) (h : Mm) (l2 : Int32) (l3 : Int32) (l4 : Int32) (l5 : Int32), (∀ (w2 : Int32), J SHc K Y cs (P w2) 73 [(0, rf K c), (2, .int w2), (3, .int l3), (4, .int l4)] [] h) → J SHc K Y cs (mj_O (fX1_joined_16 n h c l2 l3 l4 l5) P) 16 [(0, rf K c), (2, .int l2), (3, .int l3), (4, .int l4), (5, .int l5)] [] h := by
  intro n
  induction n with
  | zero => intro h l2 l3 l4 l5 kk0; exact mj_none
  | succ n ih =>
    intro h l2 l3 l4 l5 kk0
    rw [fX1_joined_16]
    refine mj_iload C 4 dX1_joined_16 rfl ?_
    refine mj_aload_n C 0 dX1_joined_18 (i := 0) rfl rfl ?_
    refine mj_getI C ff_X1_53 dX1_joined_19 (cn_o hc) rfl ?_
    refine mj_icmp_ge C 73 dX1_joined_22 (by decide) ?_ ?_
    · exact mj_sub [0, 1, 2, 3] rfl (mj_some (kk0 l2))
    · refine mj_iconst C (v := 1) dX1_joined_25 rfl ?_
      refine mj_aload_n C 0 dX1_joined_26 (i := 0) rfl rfl ?_
      refine mj_getR C ff_X1_15 dX1_joined_27 (cn_o hc) rfl ?_
      refine mj_iload C 4 dX1_joined_30 rfl ?_
      refine mj_iald C dX1_joined_32 (cn_6 hc) ?_
      refine mj_ishl C dX1_joined_33 ?_
      refine mj_iconst C (v := 1) dX1_joined_34 rfl ?_
      refine mj_aload_n C 0 dX1_joined_35 (i := 0) rfl rfl ?_
      refine mj_getR C ff_X1_18 dX1_joined_36 (cn_o hc) rfl ?_
      refine mj_iload C 4 dX1_joined_39 rfl ?_
      refine mj_iald C dX1_joined_41 (cn_7 hc) ?_
      refine mj_ishl C dX1_joined_42 ?_
      refine mj_ior C dX1_joined_43 ?_
      refine mj_istoreL C (fun l6_1 => [(6, .int l6_1), (0, rf K c), (2, .int l2), (3, .int l3), (4, .int l4), (5, .int l5)]) dX1_joined_44 (by decide) rfl (fun l6_1 => ?_)
      refine mj_iload_n C 2 dX1_joined_46 (i := 2) rfl rfl ?_
      refine mj_iload C 0 dX1_joined_47 rfl ?_
      refine mj_iand C dX1_joined_49 ?_
      refine mj_iload C 0 dX1_joined_50 rfl ?_
      refine mj_phi1 67 (fun (v_2 : Int32) => [(0, rf K c), (2, .int v_2), (3, .int l3), (4, .int l4), (5, .int l5)]) (fun (v_2 : Int32) => []) (fun (v_2 : Int32) => h) (fun P' kj_3 => ?_) (fun v_2 => ?_)
      · refine mj_icmp_ne C 67 dX1_joined_52 (by decide) ?_ ?_
        · exact mj_sub [1, 2, 3, 4, 5] rfl (mj_some (kj_3 l2))
        · refine mj_iload_n C 2 dX1_joined_55 (i := 2) rfl rfl ?_
          refine mj_iconst C (v := 1) dX1_joined_56 rfl ?_
          refine mj_aload_n C 1 dX1_joined_57 (i := 0) rfl rfl ?_
          refine mj_getR C ff_X1_21 dX1_joined_58 (cn_o hc) rfl ?_
          refine mj_iload C 5 dX1_joined_61 rfl ?_
          refine mj_iald C dX1_joined_63 (cn_8 hc) ?_
          refine mj_ishl C dX1_joined_64 ?_
          refine mj_ior C dX1_joined_65 ?_
          refine mj_istore_nL C (fun l2_4 => [(2, .int l2_4), (6, .int l6_1), (0, rf K c), (3, .int l3), (4, .int l4), (5, .int l5)]) dX1_joined_66 (i := 2) rfl (by decide) rfl (fun l2_4 => ?_)
          exact mj_sub [2, 0, 3, 4, 5] rfl (mj_some (kj_3 l2_4))
      · refine mj_iinc C (l5 + 1) 4 [(5, .int (l5 + 1)), (0, rf K c), (2, .int v_2), (3, .int l3), (4, .int l4)] dX1_joined_67 rfl rfl (by decide) rfl ?_
        refine mj_goto C 16 dX1_joined_70 (by decide) ?_
        exact mj_sub [1, 2, 3, 4, 0] rfl (ih h v_2 l3 l4 (l5 + 1) kk0)
noncomputable def fX1_joined_4 : Nat → Mm → Nat → Int32 → Int32 → Option (Int32)
  | 0, _, _, _, _ => none
  | n + 1, h, c, l2, l3 => (if (8 : Int32) ≤ l3 then some l2 else md_bd (fX1_joined_16 md_N h c l2 l3 l2 (0 : Int32)) (fun (v_5 : Int32) => (if v_5 = l2 then some v_5 else fX1_joined_4 n h c v_5 (l3 + 1))))
set_option maxRecDepth 100000 in
set_option maxHeartbeats 4000000 in
theorem lX1_joined_4 {K : Kx} {Y : Yx} {cs : Nat × Nat} (c : Nat) (hc : isCnt c) (C : Cx K Y cs cX1_joined RX1 7 0 0) {P : Int32 → Prop} : ∀ (n : Nat) (h : Mm) (l2 : Int32) (l3 : Int32), (∀ (w2 : Int32), J SHc K Y cs (P w2) 88 [(2, .int w2)] [] h) → J SHc K Y cs (mj_O (fX1_joined_4 n h c l2 l3) P) 4 [(0, rf K c), (2, .int l2), (3, .int l3)] [] h := by
  intro n
  induction n with
  | zero => intro h l2 l3 kk0; exact mj_none
  | succ n ih =>
    intro h l2 l3 kk0
    rw [fX1_joined_4]
    refine mj_iload_n C 2 dX1_joined_4 (i := 3) rfl rfl ?_
    refine mj_bipush C (v := 8) dX1_joined_5 rfl ?_
    refine mj_icmp_ge C 88 dX1_joined_7 (by decide) ?_ ?_
    · exact mj_sub [1] rfl (mj_some (kk0 l2))
    · refine mj_iload_n C 1 dX1_joined_10 (i := 2) rfl rfl ?_
      refine mj_istore C [(4, .int l2), (0, rf K c), (2, .int l2), (3, .int l3)] dX1_joined_11 (by decide) rfl ?_
      refine mj_iconst C (v := 0) dX1_joined_13 rfl ?_
      refine mj_istore C [(5, .int (0 : Int32)), (4, .int l2), (0, rf K c), (2, .int l2), (3, .int l3)] dX1_joined_14 (by decide) rfl ?_
      refine mj_phi1 73 (fun (v_5 : Int32) => [(0, rf K c), (2, .int v_5), (3, .int l3), (4, .int l2)]) (fun (v_5 : Int32) => []) (fun (v_5 : Int32) => h) (fun P' kj_6 => mj_sub [2, 3, 4, 1, 0] rfl (lX1_joined_16 c hc C md_N h l2 l3 l2 (0 : Int32) kj_6)) (fun v_5 => ?_)
      refine mj_iload_n C 1 dX1_joined_73 (i := 2) rfl rfl ?_
      refine mj_iload C 3 dX1_joined_74 rfl ?_
      refine mj_icmp_ne C 82 dX1_joined_76 (by decide) ?_ ?_
      · refine mj_iinc C (l3 + 1) 2 [(3, .int (l3 + 1)), (0, rf K c), (2, .int v_5), (4, .int l2)] dX1_joined_82 rfl rfl (by decide) rfl ?_
        refine mj_goto C 4 dX1_joined_85 (by decide) ?_
        exact mj_sub [1, 2, 0] rfl (ih h v_5 (l3 + 1) kk0)
      · refine mj_goto C 88 dX1_joined_79 (by decide) ?_
        exact mj_sub [1] rfl (mj_some (kk0 v_5))
noncomputable def fX1_joined (h : Mm) (c : Nat) (l1 : Int32) : Option (Int32) := md_bd (fX1_joined_4 md_N h c l1 (0 : Int32)) (fun (v_7 : Int32) => some v_7)
set_option maxRecDepth 100000 in
set_option maxHeartbeats 4000000 in
theorem ctX1_joined (K : Kx) (h : Mm) (c : Nat) (l1 : Int32) (hc : isCnt c) {a : Int32} (hF : fX1_joined h c l1 = some a) : Mt K yX1_joined cX1_joined 7 (some .int) 0 0 SHc [rf K c, .int l1] h (some (.int a)) h := by
  refine Mt.of hF [(0, rf K c), (1, .int l1)] (by decide) (Nat.le_of_ble_eq_true rfl) rfl (fun Y C N => ?_)
  have C : Cx K Y (0, 0) cX1_joined RX1 7 0 0 := C
  unfold fX1_joined
  refine mj_iload_n C 1 dX1_joined_0 (i := 1) rfl rfl ?_
  refine mj_istore_n C [(2, .int l1), (0, rf K c), (1, .int l1)] dX1_joined_1 (i := 2) rfl (by decide) rfl ?_
  refine mj_iconst C (v := 0) dX1_joined_2 rfl ?_
  refine mj_istore_n C [(3, .int (0 : Int32)), (2, .int l1), (0, rf K c), (1, .int l1)] dX1_joined_3 (i := 3) rfl (by decide) rfl ?_
  refine mj_phi1 88 (fun (v_7 : Int32) => [(2, .int v_7)]) (fun (v_7 : Int32) => []) (fun (v_7 : Int32) => h) (fun P' kj_8 => mj_sub [2, 1, 0] rfl (lX1_joined_4 c hc C md_N h l1 (0 : Int32) kj_8)) (fun v_7 => ?_)
  refine mj_iload_n C 0 dX1_joined_88 (i := 2) rfl rfl ?_
  exact mj_rI C N dX1_joined_89
noncomputable def fX1_findAllFrom_9 : Nat → Mm → Nat → Int32 → Int32 → Option (Mm)
  | 0, _, _, _, _ => none
  | n + 1, h, c, l1, l2 => (if l1 ≤ l2 then some h else md_bd ((if l2 = 0 then some (0 : Int32) else md_ck (md_in (l2 &&& (l2 - (1 : Int32))) 256) (some (l2 ||| (h (c + 9) ((l2 &&& (l2 - (1 : Int32)))).toNatClampNeg))))) (fun (v_2 : Int32) => md_bd (fX1_joined h c v_2) (fun r_4 => md_ck (md_in l2 256) (md_lt (md_up h (c + 9) (l2).toNatClampNeg r_4) (fun h_5 : Mm => fX1_findAllFrom_9 n h_5 c l1 (l2 + 1))))))
set_option maxRecDepth 100000 in
set_option maxHeartbeats 4000000 in
theorem lX1_findAllFrom_9 {K : Kx} {Y : Yx} {cs : Nat × Nat} (c : Nat) (hc : isCnt c) (C : Cx K Y cs cX1_findAllFrom RX1 3 1 26) {P : Mm → Prop} : ∀ (n : Nat) (h : Mm) (l1 : Int32) (l2 : Int32), (∀ (hw : Mm), J SHc K Y cs (P hw) 50 [] [] hw) → J SHc K Y cs (mj_O (fX1_findAllFrom_9 n h c l1 l2) P) 9 [(0, rf K c), (1, .int l1), (2, .int l2)] [] h := by
  intro n
  induction n with
  | zero => intro h l1 l2 kk0; exact mj_none
  | succ n ih =>
    intro h l1 l2 kk0
    rw [fX1_findAllFrom_9]
    refine mj_iload_n C 2 dX1_findAllFrom_9 (i := 2) rfl rfl ?_
    refine mj_iload_n C 1 dX1_findAllFrom_10 (i := 1) rfl rfl ?_
    refine mj_icmp_ge C 50 dX1_findAllFrom_11 (by decide) ?_ ?_
    · exact mj_sub [] rfl (mj_some (kk0 h))
    · refine mj_aload_n C 0 dX1_findAllFrom_14 (i := 0) rfl rfl ?_
      refine mj_getR C ff_X1_36 dX1_findAllFrom_15 (cn_o hc) rfl ?_
      refine mj_iload_n C 2 dX1_findAllFrom_18 (i := 2) rfl rfl ?_
      refine mj_aload_n C 0 dX1_findAllFrom_19 (i := 0) rfl rfl ?_
      refine mj_iload_n C 2 dX1_findAllFrom_20 (i := 2) rfl rfl ?_
      refine mj_phi1 40 (fun (v_2 : Int32) => [(0, rf K c), (1, .int l1), (2, .int l2)]) (fun (v_2 : Int32) => [.int v_2, rf K c, .int l2, rf K (c + 9)]) (fun (v_2 : Int32) => h) (fun P' kj_3 => ?_) (fun v_2 => ?_)
      · refine mj_if_ne C 28 dX1_findAllFrom_21 (by decide) ?_ ?_
        · refine mj_iload_n C 2 dX1_findAllFrom_28 (i := 2) rfl rfl ?_
          refine mj_aload_n C 0 dX1_findAllFrom_29 (i := 0) rfl rfl ?_
          refine mj_getR C ff_X1_36 dX1_findAllFrom_30 (cn_o hc) rfl ?_
          refine mj_iload_n C 2 dX1_findAllFrom_33 (i := 2) rfl rfl ?_
          refine mj_iload_n C 2 dX1_findAllFrom_34 (i := 2) rfl rfl ?_
          refine mj_iconst C (v := 1) dX1_findAllFrom_35 rfl ?_
          refine mj_isub C dX1_findAllFrom_36 ?_
          refine mj_iand C dX1_findAllFrom_37 ?_
          refine mj_iald C dX1_findAllFrom_38 (cn_16 hc) ?_
          refine mj_ior C dX1_findAllFrom_39 ?_
          exact mj_sub [0, 1, 2] rfl (mj_some (kj_3 (l2 ||| (h (c + 9) ((l2 &&& (l2 - (1 : Int32)))).toNatClampNeg))))
        · refine mj_iconst C (v := 0) dX1_findAllFrom_24 rfl ?_
          refine mj_goto C 40 dX1_findAllFrom_25 (by decide) ?_
          exact mj_sub [0, 1, 2] rfl (mj_some (kj_3 (0 : Int32)))
      · refine mj_vI C my_X1_joined mv_X1_65 dX1_findAllFrom_40 (cn_o hc) rfl (fun a hF => ctX1_joined K h c v_2 hc hF) (by decide) (by decide) rfl rfl (Nat.le_of_ble_eq_true rfl) (fun r_4 => ?_)
        refine mj_iast C dX1_findAllFrom_43 (cn_16 hc) (fun h_5 => ?_)
        refine mj_iinc C (l2 + 1) 2 [(2, .int (l2 + 1)), (0, rf K c), (1, .int l1)] dX1_findAllFrom_44 rfl rfl (by decide) rfl ?_
        refine mj_goto C 9 dX1_findAllFrom_47 (by decide) ?_
        exact mj_sub [1, 2, 0] rfl (ih h_5 l1 (l2 + 1) kk0)
noncomputable def fX1_findAllFrom (h : Mm) (c : Nat) : Option (Mm) := md_lt ((1 : Int32) <<< ((h c 3) &&& 31)) (fun l1_1 : Int32 => md_bd (fX1_findAllFrom_9 md_N h c l1_1 (0 : Int32)) (fun (h_6 : Mm) => some h_6))
set_option maxRecDepth 100000 in
set_option maxHeartbeats 4000000 in
theorem ctX1_findAllFrom (K : Kx) (h : Mm) (c : Nat) (hc : isCnt c) {a : Mm} (hF : fX1_findAllFrom h c = some a) : Mt K yX1_findAllFrom cX1_findAllFrom 3 none 1 26 SHc [rf K c] h none a := by
  refine Mt.of hF [(0, rf K c)] (by decide) (Nat.le_of_ble_eq_true rfl) rfl (fun Y C N => ?_)
  have C : Cx K Y (0, 0) cX1_findAllFrom RX1 3 1 26 := C
  unfold fX1_findAllFrom
  refine mj_iconst C (v := 1) dX1_findAllFrom_0 rfl ?_
  refine mj_aload_n C 0 dX1_findAllFrom_1 (i := 0) rfl rfl ?_
  refine mj_getI C ff_X1_50 dX1_findAllFrom_2 (cn_o hc) rfl ?_
  refine mj_ishl C dX1_findAllFrom_5 ?_
  refine mj_istore_nL C (fun l1_1 => [(1, .int l1_1), (0, rf K c)]) dX1_findAllFrom_6 (i := 1) rfl (by decide) rfl (fun l1_1 => ?_)
  refine mj_iconst C (v := 0) dX1_findAllFrom_7 rfl ?_
  refine mj_istore_n C [(2, .int (0 : Int32)), (1, .int l1_1), (0, rf K c)] dX1_findAllFrom_8 (i := 2) rfl (by decide) rfl ?_
  refine mj_phi1 50 (fun (h_6 : Mm) => []) (fun (h_6 : Mm) => []) (fun (h_6 : Mm) => h_6) (fun P' kj_7 => mj_sub [2, 1, 0] rfl (lX1_findAllFrom_9 c hc C md_N h l1_1 (0 : Int32) kj_7)) (fun h_6 => ?_)
  exact mj_rV C N dX1_findAllFrom_50
noncomputable def fX1_allFrom (h : Mm) (c : Nat) (l1 : Int32) : Option (Int32) := md_bd (fX1_isSet h c l1) (fun r_1 => md_bd ((if r_1 = true then md_ck (md_in l1 256) (some (h (c + 9) (l1).toNatClampNeg)) else some (0 : Int32))) (fun (v_2 : Int32) => some v_2))
set_option maxRecDepth 100000 in
set_option maxHeartbeats 4000000 in
theorem ctX1_allFrom (K : Kx) (h : Mm) (c : Nat) (l1 : Int32) (hc : isCnt c) {a : Int32} (hF : fX1_allFrom h c l1 = some a) : Mt K yX1_allFrom cX1_allFrom 2 (some .int) 1 21 SHc [rf K c, .int l1] h (some (.int a)) h := by
  refine Mt.of hF [(0, rf K c), (1, .int l1)] (by decide) (Nat.le_of_ble_eq_true rfl) rfl (fun Y C N => ?_)
  have C : Cx K Y (0, 0) cX1_allFrom RX1 2 1 21 := C
  unfold fX1_allFrom
  refine mj_aload_n C 0 dX1_allFrom_0 (i := 0) rfl rfl ?_
  refine mj_iload_n C 1 dX1_allFrom_1 (i := 1) rfl rfl ?_
  refine mj_vB C my_X1_isSet mv_X1_69 dX1_allFrom_2 (cn_o hc) rfl (fun a hF => ctX1_isSet K h c l1 hc hF) (by decide) (by decide) rfl rfl (Nat.le_of_ble_eq_true rfl) (fun r_1 => ?_)
  refine mj_phi1 18 (fun (v_2 : Int32) => []) (fun (v_2 : Int32) => [.int v_2]) (fun (v_2 : Int32) => h) (fun P' kj_3 => ?_) (fun v_2 => ?_)
  · refine mj_b_eq C 17 dX1_allFrom_5 (by decide) ?_ ?_
    · refine mj_iconst C (v := 0) dX1_allFrom_17 rfl ?_
      exact mj_sub [] rfl (mj_some (kj_3 (0 : Int32)))
    · refine mj_aload_n C 0 dX1_allFrom_8 (i := 0) rfl rfl ?_
      refine mj_getR C ff_X1_36 dX1_allFrom_9 (cn_o hc) rfl ?_
      refine mj_iload_n C 1 dX1_allFrom_12 (i := 1) rfl rfl ?_
      refine mj_iald C dX1_allFrom_13 (cn_16 hc) ?_
      refine mj_goto C 18 dX1_allFrom_14 (by decide) ?_
      exact mj_sub [] rfl (mj_some (kj_3 (h (c + 9) (l1).toNatClampNeg)))
  · exact mj_rI C N dX1_allFrom_18
noncomputable def fX1_sizeOf_4 : Nat → Mm → Nat → Int32 → Int32 → Int32 → Option (Int32)
  | 0, _, _, _, _, _ => none
  | n + 1, h, c, l1, l2, l3 => (if (h c 3) ≤ l3 then some l2 else md_bd ((if (l1 &&& ((1 : Int32) <<< (l3 &&& 31))) = 0 then some (0 : Int32) else md_ck (md_in l3 8) (some (h (c + 1) (l3).toNatClampNeg)))) (fun (v_1 : Int32) => md_lt (l2 + v_1) (fun l2_3 : Int32 => fX1_sizeOf_4 n h c l1 l2_3 (l3 + 1))))
set_option maxRecDepth 100000 in
set_option maxHeartbeats 4000000 in
theorem lX1_sizeOf_4 {K : Kx} {Y : Yx} {cs : Nat × Nat} (c : Nat) (hc : isCnt c) (C : Cx K Y cs cX1_sizeOf RX1 4 0 0) {P : Int32 → Prop} : ∀ (n : Nat) (h : Mm) (l1 : Int32) (l2 : Int32) (l3 : Int32), (∀ (w2 : Int32), J SHc K Y cs (P w2) 39 [(2, .int w2)] [] h) → J SHc K Y cs (mj_O (fX1_sizeOf_4 n h c l1 l2 l3) P) 4 [(0, rf K c), (1, .int l1), (2, .int l2), (3, .int l3)] [] h := by
  intro n
  induction n with
  | zero => intro h l1 l2 l3 kk0; exact mj_none
  | succ n ih =>
    intro h l1 l2 l3 kk0
    rw [fX1_sizeOf_4]
    refine mj_iload_n C 3 dX1_sizeOf_4 (i := 3) rfl rfl ?_
    refine mj_aload_n C 0 dX1_sizeOf_5 (i := 0) rfl rfl ?_
    refine mj_getI C ff_X1_50 dX1_sizeOf_6 (cn_o hc) rfl ?_
    refine mj_icmp_ge C 39 dX1_sizeOf_9 (by decide) ?_ ?_
    · exact mj_sub [2] rfl (mj_some (kk0 l2))
    · refine mj_iload_n C 2 dX1_sizeOf_12 (i := 2) rfl rfl ?_
      refine mj_iload_n C 1 dX1_sizeOf_13 (i := 1) rfl rfl ?_
      refine mj_iconst C (v := 1) dX1_sizeOf_14 rfl ?_
      refine mj_iload_n C 3 dX1_sizeOf_15 (i := 3) rfl rfl ?_
      refine mj_ishl C dX1_sizeOf_16 ?_
      refine mj_iand C dX1_sizeOf_17 ?_
      refine mj_phi1 31 (fun (v_1 : Int32) => [(0, rf K c), (1, .int l1), (3, .int l3)]) (fun (v_1 : Int32) => [.int v_1, .int l2]) (fun (v_1 : Int32) => h) (fun P' kj_2 => ?_) (fun v_1 => ?_)
      · refine mj_if_eq C 30 dX1_sizeOf_18 (by decide) ?_ ?_
        · refine mj_iconst C (v := 0) dX1_sizeOf_30 rfl ?_
          exact mj_sub [0, 1, 3] rfl (mj_some (kj_2 (0 : Int32)))
        · refine mj_aload_n C 0 dX1_sizeOf_21 (i := 0) rfl rfl ?_
          refine mj_getR C ff_X1_9 dX1_sizeOf_22 (cn_o hc) rfl ?_
          refine mj_iload_n C 3 dX1_sizeOf_25 (i := 3) rfl rfl ?_
          refine mj_iald C dX1_sizeOf_26 (cn_4 hc) ?_
          refine mj_goto C 31 dX1_sizeOf_27 (by decide) ?_
          exact mj_sub [0, 1, 3] rfl (mj_some (kj_2 (h (c + 1) (l3).toNatClampNeg)))
      · refine mj_iadd C dX1_sizeOf_31 ?_
        refine mj_istore_nL C (fun l2_3 => [(2, .int l2_3), (0, rf K c), (1, .int l1), (3, .int l3)]) dX1_sizeOf_32 (i := 2) rfl (by decide) rfl (fun l2_3 => ?_)
        refine mj_iinc C (l3 + 1) 3 [(3, .int (l3 + 1)), (2, .int l2_3), (0, rf K c), (1, .int l1)] dX1_sizeOf_33 rfl rfl (by decide) rfl ?_
        refine mj_goto C 4 dX1_sizeOf_36 (by decide) ?_
        exact mj_sub [2, 3, 1, 0] rfl (ih h l1 l2_3 (l3 + 1) kk0)
noncomputable def fX1_sizeOf (h : Mm) (c : Nat) (l1 : Int32) : Option (Int32) := md_bd (fX1_sizeOf_4 md_N h c l1 (0 : Int32) (0 : Int32)) (fun (v_4 : Int32) => some v_4)
set_option maxRecDepth 100000 in
set_option maxHeartbeats 4000000 in
theorem ctX1_sizeOf (K : Kx) (h : Mm) (c : Nat) (l1 : Int32) (hc : isCnt c) {a : Int32} (hF : fX1_sizeOf h c l1 = some a) : Mt K yX1_sizeOf cX1_sizeOf 4 (some .int) 0 0 SHc [rf K c, .int l1] h (some (.int a)) h := by
  refine Mt.of hF [(0, rf K c), (1, .int l1)] (by decide) (Nat.le_of_ble_eq_true rfl) rfl (fun Y C N => ?_)
  have C : Cx K Y (0, 0) cX1_sizeOf RX1 4 0 0 := C
  unfold fX1_sizeOf
  refine mj_iconst C (v := 0) dX1_sizeOf_0 rfl ?_
  refine mj_istore_n C [(2, .int (0 : Int32)), (0, rf K c), (1, .int l1)] dX1_sizeOf_1 (i := 2) rfl (by decide) rfl ?_
  refine mj_iconst C (v := 0) dX1_sizeOf_2 rfl ?_
  refine mj_istore_n C [(3, .int (0 : Int32)), (2, .int (0 : Int32)), (0, rf K c), (1, .int l1)] dX1_sizeOf_3 (i := 3) rfl (by decide) rfl ?_
  refine mj_phi1 39 (fun (v_4 : Int32) => [(2, .int v_4)]) (fun (v_4 : Int32) => []) (fun (v_4 : Int32) => h) (fun P' kj_5 => mj_sub [2, 3, 1, 0] rfl (lX1_sizeOf_4 c hc C md_N h l1 (0 : Int32) (0 : Int32) kj_5)) (fun v_4 => ?_)
  refine mj_iload_n C 0 dX1_sizeOf_39 (i := 2) rfl rfl ?_
  exact mj_rI C N dX1_sizeOf_40
noncomputable def fX1_isStuck (h : Mm) (c : Nat) (l1 : Int32) : Option (Bool) := md_bd (fX1_sizeOf h c l1) (fun r_1 => md_bd ((if r_1 ≤ (h c 1) then some false else some true)) (fun (v_2 : Bool) => some v_2))
set_option maxRecDepth 100000 in
set_option maxHeartbeats 4000000 in
theorem ctX1_isStuck (K : Kx) (h : Mm) (c : Nat) (l1 : Int32) (hc : isCnt c) {a : Bool} (hF : fX1_isStuck h c l1 = some a) : Mt K yX1_isStuck cX1_isStuck 2 (some .boolean) 1 23 SHc [rf K c, .int l1] h (some (.int (md_bi a))) h := by
  refine Mt.of hF [(0, rf K c), (1, .int l1)] (by decide) (Nat.le_of_ble_eq_true rfl) rfl (fun Y C N => ?_)
  have C : Cx K Y (0, 0) cX1_isStuck RX1 2 1 23 := C
  unfold fX1_isStuck
  refine mj_aload_n C 0 dX1_isStuck_0 (i := 0) rfl rfl ?_
  refine mj_iload_n C 1 dX1_isStuck_1 (i := 1) rfl rfl ?_
  refine mj_vI C my_X1_sizeOf mv_X1_73 dX1_isStuck_2 (cn_o hc) rfl (fun a hF => ctX1_sizeOf K h c l1 hc hF) (by decide) (by decide) rfl rfl (Nat.le_of_ble_eq_true rfl) (fun r_1 => ?_)
  refine mj_aload_n C 0 dX1_isStuck_5 (i := 0) rfl rfl ?_
  refine mj_getI C ff_X1_43 dX1_isStuck_6 (cn_o hc) rfl ?_
  refine mj_phi1 17 (fun (v_2 : Bool) => []) (fun (v_2 : Bool) => [.int (md_bi v_2)]) (fun (v_2 : Bool) => h) (fun P' kj_3 => ?_) (fun v_2 => ?_)
  · refine mj_icmp_le C 16 dX1_isStuck_9 (by decide) ?_ ?_
    · refine mj_iconst C (v := 0) dX1_isStuck_16 rfl ?_
      exact mj_sub [] rfl (mj_some (kj_3 false))
    · refine mj_iconst C (v := 1) dX1_isStuck_12 rfl ?_
      refine mj_goto C 17 dX1_isStuck_13 (by decide) ?_
      exact mj_sub [] rfl (mj_some (kj_3 true))
  · exact mj_rZ C N dX1_isStuck_17
noncomputable def fX1_duty_5 : Nat → Mm → Nat → Int32 → Int32 → Int32 → Int32 → Option (Int32)
  | 0, _, _, _, _, _, _ => none
  | n + 1, h, c, l1, l2, l3, l4 => (if (h c 3) ≤ l4 then some l3 else md_lt ((1 : Int32) <<< (l4 &&& 31)) (fun l5_1 : Int32 => md_bd ((if ((l1 &&& (l2 ^^^ (-1 : Int32))) &&& l5_1) = 0 then some l3 else md_bd (fX1_allFrom h c (l1 &&& (l5_1 ^^^ (-1 : Int32)))) (fun r_4 => md_bd ((if (r_4 &&& l5_1) = 0 then some false else some true)) (fun (v_5 : Bool) => md_bd ((if v_5 = true then md_ck (md_in l4 8) (some ((h (c + 1) (l4).toNatClampNeg) / (2 : Int32))) else md_ck (md_in l4 8) (some (h (c + 1) (l4).toNatClampNeg)))) (fun (v_7 : Int32) => md_lt (l3 + v_7) (fun l3_9 : Int32 => some l3_9)))))) (fun (v_2 : Int32) => fX1_duty_5 n h c l1 l2 v_2 (l4 + 1))))
set_option maxRecDepth 100000 in
set_option maxHeartbeats 4000000 in
theorem lX1_duty_5 {K : Kx} {Y : Yx} {cs : Nat × Nat} (c : Nat) (hc : isCnt c) (C : Cx K Y cs cX1_duty RX1 7 2 42) {P : Int32 → Prop} : ∀ (n : Nat) (h : Mm) (l1 : Int32) (l2 : Int32) (l3 : Int32) (l4 : Int32), (∀ (w3 : Int32), J SHc K Y cs (P w3) 87 [(3, .int w3)] [] h) → J SHc K Y cs (mj_O (fX1_duty_5 n h c l1 l2 l3 l4) P) 5 [(0, rf K c), (1, .int l1), (2, .int l2), (3, .int l3), (4, .int l4)] [] h := by
  intro n
  induction n with
  | zero => intro h l1 l2 l3 l4 kk0; exact mj_none
  | succ n ih =>
    intro h l1 l2 l3 l4 kk0
    rw [fX1_duty_5]
    refine mj_iload C 4 dX1_duty_5 rfl ?_
    refine mj_aload_n C 0 dX1_duty_7 (i := 0) rfl rfl ?_
    refine mj_getI C ff_X1_50 dX1_duty_8 (cn_o hc) rfl ?_
    refine mj_icmp_ge C 87 dX1_duty_11 (by decide) ?_ ?_
    · exact mj_sub [3] rfl (mj_some (kk0 l3))
    · refine mj_iconst C (v := 1) dX1_duty_14 rfl ?_
      refine mj_iload C 4 dX1_duty_15 rfl ?_
      refine mj_ishl C dX1_duty_17 ?_
      refine mj_istoreL C (fun l5_1 => [(5, .int l5_1), (0, rf K c), (1, .int l1), (2, .int l2), (3, .int l3), (4, .int l4)]) dX1_duty_18 (by decide) rfl (fun l5_1 => ?_)
      refine mj_iload_n C 2 dX1_duty_20 (i := 1) rfl rfl ?_
      refine mj_iload_n C 3 dX1_duty_21 (i := 2) rfl rfl ?_
      refine mj_iconst C (v := -1) dX1_duty_22 rfl ?_
      refine mj_ixor C dX1_duty_23 ?_
      refine mj_iand C dX1_duty_24 ?_
      refine mj_iload C 0 dX1_duty_25 rfl ?_
      refine mj_iand C dX1_duty_27 ?_
      refine mj_phi1 81 (fun (v_2 : Int32) => [(0, rf K c), (1, .int l1), (2, .int l2), (3, .int v_2), (4, .int l4)]) (fun (v_2 : Int32) => []) (fun (v_2 : Int32) => h) (fun P' kj_3 => ?_) (fun v_2 => ?_)
      · refine mj_if_eq C 81 dX1_duty_28 (by decide) ?_ ?_
        · exact mj_sub [1, 2, 3, 4, 5] rfl (mj_some (kj_3 l3))
        · refine mj_aload_n C 1 dX1_duty_31 (i := 0) rfl rfl ?_
          refine mj_iload_n C 2 dX1_duty_32 (i := 1) rfl rfl ?_
          refine mj_iload C 0 dX1_duty_33 rfl ?_
          refine mj_iconst C (v := -1) dX1_duty_35 rfl ?_
          refine mj_ixor C dX1_duty_36 ?_
          refine mj_iand C dX1_duty_37 ?_
          refine mj_vI C my_X1_allFrom mv_X1_76 dX1_duty_38 (cn_o hc) rfl (fun a hF => ctX1_allFrom K h c (l1 &&& (l5_1 ^^^ (-1 : Int32))) hc hF) (by decide) (by decide) rfl rfl (Nat.le_of_ble_eq_true rfl) (fun r_4 => ?_)
          refine mj_iload C 0 dX1_duty_41 rfl ?_
          refine mj_iand C dX1_duty_43 ?_
          refine mj_phi1 52 (fun (v_5 : Bool) => [(0, rf K c), (1, .int l1), (2, .int l2), (3, .int l3), (4, .int l4)]) (fun (v_5 : Bool) => [.int (md_bi v_5)]) (fun (v_5 : Bool) => h) (fun P' kj_6 => ?_) (fun v_5 => ?_)
          · refine mj_if_eq C 51 dX1_duty_44 (by decide) ?_ ?_
            · refine mj_iconst C (v := 0) dX1_duty_51 rfl ?_
              exact mj_sub [1, 2, 3, 4, 5] rfl (mj_some (kj_6 false))
            · refine mj_iconst C (v := 1) dX1_duty_47 rfl ?_
              refine mj_goto C 52 dX1_duty_48 (by decide) ?_
              exact mj_sub [1, 2, 3, 4, 5] rfl (mj_some (kj_6 true))
          · refine mj_istore C [(6, .int (md_bi v_5)), (0, rf K c), (1, .int l1), (2, .int l2), (3, .int l3), (4, .int l4)] dX1_duty_52 (by decide) rfl ?_
            refine mj_iload_n C 4 dX1_duty_54 (i := 3) rfl rfl ?_
            refine mj_iload C 0 dX1_duty_55 rfl ?_
            refine mj_phi1 79 (fun (v_7 : Int32) => [(0, rf K c), (1, .int l1), (2, .int l2), (4, .int l4)]) (fun (v_7 : Int32) => [.int v_7, .int l3]) (fun (v_7 : Int32) => h) (fun P' kj_8 => ?_) (fun v_7 => ?_)
            · refine mj_b_eq C 72 dX1_duty_57 (by decide) ?_ ?_
              · refine mj_aload_n C 1 dX1_duty_72 (i := 0) rfl rfl ?_
                refine mj_getR C ff_X1_9 dX1_duty_73 (cn_o hc) rfl ?_
                refine mj_iload C 5 dX1_duty_76 rfl ?_
                refine mj_iald C dX1_duty_78 (cn_4 hc) ?_
                exact mj_sub [1, 2, 3, 5] rfl (mj_some (kj_8 (h (c + 1) (l4).toNatClampNeg)))
              · refine mj_aload_n C 1 dX1_duty_60 (i := 0) rfl rfl ?_
                refine mj_getR C ff_X1_9 dX1_duty_61 (cn_o hc) rfl ?_
                refine mj_iload C 5 dX1_duty_64 rfl ?_
                refine mj_iald C dX1_duty_66 (cn_4 hc) ?_
                refine mj_iconst C (v := 2) dX1_duty_67 rfl ?_
                refine mj_idiv C dX1_duty_68 (by decide) ?_
                refine mj_goto C 79 dX1_duty_69 (by decide) ?_
                exact mj_sub [1, 2, 3, 5] rfl (mj_some (kj_8 ((h (c + 1) (l4).toNatClampNeg) / (2 : Int32))))
            · refine mj_iadd C dX1_duty_79 ?_
              refine mj_istore_nL C (fun l3_9 => [(3, .int l3_9), (0, rf K c), (1, .int l1), (2, .int l2), (4, .int l4)]) dX1_duty_80 (i := 3) rfl (by decide) rfl (fun l3_9 => ?_)
              exact mj_sub [1, 2, 3, 0, 4] rfl (mj_some (kj_3 l3_9))
      · refine mj_iinc C (l4 + 1) 4 [(4, .int (l4 + 1)), (0, rf K c), (1, .int l1), (2, .int l2), (3, .int v_2)] dX1_duty_81 rfl rfl (by decide) rfl ?_
        refine mj_goto C 5 dX1_duty_84 (by decide) ?_
        exact mj_sub [1, 2, 3, 4, 0] rfl (ih h l1 l2 v_2 (l4 + 1) kk0)
noncomputable def fX1_duty (h : Mm) (c : Nat) (l1 : Int32) (l2 : Int32) : Option (Int32) := md_bd (fX1_duty_5 md_N h c l1 l2 (0 : Int32) (0 : Int32)) (fun (v_10 : Int32) => some v_10)
set_option maxRecDepth 100000 in
set_option maxHeartbeats 4000000 in
theorem ctX1_duty (K : Kx) (h : Mm) (c : Nat) (l1 : Int32) (l2 : Int32) (hc : isCnt c) {a : Int32} (hF : fX1_duty h c l1 l2 = some a) : Mt K yX1_duty cX1_duty 7 (some .int) 2 42 SHc [rf K c, .int l1, .int l2] h (some (.int a)) h := by
  refine Mt.of hF [(0, rf K c), (1, .int l1), (2, .int l2)] (by decide) (Nat.le_of_ble_eq_true rfl) rfl (fun Y C N => ?_)
  have C : Cx K Y (0, 0) cX1_duty RX1 7 2 42 := C
  unfold fX1_duty
  refine mj_iconst C (v := 0) dX1_duty_0 rfl ?_
  refine mj_istore_n C [(3, .int (0 : Int32)), (0, rf K c), (1, .int l1), (2, .int l2)] dX1_duty_1 (i := 3) rfl (by decide) rfl ?_
  refine mj_iconst C (v := 0) dX1_duty_2 rfl ?_
  refine mj_istore C [(4, .int (0 : Int32)), (3, .int (0 : Int32)), (0, rf K c), (1, .int l1), (2, .int l2)] dX1_duty_3 (by decide) rfl ?_
  refine mj_phi1 87 (fun (v_10 : Int32) => [(3, .int v_10)]) (fun (v_10 : Int32) => []) (fun (v_10 : Int32) => h) (fun P' kj_11 => mj_sub [2, 3, 4, 1, 0] rfl (lX1_duty_5 c hc C md_N h l1 l2 (0 : Int32) (0 : Int32) kj_11)) (fun v_10 => ?_)
  refine mj_iload_n C 0 dX1_duty_87 (i := 3) rfl rfl ?_
  exact mj_rI C N dX1_duty_88
noncomputable def fX1_quickest_5 : Nat → Mm → Nat → Int32 → Int32 → Int32 → Int32 → Option (Int32)
  | 0, _, _, _, _, _, _ => none
  | n + 1, h, c, l1, l2, l3, l4 => (if (h c 9) ≤ l4 then some l3 else md_ck (md_in l4 10) (md_bd ((if (h (c + 5) (l4).toNatClampNeg) = l1 then md_ck (md_in l4 10) ((if (h (c + 6) (l4).toNatClampNeg) = l2 then some true else some false)) else some false)) (fun (v_1 : Bool) => md_bd ((if v_1 = true then (if l3 = (-1 : Int32) then md_ck (md_in l4 10) (md_lt (h (c + 7) (l4).toNatClampNeg) (fun l3_5 : Int32 => some l3_5)) else md_ck (md_in l4 10) ((if l3 ≤ (h (c + 7) (l4).toNatClampNeg) then some l3 else md_ck (md_in l4 10) (md_lt (h (c + 7) (l4).toNatClampNeg) (fun l3_6 : Int32 => some l3_6))))) else some l3)) (fun (v_3 : Int32) => fX1_quickest_5 n h c l1 l2 v_3 (l4 + 1)))))
set_option maxRecDepth 100000 in
set_option maxHeartbeats 4000000 in
theorem lX1_quickest_5 {K : Kx} {Y : Yx} {cs : Nat × Nat} (c : Nat) (hc : isCnt c) (C : Cx K Y cs cX1_quickest RX1 6 0 0) {P : Int32 → Prop} : ∀ (n : Nat) (h : Mm) (l1 : Int32) (l2 : Int32) (l3 : Int32) (l4 : Int32), (∀ (w3 : Int32), J SHc K Y cs (P w3) 78 [(3, .int w3)] [] h) → J SHc K Y cs (mj_O (fX1_quickest_5 n h c l1 l2 l3 l4) P) 5 [(0, rf K c), (1, .int l1), (2, .int l2), (3, .int l3), (4, .int l4)] [] h := by
  intro n
  induction n with
  | zero => intro h l1 l2 l3 l4 kk0; exact mj_none
  | succ n ih =>
    intro h l1 l2 l3 l4 kk0
    rw [fX1_quickest_5]
    refine mj_iload C 4 dX1_quickest_5 rfl ?_
    refine mj_aload_n C 0 dX1_quickest_7 (i := 0) rfl rfl ?_
    refine mj_getI C ff_X1_56 dX1_quickest_8 (cn_o hc) rfl ?_
    refine mj_icmp_ge C 78 dX1_quickest_11 (by decide) ?_ ?_
    · exact mj_sub [3] rfl (mj_some (kk0 l3))
    · refine mj_aload_n C 0 dX1_quickest_14 (i := 0) rfl rfl ?_
      refine mj_getR C ff_X1_24 dX1_quickest_15 (cn_o hc) rfl ?_
      refine mj_iload C 4 dX1_quickest_18 rfl ?_
      refine mj_iald C dX1_quickest_20 (cn_10 hc) ?_
      refine mj_iload_n C 1 dX1_quickest_21 (i := 1) rfl rfl ?_
      refine mj_phi1 41 (fun (v_1 : Bool) => [(0, rf K c), (1, .int l1), (2, .int l2), (3, .int l3), (4, .int l4)]) (fun (v_1 : Bool) => [.int (md_bi v_1)]) (fun (v_1 : Bool) => h) (fun P' kj_2 => ?_) (fun v_1 => ?_)
      · refine mj_icmp_ne C 40 dX1_quickest_22 (by decide) ?_ ?_
        · refine mj_iconst C (v := 0) dX1_quickest_40 rfl ?_
          exact mj_sub [0, 1, 2, 3, 4] rfl (mj_some (kj_2 false))
        · refine mj_aload_n C 0 dX1_quickest_25 (i := 0) rfl rfl ?_
          refine mj_getR C ff_X1_27 dX1_quickest_26 (cn_o hc) rfl ?_
          refine mj_iload C 4 dX1_quickest_29 rfl ?_
          refine mj_iald C dX1_quickest_31 (cn_11 hc) ?_
          refine mj_iload_n C 2 dX1_quickest_32 (i := 2) rfl rfl ?_
          refine mj_icmp_ne C 40 dX1_quickest_33 (by decide) ?_ ?_
          · refine mj_iconst C (v := 0) dX1_quickest_40 rfl ?_
            exact mj_sub [0, 1, 2, 3, 4] rfl (mj_some (kj_2 false))
          · refine mj_iconst C (v := 1) dX1_quickest_36 rfl ?_
            refine mj_goto C 41 dX1_quickest_37 (by decide) ?_
            exact mj_sub [0, 1, 2, 3, 4] rfl (mj_some (kj_2 true))
      · refine mj_istore C [(5, .int (md_bi v_1)), (0, rf K c), (1, .int l1), (2, .int l2), (3, .int l3), (4, .int l4)] dX1_quickest_41 (by decide) rfl ?_
        refine mj_iload C 0 dX1_quickest_43 rfl ?_
        refine mj_phi1 72 (fun (v_3 : Int32) => [(0, rf K c), (1, .int l1), (2, .int l2), (3, .int v_3), (4, .int l4)]) (fun (v_3 : Int32) => []) (fun (v_3 : Int32) => h) (fun P' kj_4 => ?_) (fun v_3 => ?_)
        · refine mj_b_eq C 72 dX1_quickest_45 (by decide) ?_ ?_
          · exact mj_sub [1, 2, 3, 4, 5] rfl (mj_some (kj_4 l3))
          · refine mj_iload_n C 4 dX1_quickest_48 (i := 3) rfl rfl ?_
            refine mj_iconst C (v := -1) dX1_quickest_49 rfl ?_
            refine mj_icmp_eq C 64 dX1_quickest_50 (by decide) ?_ ?_
            · refine mj_aload_n C 1 dX1_quickest_64 (i := 0) rfl rfl ?_
              refine mj_getR C ff_X1_30 dX1_quickest_65 (cn_o hc) rfl ?_
              refine mj_iload C 5 dX1_quickest_68 rfl ?_
              refine mj_iald C dX1_quickest_70 (cn_12 hc) ?_
              refine mj_istore_nL C (fun l3_5 => [(3, .int l3_5), (5, .int (md_bi v_1)), (0, rf K c), (1, .int l1), (2, .int l2), (4, .int l4)]) dX1_quickest_71 (i := 3) rfl (by decide) rfl (fun l3_5 => ?_)
              exact mj_sub [2, 3, 4, 0, 5] rfl (mj_some (kj_4 l3_5))
            · refine mj_aload_n C 1 dX1_quickest_53 (i := 0) rfl rfl ?_
              refine mj_getR C ff_X1_30 dX1_quickest_54 (cn_o hc) rfl ?_
              refine mj_iload C 5 dX1_quickest_57 rfl ?_
              refine mj_iald C dX1_quickest_59 (cn_12 hc) ?_
              refine mj_iload_n C 4 dX1_quickest_60 (i := 3) rfl rfl ?_
              refine mj_icmp_ge C 72 dX1_quickest_61 (by decide) ?_ ?_
              · exact mj_sub [1, 2, 3, 4, 5] rfl (mj_some (kj_4 l3))
              · refine mj_aload_n C 1 dX1_quickest_64 (i := 0) rfl rfl ?_
                refine mj_getR C ff_X1_30 dX1_quickest_65 (cn_o hc) rfl ?_
                refine mj_iload C 5 dX1_quickest_68 rfl ?_
                refine mj_iald C dX1_quickest_70 (cn_12 hc) ?_
                refine mj_istore_nL C (fun l3_6 => [(3, .int l3_6), (5, .int (md_bi v_1)), (0, rf K c), (1, .int l1), (2, .int l2), (4, .int l4)]) dX1_quickest_71 (i := 3) rfl (by decide) rfl (fun l3_6 => ?_)
                exact mj_sub [2, 3, 4, 0, 5] rfl (mj_some (kj_4 l3_6))
        · refine mj_iinc C (l4 + 1) 4 [(4, .int (l4 + 1)), (0, rf K c), (1, .int l1), (2, .int l2), (3, .int v_3)] dX1_quickest_72 rfl rfl (by decide) rfl ?_
          refine mj_goto C 5 dX1_quickest_75 (by decide) ?_
          exact mj_sub [1, 2, 3, 4, 0] rfl (ih h l1 l2 v_3 (l4 + 1) kk0)
noncomputable def fX1_quickest (h : Mm) (c : Nat) (l1 : Int32) (l2 : Int32) : Option (Int32) := md_bd (fX1_quickest_5 md_N h c l1 l2 (-1 : Int32) (0 : Int32)) (fun (v_7 : Int32) => some v_7)
set_option maxRecDepth 100000 in
set_option maxHeartbeats 4000000 in
theorem ctX1_quickest (K : Kx) (h : Mm) (c : Nat) (l1 : Int32) (l2 : Int32) (hc : isCnt c) {a : Int32} (hF : fX1_quickest h c l1 l2 = some a) : Mt K yX1_quickest cX1_quickest 6 (some .int) 0 0 SHc [rf K c, .int l1, .int l2] h (some (.int a)) h := by
  refine Mt.of hF [(0, rf K c), (1, .int l1), (2, .int l2)] (by decide) (Nat.le_of_ble_eq_true rfl) rfl (fun Y C N => ?_)
  have C : Cx K Y (0, 0) cX1_quickest RX1 6 0 0 := C
  unfold fX1_quickest
  refine mj_iconst C (v := -1) dX1_quickest_0 rfl ?_
  refine mj_istore_n C [(3, .int (-1 : Int32)), (0, rf K c), (1, .int l1), (2, .int l2)] dX1_quickest_1 (i := 3) rfl (by decide) rfl ?_
  refine mj_iconst C (v := 0) dX1_quickest_2 rfl ?_
  refine mj_istore C [(4, .int (0 : Int32)), (3, .int (-1 : Int32)), (0, rf K c), (1, .int l1), (2, .int l2)] dX1_quickest_3 (by decide) rfl ?_
  refine mj_phi1 78 (fun (v_7 : Int32) => [(3, .int v_7)]) (fun (v_7 : Int32) => []) (fun (v_7 : Int32) => h) (fun P' kj_8 => mj_sub [2, 3, 4, 1, 0] rfl (lX1_quickest_5 c hc C md_N h l1 l2 (-1 : Int32) (0 : Int32) kj_8)) (fun v_7 => ?_)
  refine mj_iload_n C 0 dX1_quickest_78 (i := 3) rfl rfl ?_
  exact mj_rI C N dX1_quickest_79
noncomputable def fX1_findMinutes_2 : Nat → Mm → Nat → Nat → Nat → Int32 → Int32 → Option (Mm)
  | 0, _, _, _, _, _, _ => none
  | n + 1, h, c, a2, n2, l1, l3 => (if (8 : Int32) ≤ l3 then some h else md_bd ((if l3 = l1 then some (0 : Int32) else some (-1 : Int32))) (fun (v_1 : Int32) => md_ck (md_in l3 n2) (md_lt (md_up h a2 (l3).toNatClampNeg v_1) (fun h_3 : Mm => fX1_findMinutes_2 n h_3 c a2 n2 l1 (l3 + 1)))))
set_option maxRecDepth 100000 in
set_option maxHeartbeats 4000000 in
theorem lX1_findMinutes_2 {K : Kx} {Y : Yx} {cs : Nat × Nat} (c : Nat) (a2 : Nat) (n2 : Nat) (hc : isCnt c) (ha2 : SHc[a2]? = some (.inr (0, n2, 0, 0))) (C : Cx K Y cs cX1_findMinutes RX1 7 0 0) {P : Mm → Prop} : ∀ (n : Nat) (h : Mm) (l1 : Int32) (l3 : Int32), (∀ (hw : Mm), J SHc K Y cs (P hw) 27 [(0, rf K c), (2, rf K a2)] [] hw) → J SHc K Y cs (mj_O (fX1_findMinutes_2 n h c a2 n2 l1 l3) P) 2 [(0, rf K c), (1, .int l1), (2, rf K a2), (3, .int l3)] [] h := by
  intro n
  induction n with
  | zero => intro h l1 l3 kk0; exact mj_none
  | succ n ih =>
    intro h l1 l3 kk0
    rw [fX1_findMinutes_2]
    refine mj_iload_n C 3 dX1_findMinutes_2 (i := 3) rfl rfl ?_
    refine mj_bipush C (v := 8) dX1_findMinutes_3 rfl ?_
    refine mj_icmp_ge C 27 dX1_findMinutes_5 (by decide) ?_ ?_
    · exact mj_sub [0, 2] rfl (mj_some (kk0 h))
    · refine mj_aload_n C 2 dX1_findMinutes_8 (i := 2) rfl rfl ?_
      refine mj_iload_n C 3 dX1_findMinutes_9 (i := 3) rfl rfl ?_
      refine mj_iload_n C 3 dX1_findMinutes_10 (i := 3) rfl rfl ?_
      refine mj_iload_n C 1 dX1_findMinutes_11 (i := 1) rfl rfl ?_
      refine mj_phi1 20 (fun (v_1 : Int32) => [(0, rf K c), (1, .int l1), (2, rf K a2), (3, .int l3)]) (fun (v_1 : Int32) => [.int v_1, .int l3, rf K a2]) (fun (v_1 : Int32) => h) (fun P' kj_2 => ?_) (fun v_1 => ?_)
      · refine mj_icmp_ne C 19 dX1_findMinutes_12 (by decide) ?_ ?_
        · refine mj_iconst C (v := -1) dX1_findMinutes_19 rfl ?_
          exact mj_sub [0, 1, 2, 3] rfl (mj_some (kj_2 (-1 : Int32)))
        · refine mj_iconst C (v := 0) dX1_findMinutes_15 rfl ?_
          refine mj_goto C 20 dX1_findMinutes_16 (by decide) ?_
          exact mj_sub [0, 1, 2, 3] rfl (mj_some (kj_2 (0 : Int32)))
      · refine mj_iast C dX1_findMinutes_20 ha2 (fun h_3 => ?_)
        refine mj_iinc C (l3 + 1) 3 [(3, .int (l3 + 1)), (0, rf K c), (1, .int l1), (2, rf K a2)] dX1_findMinutes_21 rfl rfl (by decide) rfl ?_
        refine mj_goto C 2 dX1_findMinutes_24 (by decide) ?_
        exact mj_sub [1, 2, 3, 0] rfl (ih h_3 l1 (l3 + 1) kk0)
noncomputable def fX1_findMinutes_40 : Nat → Mm → Nat → Nat → Nat → Int32 → Int32 → Option (Mm)
  | 0, _, _, _, _, _, _ => none
  | n + 1, h, c, a2, n2, l3, l4 => (if (h c 9) ≤ l4 then some h else md_ck (md_in l4 10) (md_ck (md_in (h (c + 6) (l4).toNatClampNeg) n2) (md_lt (h a2 ((h (c + 6) (l4).toNatClampNeg)).toNatClampNeg) (fun l5_5 : Int32 => md_ck (md_in l4 10) (md_ck (md_in (h (c + 5) (l4).toNatClampNeg) n2) (md_lt (h a2 ((h (c + 5) (l4).toNatClampNeg)).toNatClampNeg) (fun l6_6 : Int32 => md_bd ((if l5_5 = (-1 : Int32) then some h else (if l6_6 = (-1 : Int32) then md_ck (md_in l4 10) (md_ck (md_in l4 10) (md_ck (md_in (h (c + 5) (l4).toNatClampNeg) n2) (md_lt (md_up h a2 ((h (c + 5) (l4).toNatClampNeg)).toNatClampNeg ((h (c + 7) (l4).toNatClampNeg) + l5_5)) (fun h_9 : Mm => some h_9)))) else md_ck (md_in l4 10) ((if l6_6 ≤ ((h (c + 7) (l4).toNatClampNeg) + l5_5) then some h else md_ck (md_in l4 10) (md_ck (md_in l4 10) (md_ck (md_in (h (c + 5) (l4).toNatClampNeg) n2) (md_lt (md_up h a2 ((h (c + 5) (l4).toNatClampNeg)).toNatClampNeg ((h (c + 7) (l4).toNatClampNeg) + l5_5)) (fun h_10 : Mm => some h_10))))))))) (fun (h_7 : Mm) => fX1_findMinutes_40 n h_7 c a2 n2 l3 (l4 + 1)))))))))
set_option maxRecDepth 100000 in
set_option maxHeartbeats 4000000 in
theorem lX1_findMinutes_40 {K : Kx} {Y : Yx} {cs : Nat × Nat} (c : Nat) (a2 : Nat) (n2 : Nat) (hc : isCnt c) (ha2 : SHc[a2]? = some (.inr (0, n2, 0, 0))) (C : Cx K Y cs cX1_findMinutes RX1 7 0 0) {P : Mm → Prop} : ∀ (n : Nat) (h : Mm) (l3 : Int32) (l4 : Int32), (∀ (hw : Mm), J SHc K Y cs (P hw) 123 [(0, rf K c), (2, rf K a2), (3, .int l3)] [] hw) → J SHc K Y cs (mj_O (fX1_findMinutes_40 n h c a2 n2 l3 l4) P) 40 [(0, rf K c), (2, rf K a2), (3, .int l3), (4, .int l4)] [] h := by
  intro n
  induction n with
  | zero => intro h l3 l4 kk0; exact mj_none
  | succ n ih =>
    intro h l3 l4 kk0
    rw [fX1_findMinutes_40]
    refine mj_iload C 3 dX1_findMinutes_40 rfl ?_
    refine mj_aload_n C 0 dX1_findMinutes_42 (i := 0) rfl rfl ?_
    refine mj_getI C ff_X1_56 dX1_findMinutes_43 (cn_o hc) rfl ?_
    refine mj_icmp_ge C 123 dX1_findMinutes_46 (by decide) ?_ ?_
    · exact mj_sub [0, 1, 2] rfl (mj_some (kk0 h))
    · refine mj_aload_n C 1 dX1_findMinutes_49 (i := 2) rfl rfl ?_
      refine mj_aload_n C 0 dX1_findMinutes_50 (i := 0) rfl rfl ?_
      refine mj_getR C ff_X1_27 dX1_findMinutes_51 (cn_o hc) rfl ?_
      refine mj_iload C 3 dX1_findMinutes_54 rfl ?_
      refine mj_iald C dX1_findMinutes_56 (cn_11 hc) ?_
      refine mj_iald C dX1_findMinutes_57 ha2 ?_
      refine mj_istoreL C (fun l5_5 => [(5, .int l5_5), (0, rf K c), (2, rf K a2), (3, .int l3), (4, .int l4)]) dX1_findMinutes_58 (by decide) rfl (fun l5_5 => ?_)
      refine mj_aload_n C 2 dX1_findMinutes_60 (i := 2) rfl rfl ?_
      refine mj_aload_n C 1 dX1_findMinutes_61 (i := 0) rfl rfl ?_
      refine mj_getR C ff_X1_24 dX1_findMinutes_62 (cn_o hc) rfl ?_
      refine mj_iload C 4 dX1_findMinutes_65 rfl ?_
      refine mj_iald C dX1_findMinutes_67 (cn_10 hc) ?_
      refine mj_iald C dX1_findMinutes_68 ha2 ?_
      refine mj_istoreL C (fun l6_6 => [(6, .int l6_6), (5, .int l5_5), (0, rf K c), (2, rf K a2), (3, .int l3), (4, .int l4)]) dX1_findMinutes_69 (by decide) rfl (fun l6_6 => ?_)
      refine mj_iload C 1 dX1_findMinutes_71 rfl ?_
      refine mj_iconst C (v := -1) dX1_findMinutes_73 rfl ?_
      refine mj_phi1 117 (fun (h_7 : Mm) => [(0, rf K c), (2, rf K a2), (3, .int l3), (4, .int l4)]) (fun (h_7 : Mm) => []) (fun (h_7 : Mm) => h_7) (fun P' kj_8 => ?_) (fun h_7 => ?_)
      · refine mj_icmp_eq C 117 dX1_findMinutes_74 (by decide) ?_ ?_
        · exact mj_sub [2, 3, 4, 5] rfl (mj_some (kj_8 h))
        · refine mj_iload C 0 dX1_findMinutes_77 rfl ?_
          refine mj_iconst C (v := -1) dX1_findMinutes_79 rfl ?_
          refine mj_icmp_eq C 98 dX1_findMinutes_80 (by decide) ?_ ?_
          · refine mj_aload_n C 3 dX1_findMinutes_98 (i := 2) rfl rfl ?_
            refine mj_aload_n C 2 dX1_findMinutes_99 (i := 0) rfl rfl ?_
            refine mj_getR C ff_X1_24 dX1_findMinutes_100 (cn_o hc) rfl ?_
            refine mj_iload C 5 dX1_findMinutes_103 rfl ?_
            refine mj_iald C dX1_findMinutes_105 (cn_10 hc) ?_
            refine mj_aload_n C 2 dX1_findMinutes_106 (i := 0) rfl rfl ?_
            refine mj_getR C ff_X1_30 dX1_findMinutes_107 (cn_o hc) rfl ?_
            refine mj_iload C 5 dX1_findMinutes_110 rfl ?_
            refine mj_iald C dX1_findMinutes_112 (cn_12 hc) ?_
            refine mj_iload C 1 dX1_findMinutes_113 rfl ?_
            refine mj_iadd C dX1_findMinutes_115 ?_
            refine mj_iast C dX1_findMinutes_116 ha2 (fun h_9 => ?_)
            exact mj_sub [2, 3, 4, 5] rfl (mj_some (kj_8 h_9))
          · refine mj_aload_n C 2 dX1_findMinutes_83 (i := 0) rfl rfl ?_
            refine mj_getR C ff_X1_30 dX1_findMinutes_84 (cn_o hc) rfl ?_
            refine mj_iload C 5 dX1_findMinutes_87 rfl ?_
            refine mj_iald C dX1_findMinutes_89 (cn_12 hc) ?_
            refine mj_iload C 1 dX1_findMinutes_90 rfl ?_
            refine mj_iadd C dX1_findMinutes_92 ?_
            refine mj_iload C 0 dX1_findMinutes_93 rfl ?_
            refine mj_icmp_ge C 117 dX1_findMinutes_95 (by decide) ?_ ?_
            · exact mj_sub [2, 3, 4, 5] rfl (mj_some (kj_8 h))
            · refine mj_aload_n C 3 dX1_findMinutes_98 (i := 2) rfl rfl ?_
              refine mj_aload_n C 2 dX1_findMinutes_99 (i := 0) rfl rfl ?_
              refine mj_getR C ff_X1_24 dX1_findMinutes_100 (cn_o hc) rfl ?_
              refine mj_iload C 5 dX1_findMinutes_103 rfl ?_
              refine mj_iald C dX1_findMinutes_105 (cn_10 hc) ?_
              refine mj_aload_n C 2 dX1_findMinutes_106 (i := 0) rfl rfl ?_
              refine mj_getR C ff_X1_30 dX1_findMinutes_107 (cn_o hc) rfl ?_
              refine mj_iload C 5 dX1_findMinutes_110 rfl ?_
              refine mj_iald C dX1_findMinutes_112 (cn_12 hc) ?_
              refine mj_iload C 1 dX1_findMinutes_113 rfl ?_
              refine mj_iadd C dX1_findMinutes_115 ?_
              refine mj_iast C dX1_findMinutes_116 ha2 (fun h_10 => ?_)
              exact mj_sub [2, 3, 4, 5] rfl (mj_some (kj_8 h_10))
      · refine mj_iinc C (l4 + 1) 3 [(4, .int (l4 + 1)), (0, rf K c), (2, rf K a2), (3, .int l3)] dX1_findMinutes_117 rfl rfl (by decide) rfl ?_
        refine mj_goto C 40 dX1_findMinutes_120 (by decide) ?_
        exact mj_sub [1, 2, 3, 0] rfl (ih h_7 l3 (l4 + 1) kk0)
noncomputable def fX1_findMinutes_29 : Nat → Mm → Nat → Nat → Nat → Int32 → Option (Mm)
  | 0, _, _, _, _, _ => none
  | n + 1, h, c, a2, n2, l3 => (if (h c 3) ≤ l3 then some h else md_bd (fX1_findMinutes_40 md_N h c a2 n2 l3 (0 : Int32)) (fun (h_11 : Mm) => fX1_findMinutes_29 n h_11 c a2 n2 (l3 + 1)))
set_option maxRecDepth 100000 in
set_option maxHeartbeats 4000000 in
theorem lX1_findMinutes_29 {K : Kx} {Y : Yx} {cs : Nat × Nat} (c : Nat) (a2 : Nat) (n2 : Nat) (hc : isCnt c) (ha2 : SHc[a2]? = some (.inr (0, n2, 0, 0))) (C : Cx K Y cs cX1_findMinutes RX1 7 0 0) {P : Mm → Prop} : ∀ (n : Nat) (h : Mm) (l3 : Int32), (∀ (hw : Mm), J SHc K Y cs (P hw) 129 [] [] hw) → J SHc K Y cs (mj_O (fX1_findMinutes_29 n h c a2 n2 l3) P) 29 [(0, rf K c), (2, rf K a2), (3, .int l3)] [] h := by
  intro n
  induction n with
  | zero => intro h l3 kk0; exact mj_none
  | succ n ih =>
    intro h l3 kk0
    rw [fX1_findMinutes_29]
    refine mj_iload_n C 2 dX1_findMinutes_29 (i := 3) rfl rfl ?_
    refine mj_aload_n C 0 dX1_findMinutes_30 (i := 0) rfl rfl ?_
    refine mj_getI C ff_X1_50 dX1_findMinutes_31 (cn_o hc) rfl ?_
    refine mj_icmp_ge C 129 dX1_findMinutes_34 (by decide) ?_ ?_
    · exact mj_sub [] rfl (mj_some (kk0 h))
    · refine mj_iconst C (v := 0) dX1_findMinutes_37 rfl ?_
      refine mj_istore C [(4, .int (0 : Int32)), (0, rf K c), (2, rf K a2), (3, .int l3)] dX1_findMinutes_38 (by decide) rfl ?_
      refine mj_phi1 123 (fun (h_11 : Mm) => [(0, rf K c), (2, rf K a2), (3, .int l3)]) (fun (h_11 : Mm) => []) (fun (h_11 : Mm) => h_11) (fun P' kj_12 => mj_sub [1, 2, 3, 0] rfl (lX1_findMinutes_40 c a2 n2 hc ha2 C md_N h l3 (0 : Int32) kj_12)) (fun h_11 => ?_)
      refine mj_iinc C (l3 + 1) 2 [(3, .int (l3 + 1)), (0, rf K c), (2, rf K a2)] dX1_findMinutes_123 rfl rfl (by decide) rfl ?_
      refine mj_goto C 29 dX1_findMinutes_126 (by decide) ?_
      exact mj_sub [1, 2, 0] rfl (ih h_11 (l3 + 1) kk0)
noncomputable def fX1_findMinutes (h : Mm) (c : Nat) (a2 : Nat) (n2 : Nat) (l1 : Int32) : Option (Mm) := md_bd (fX1_findMinutes_2 md_N h c a2 n2 l1 (0 : Int32)) (fun (h_4 : Mm) => md_bd (fX1_findMinutes_29 md_N h_4 c a2 n2 (1 : Int32)) (fun (h_13 : Mm) => some h_13))
set_option maxRecDepth 100000 in
set_option maxHeartbeats 4000000 in
theorem ctX1_findMinutes (K : Kx) (h : Mm) (c : Nat) (a2 : Nat) (n2 : Nat) (l1 : Int32) (hc : isCnt c) (ha2 : SHc[a2]? = some (.inr (0, n2, 0, 0))) {a : Mm} (hF : fX1_findMinutes h c a2 n2 l1 = some a) : Mt K yX1_findMinutes cX1_findMinutes 7 none 0 0 SHc [rf K c, .int l1, rf K a2] h none a := by
  refine Mt.of hF [(0, rf K c), (1, .int l1), (2, rf K a2)] (by decide) (Nat.le_of_ble_eq_true rfl) rfl (fun Y C N => ?_)
  have C : Cx K Y (0, 0) cX1_findMinutes RX1 7 0 0 := C
  unfold fX1_findMinutes
  refine mj_iconst C (v := 0) dX1_findMinutes_0 rfl ?_
  refine mj_istore_n C [(3, .int (0 : Int32)), (0, rf K c), (1, .int l1), (2, rf K a2)] dX1_findMinutes_1 (i := 3) rfl (by decide) rfl ?_
  refine mj_phi1 27 (fun (h_4 : Mm) => [(0, rf K c), (2, rf K a2)]) (fun (h_4 : Mm) => []) (fun (h_4 : Mm) => h_4) (fun P' kj_15 => mj_sub [1, 2, 3, 0] rfl (lX1_findMinutes_2 c a2 n2 hc ha2 C md_N h l1 (0 : Int32) kj_15)) (fun h_4 => ?_)
  refine mj_iconst C (v := 1) dX1_findMinutes_27 rfl ?_
  refine mj_istore_n C [(3, .int (1 : Int32)), (0, rf K c), (2, rf K a2)] dX1_findMinutes_28 (i := 3) rfl (by decide) rfl ?_
  refine mj_phi1 129 (fun (h_13 : Mm) => []) (fun (h_13 : Mm) => []) (fun (h_13 : Mm) => h_13) (fun P' kj_14 => mj_sub [1, 2, 0] rfl (lX1_findMinutes_29 c a2 n2 hc ha2 C md_N h_4 (1 : Int32) kj_14)) (fun h_13 => ?_)
  exact mj_rV C N dX1_findMinutes_129
noncomputable def fX4_become_2 : Nat → Mm → Nat → Nat → Int32 → Option (Mm)
  | 0, _, _, _, _ => none
  | n + 1, h, c, c1, l2 => (if (5 : Int32) ≤ l2 then some h else md_ck (md_in l2 5) (md_ck (md_in l2 5) (md_lt (md_up h (c + 1) (l2).toNatClampNeg (h (c1 + 1) (l2).toNatClampNeg)) (fun h_1 : Mm => fX4_become_2 n h_1 c c1 (l2 + 1)))))
set_option maxRecDepth 100000 in
set_option maxHeartbeats 4000000 in
theorem lX4_become_2 {K : Kx} {Y : Yx} {cs : Nat × Nat} (c : Nat) (c1 : Nat) (hc : isPst c) (hc1 : isPst c1) (C : Cx K Y cs cX4_become RX4 3 0 0) {P : Mm → Prop} : ∀ (n : Nat) (h : Mm) (l2 : Int32), (∀ (hw : Mm), J SHc K Y cs (P hw) 25 [(0, rf K c), (1, rf K c1)] [] hw) → J SHc K Y cs (mj_O (fX4_become_2 n h c c1 l2) P) 2 [(0, rf K c), (1, rf K c1), (2, .int l2)] [] h := by
  intro n
  induction n with
  | zero => intro h l2 kk0; exact mj_none
  | succ n ih =>
    intro h l2 kk0
    rw [fX4_become_2]
    refine mj_iload_n C 2 dX4_become_2 (i := 2) rfl rfl ?_
    refine mj_iconst C (v := 5) dX4_become_3 rfl ?_
    refine mj_icmp_ge C 25 dX4_become_4 (by decide) ?_ ?_
    · exact mj_sub [0, 1] rfl (mj_some (kk0 h))
    · refine mj_aload_n C 0 dX4_become_7 (i := 0) rfl rfl ?_
      refine mj_getR C ff_X4_9 dX4_become_8 (ps_o hc) rfl ?_
      refine mj_iload_n C 2 dX4_become_11 (i := 2) rfl rfl ?_
      refine mj_aload_n C 1 dX4_become_12 (i := 1) rfl rfl ?_
      refine mj_getR C ff_X4_9 dX4_become_13 (ps_o hc1) rfl ?_
      refine mj_iload_n C 2 dX4_become_16 (i := 2) rfl rfl ?_
      refine mj_iald C dX4_become_17 (ps_0 hc1) ?_
      refine mj_iast C dX4_become_18 (ps_0 hc) (fun h_1 => ?_)
      refine mj_iinc C (l2 + 1) 2 [(2, .int (l2 + 1)), (0, rf K c), (1, rf K c1)] dX4_become_19 rfl rfl (by decide) rfl ?_
      refine mj_goto C 2 dX4_become_22 (by decide) ?_
      exact mj_sub [1, 2, 0] rfl (ih h_1 (l2 + 1) kk0)
noncomputable def fX4_become (h : Mm) (c : Nat) (c1 : Nat) : Option (Mm) := md_bd (fX4_become_2 md_N h c c1 (0 : Int32)) (fun (h_2 : Mm) => md_lt (md_up h_2 c 1 (h_2 c1 1)) (fun h_3 : Mm => md_lt (md_up h_3 c 2 (h_3 c1 2)) (fun h_4 : Mm => md_lt (md_up h_4 c 3 (h_4 c1 3)) (fun h_5 : Mm => md_lt (md_up h_5 c 4 (h_5 c1 4)) (fun h_6 : Mm => some h_6)))))
set_option maxRecDepth 100000 in
set_option maxHeartbeats 4000000 in
theorem ctX4_become (K : Kx) (h : Mm) (c : Nat) (c1 : Nat) (hc : isPst c) (hc1 : isPst c1) {a : Mm} (hF : fX4_become h c c1 = some a) : Mt K yX4_become cX4_become 3 none 0 0 SHc [rf K c, rf K c1] h none a := by
  refine Mt.of hF [(0, rf K c), (1, rf K c1)] (by decide) (Nat.le_of_ble_eq_true rfl) rfl (fun Y C N => ?_)
  have C : Cx K Y (0, 0) cX4_become RX4 3 0 0 := C
  unfold fX4_become
  refine mj_iconst C (v := 0) dX4_become_0 rfl ?_
  refine mj_istore_n C [(2, .int (0 : Int32)), (0, rf K c), (1, rf K c1)] dX4_become_1 (i := 2) rfl (by decide) rfl ?_
  refine mj_phi1 25 (fun (h_2 : Mm) => [(0, rf K c), (1, rf K c1)]) (fun (h_2 : Mm) => []) (fun (h_2 : Mm) => h_2) (fun P' kj_7 => mj_sub [1, 2, 0] rfl (lX4_become_2 c c1 hc hc1 C md_N h (0 : Int32) kj_7)) (fun h_2 => ?_)
  refine mj_aload_n C 0 dX4_become_25 (i := 0) rfl rfl ?_
  refine mj_aload_n C 1 dX4_become_26 (i := 1) rfl rfl ?_
  refine mj_getI C ff_X4_26 dX4_become_27 (ps_o hc1) rfl ?_
  refine mj_putL C fp_X4_26 dX4_become_30 (ps_o hc) rfl rfl rfl (fun h_3 => ?_)
  refine mj_aload_n C 0 dX4_become_33 (i := 0) rfl rfl ?_
  refine mj_aload_n C 1 dX4_become_34 (i := 1) rfl rfl ?_
  refine mj_getI C ff_X4_27 dX4_become_35 (ps_o hc1) rfl ?_
  refine mj_putL C fp_X4_27 dX4_become_38 (ps_o hc) rfl rfl rfl (fun h_4 => ?_)
  refine mj_aload_n C 0 dX4_become_41 (i := 0) rfl rfl ?_
  refine mj_aload_n C 1 dX4_become_42 (i := 1) rfl rfl ?_
  refine mj_getI C ff_X4_30 dX4_become_43 (ps_o hc1) rfl ?_
  refine mj_putL C fp_X4_30 dX4_become_46 (ps_o hc) rfl rfl rfl (fun h_5 => ?_)
  refine mj_aload_n C 0 dX4_become_49 (i := 0) rfl rfl ?_
  refine mj_aload_n C 1 dX4_become_50 (i := 1) rfl rfl ?_
  refine mj_getI C ff_X4_33 dX4_become_51 (ps_o hc1) rfl ?_
  refine mj_putL C fp_X4_33 dX4_become_54 (ps_o hc) rfl rfl rfl (fun h_6 => ?_)
  exact mj_rV C N dX4_become_57
noncomputable def fX2_take (h : Mm) (c2 : Nat) (l1 : Int32) (l3 : Int32) : Option (Mm) := md_bd ((if l1 < 0 then some h else (if (2 : Int32) ≤ l1 then some h else md_ck (md_in l1 2) (md_bd (fX4_become h (61 + 2 * (l1).toNatClampNeg) c2) (fun h_4 => md_ck (md_in l1 2) (md_lt (md_up h_4 59 (l1).toNatClampNeg l3) (fun h_5 : Mm => md_ck (md_in l1 2) (md_lt (md_up h_5 60 (l1).toNatClampNeg (md_bi true)) (fun h_6 : Mm => some h_6))))))))) (fun (h_1 : Mm) => some h_1)
set_option maxRecDepth 100000 in
set_option maxHeartbeats 4000000 in
theorem ctX2_take (K : Kx) (h : Mm) (c2 : Nat) (l1 : Int32) (l3 : Int32) (hc2 : isPst c2) {a : Mm} (hF : fX2_take h c2 l1 l3 = some a) : Mt K yX2_take cX2_take 4 none 1 22 SHc [rf K 57, .int l1, rf K c2, .int l3] h none a := by
  refine Mt.of hF [(0, rf K 57), (1, .int l1), (2, rf K c2), (3, .int l3)] (by decide) (Nat.le_of_ble_eq_true rfl) rfl (fun Y C N => ?_)
  have C : Cx K Y (0, 0) cX2_take RX2 4 1 22 := C
  unfold fX2_take
  refine mj_iload_n C 1 dX2_take_0 (i := 1) rfl rfl ?_
  refine mj_phi1 33 (fun (h_1 : Mm) => []) (fun (h_1 : Mm) => []) (fun (h_1 : Mm) => h_1) (fun P' kj_2 => ?_) (fun h_1 => ?_)
  · refine mj_if_lt C 33 dX2_take_1 (by decide) ?_ ?_
    · exact mj_sub [] rfl (mj_some (kj_2 h))
    · refine mj_iload_n C 1 dX2_take_4 (i := 1) rfl rfl ?_
      refine mj_iconst C (v := 2) dX2_take_5 rfl ?_
      refine mj_icmp_ge C 33 dX2_take_6 (by decide) ?_ ?_
      · exact mj_sub [] rfl (mj_some (kj_2 h))
      · refine mj_aload_n C 0 dX2_take_9 (i := 0) rfl rfl ?_
        refine mj_getR C ff_X2_11 dX2_take_10 sh_57 rfl ?_
        refine mj_iload_n C 1 dX2_take_13 (i := 1) rfl rfl ?_
        refine mj_aald C dX2_take_14 sh_58 (fun hp_3 => ?_)
        refine mj_aload_n C 2 dX2_take_15 (i := 2) rfl rfl ?_
        refine mj_vM C my_X4_become mv_X2_26 dX2_take_16 (ps_o (ps_img hp_3)) rfl (fun a hF => ctX4_become K h (61 + 2 * (l1).toNatClampNeg) c2 (ps_img hp_3) hc2 hF) (by decide) (by decide) rfl rfl (Nat.le_of_ble_eq_true rfl) (fun h_4 => ?_)
        refine mj_aload_n C 0 dX2_take_19 (i := 0) rfl rfl ?_
        refine mj_getR C ff_X2_17 dX2_take_20 sh_57 rfl ?_
        refine mj_iload_n C 1 dX2_take_23 (i := 1) rfl rfl ?_
        refine mj_iload_n C 3 dX2_take_24 (i := 3) rfl rfl ?_
        refine mj_iast C dX2_take_25 sh_59 (fun h_5 => ?_)
        refine mj_aload_n C 0 dX2_take_26 (i := 0) rfl rfl ?_
        refine mj_getR C ff_X2_21 dX2_take_27 sh_57 rfl ?_
        refine mj_iload_n C 1 dX2_take_30 (i := 1) rfl rfl ?_
        refine mj_iconst C (v := 1) dX2_take_31 rfl ?_
        refine mj_zast C (v := true) dX2_take_32 sh_60 (fun h_6 => ?_)
        exact mj_sub [] rfl (mj_some (kj_2 h_6))
  · exact mj_rV C N dX2_take_33
noncomputable def fX2_forget_2 : Nat → Mm → Int32 → Option (Mm)
  | 0, _, _ => none
  | n + 1, h, l1 => (if (2 : Int32) ≤ l1 then some h else md_ck (md_in l1 2) (md_lt (md_up h 60 (l1).toNatClampNeg (md_bi false)) (fun h_1 : Mm => fX2_forget_2 n h_1 (l1 + 1))))
set_option maxRecDepth 100000 in
set_option maxHeartbeats 4000000 in
theorem lX2_forget_2 {K : Kx} {Y : Yx} {cs : Nat × Nat} (C : Cx K Y cs cX2_forget RX2 2 0 0) {P : Mm → Prop} : ∀ (n : Nat) (h : Mm) (l1 : Int32), (∀ (hw : Mm), J SHc K Y cs (P hw) 20 [] [] hw) → J SHc K Y cs (mj_O (fX2_forget_2 n h l1) P) 2 [(0, rf K 57), (1, .int l1)] [] h := by
  intro n
  induction n with
  | zero => intro h l1 kk0; exact mj_none
  | succ n ih =>
    intro h l1 kk0
    rw [fX2_forget_2]
    refine mj_iload_n C 1 dX2_forget_2 (i := 1) rfl rfl ?_
    refine mj_iconst C (v := 2) dX2_forget_3 rfl ?_
    refine mj_icmp_ge C 20 dX2_forget_4 (by decide) ?_ ?_
    · exact mj_sub [] rfl (mj_some (kk0 h))
    · refine mj_aload_n C 0 dX2_forget_7 (i := 0) rfl rfl ?_
      refine mj_getR C ff_X2_21 dX2_forget_8 sh_57 rfl ?_
      refine mj_iload_n C 1 dX2_forget_11 (i := 1) rfl rfl ?_
      refine mj_iconst C (v := 0) dX2_forget_12 rfl ?_
      refine mj_zast C (v := false) dX2_forget_13 sh_60 (fun h_1 => ?_)
      refine mj_iinc C (l1 + 1) 1 [(1, .int (l1 + 1)), (0, rf K 57)] dX2_forget_14 rfl rfl (by decide) rfl ?_
      refine mj_goto C 2 dX2_forget_17 (by decide) ?_
      exact mj_sub [1, 0] rfl (ih h_1 (l1 + 1) kk0)
noncomputable def fX2_forget (h : Mm) : Option (Mm) := md_bd (fX2_forget_2 md_N h (0 : Int32)) (fun (h_2 : Mm) => some h_2)
set_option maxRecDepth 100000 in
set_option maxHeartbeats 4000000 in
theorem ctX2_forget (K : Kx) (h : Mm) {a : Mm} (hF : fX2_forget h = some a) : Mt K yX2_forget cX2_forget 2 none 0 0 SHc [rf K 57] h none a := by
  refine Mt.of hF [(0, rf K 57)] (by decide) (Nat.le_of_ble_eq_true rfl) rfl (fun Y C N => ?_)
  have C : Cx K Y (0, 0) cX2_forget RX2 2 0 0 := C
  unfold fX2_forget
  refine mj_iconst C (v := 0) dX2_forget_0 rfl ?_
  refine mj_istore_n C [(1, .int (0 : Int32)), (0, rf K 57)] dX2_forget_1 (i := 1) rfl (by decide) rfl ?_
  refine mj_phi1 20 (fun (h_2 : Mm) => []) (fun (h_2 : Mm) => []) (fun (h_2 : Mm) => h_2) (fun P' kj_3 => mj_sub [1, 0] rfl (lX2_forget_2 C md_N h (0 : Int32) kj_3)) (fun h_2 => ?_)
  exact mj_rV C N dX2_forget_20
noncomputable def fX3_remember (h : Mm) (c1 : Nat) : Option (Mm) := md_ck (md_in (h 15 1) 20) (md_bd (fX4_become h (17 + 2 * ((h 15 1)).toNatClampNeg) c1) (fun h_2 => md_lt (md_up h_2 15 1 (((h_2 15 1) + (1 : Int32)) - ((h_2 15 1) + (1 : Int32)) / (20 : Int32) * (20 : Int32))) (fun h_3 : Mm => md_lt (md_up h_3 15 2 (if (20 : Int32) < ((h_3 15 2) + (1 : Int32)) then (20 : Int32) else ((h_3 15 2) + (1 : Int32)))) (fun h_4 : Mm => some h_4))))
set_option maxRecDepth 100000 in
set_option maxHeartbeats 4000000 in
theorem ctX3_remember (K : Kx) (h : Mm) (c1 : Nat) (hc1 : isPst c1) {a : Mm} (hF : fX3_remember h c1 = some a) : Mt K yX3_remember cX3_remember 2 none 1 22 SHc [rf K 15, rf K c1] h none a := by
  refine Mt.of hF [(0, rf K 15), (1, rf K c1)] (by decide) (Nat.le_of_ble_eq_true rfl) rfl (fun Y C N => ?_)
  have C : Cx K Y (0, 0) cX3_remember RX3 2 1 22 := C
  unfold fX3_remember
  refine mj_aload_n C 0 dX3_remember_0 (i := 0) rfl rfl ?_
  refine mj_getR C ff_X3_11 dX3_remember_1 sh_15 rfl ?_
  refine mj_aload_n C 0 dX3_remember_4 (i := 0) rfl rfl ?_
  refine mj_getI C ff_X3_18 dX3_remember_5 sh_15 rfl ?_
  refine mj_aald C dX3_remember_8 sh_16 (fun hp_1 => ?_)
  refine mj_aload_n C 1 dX3_remember_9 (i := 1) rfl rfl ?_
  refine mj_vM C my_X4_become mv_X3_22 dX3_remember_10 (ps_o (ps_ring hp_1)) rfl (fun a hF => ctX4_become K h (17 + 2 * ((h 15 1)).toNatClampNeg) c1 (ps_ring hp_1) hc1 hF) (by decide) (by decide) rfl rfl (Nat.le_of_ble_eq_true rfl) (fun h_2 => ?_)
  refine mj_aload_n C 0 dX3_remember_13 (i := 0) rfl rfl ?_
  refine mj_aload_n C 0 dX3_remember_14 (i := 0) rfl rfl ?_
  refine mj_getI C ff_X3_18 dX3_remember_15 sh_15 rfl ?_
  refine mj_iconst C (v := 1) dX3_remember_18 rfl ?_
  refine mj_iadd C dX3_remember_19 ?_
  refine mj_bipush C (v := 20) dX3_remember_20 rfl ?_
  refine mj_irem C dX3_remember_22 (by decide) ?_
  refine mj_putL C fp_X3_18 dX3_remember_23 sh_15 rfl rfl rfl (fun h_3 => ?_)
  refine mj_aload_n C 0 dX3_remember_26 (i := 0) rfl rfl ?_
  refine mj_aload_n C 0 dX3_remember_27 (i := 0) rfl rfl ?_
  refine mj_getI C ff_X3_26 dX3_remember_28 sh_15 rfl ?_
  refine mj_iconst C (v := 1) dX3_remember_31 rfl ?_
  refine mj_iadd C dX3_remember_32 ?_
  refine mj_bipush C (v := 20) dX3_remember_33 rfl ?_
  refine mj_mmin C ml_X3_29 mm_min.1 mm_min.2.1 mm_min.2.2 (by decide) (Nat.le_of_ble_eq_true rfl) dX3_remember_35 ?_
  refine mj_putL C fp_X3_26 dX3_remember_38 sh_15 rfl rfl rfl (fun h_4 => ?_)
  exact mj_rV C N dX3_remember_41
noncomputable def fX3_bringBack (h : Mm) (c1 : Nat) : Option (Mm) := md_bd ((if (h 15 2) ≤ 0 then some h else md_lt (md_up h 15 1 ((((h 15 1) + (20 : Int32)) - (1 : Int32)) - (((h 15 1) + (20 : Int32)) - (1 : Int32)) / (20 : Int32) * (20 : Int32))) (fun h_3 : Mm => md_ck (md_in (h_3 15 1) 20) (md_bd (fX4_become h_3 c1 (17 + 2 * ((h_3 15 1)).toNatClampNeg)) (fun h_5 => md_lt (md_up h_5 15 2 ((h_5 15 2) - (1 : Int32))) (fun h_6 : Mm => some h_6)))))) (fun (h_1 : Mm) => some h_1)
set_option maxRecDepth 100000 in
set_option maxHeartbeats 4000000 in
theorem ctX3_bringBack (K : Kx) (h : Mm) (c1 : Nat) (hc1 : isPst c1) {a : Mm} (hF : fX3_bringBack h c1 = some a) : Mt K yX3_bringBack cX3_bringBack 2 none 1 22 SHc [rf K 15, rf K c1] h none a := by
  refine Mt.of hF [(0, rf K 15), (1, rf K c1)] (by decide) (Nat.le_of_ble_eq_true rfl) rfl (fun Y C N => ?_)
  have C : Cx K Y (0, 0) cX3_bringBack RX3 2 1 22 := C
  unfold fX3_bringBack
  refine mj_aload_n C 0 dX3_bringBack_0 (i := 0) rfl rfl ?_
  refine mj_getI C ff_X3_26 dX3_bringBack_1 sh_15 rfl ?_
  refine mj_phi1 46 (fun (h_1 : Mm) => []) (fun (h_1 : Mm) => []) (fun (h_1 : Mm) => h_1) (fun P' kj_2 => ?_) (fun h_1 => ?_)
  · refine mj_if_le C 46 dX3_bringBack_4 (by decide) ?_ ?_
    · exact mj_sub [] rfl (mj_some (kj_2 h))
    · refine mj_aload_n C 0 dX3_bringBack_7 (i := 0) rfl rfl ?_
      refine mj_aload_n C 0 dX3_bringBack_8 (i := 0) rfl rfl ?_
      refine mj_getI C ff_X3_18 dX3_bringBack_9 sh_15 rfl ?_
      refine mj_bipush C (v := 20) dX3_bringBack_12 rfl ?_
      refine mj_iadd C dX3_bringBack_14 ?_
      refine mj_iconst C (v := 1) dX3_bringBack_15 rfl ?_
      refine mj_isub C dX3_bringBack_16 ?_
      refine mj_bipush C (v := 20) dX3_bringBack_17 rfl ?_
      refine mj_irem C dX3_bringBack_19 (by decide) ?_
      refine mj_putL C fp_X3_18 dX3_bringBack_20 sh_15 rfl rfl rfl (fun h_3 => ?_)
      refine mj_aload_n C 1 dX3_bringBack_23 (i := 1) rfl rfl ?_
      refine mj_aload_n C 0 dX3_bringBack_24 (i := 0) rfl rfl ?_
      refine mj_getR C ff_X3_11 dX3_bringBack_25 sh_15 rfl ?_
      refine mj_aload_n C 0 dX3_bringBack_28 (i := 0) rfl rfl ?_
      refine mj_getI C ff_X3_18 dX3_bringBack_29 sh_15 rfl ?_
      refine mj_aald C dX3_bringBack_32 sh_16 (fun hp_4 => ?_)
      refine mj_vM C my_X4_become mv_X3_22 dX3_bringBack_33 (ps_o hc1) rfl (fun a hF => ctX4_become K h_3 c1 (17 + 2 * ((h_3 15 1)).toNatClampNeg) hc1 (ps_ring hp_4) hF) (by decide) (by decide) rfl rfl (Nat.le_of_ble_eq_true rfl) (fun h_5 => ?_)
      refine mj_aload_n C 0 dX3_bringBack_36 (i := 0) rfl rfl ?_
      refine mj_dup C dX3_bringBack_37 rfl ?_
      refine mj_getI C ff_X3_26 dX3_bringBack_38 sh_15 rfl ?_
      refine mj_iconst C (v := 1) dX3_bringBack_41 rfl ?_
      refine mj_isub C dX3_bringBack_42 ?_
      refine mj_putL C fp_X3_26 dX3_bringBack_43 sh_15 rfl rfl rfl (fun h_6 => ?_)
      exact mj_sub [] rfl (mj_some (kj_2 h_6))
  · exact mj_rV C N dX3_bringBack_46
noncomputable def fX4_begin_2 : Nat → Mm → Nat → Nat → Int32 → Option (Mm)
  | 0, _, _, _, _ => none
  | n + 1, h, c, c1, l2 => (if (5 : Int32) ≤ l2 then some h else md_bd (fX1_isTraveller h c1 l2) (fun r_1 => md_bd ((if r_1 = true then md_ck (md_in l2 5) (some (h (c1 + 8) (l2).toNatClampNeg)) else some (0 : Int32))) (fun (v_2 : Int32) => md_ck (md_in l2 5) (md_lt (md_up h (c + 1) (l2).toNatClampNeg v_2) (fun h_4 : Mm => fX4_begin_2 n h_4 c c1 (l2 + 1))))))
set_option maxRecDepth 100000 in
set_option maxHeartbeats 4000000 in
theorem lX4_begin_2 {K : Kx} {Y : Yx} {cs : Nat × Nat} (c : Nat) (c1 : Nat) (hc : isPst c) (hc1 : isCnt c1) (C : Cx K Y cs cX4_begin RX4 3 1 21) {P : Mm → Prop} : ∀ (n : Nat) (h : Mm) (l2 : Int32), (∀ (hw : Mm), J SHc K Y cs (P hw) 37 [(0, rf K c), (1, rf K c1)] [] hw) → J SHc K Y cs (mj_O (fX4_begin_2 n h c c1 l2) P) 2 [(0, rf K c), (1, rf K c1), (2, .int l2)] [] h := by
  intro n
  induction n with
  | zero => intro h l2 kk0; exact mj_none
  | succ n ih =>
    intro h l2 kk0
    rw [fX4_begin_2]
    refine mj_iload_n C 2 dX4_begin_2 (i := 2) rfl rfl ?_
    refine mj_iconst C (v := 5) dX4_begin_3 rfl ?_
    refine mj_icmp_ge C 37 dX4_begin_4 (by decide) ?_ ?_
    · exact mj_sub [0, 1] rfl (mj_some (kk0 h))
    · refine mj_aload_n C 0 dX4_begin_7 (i := 0) rfl rfl ?_
      refine mj_getR C ff_X4_9 dX4_begin_8 (ps_o hc) rfl ?_
      refine mj_iload_n C 2 dX4_begin_11 (i := 2) rfl rfl ?_
      refine mj_aload_n C 1 dX4_begin_12 (i := 1) rfl rfl ?_
      refine mj_iload_n C 2 dX4_begin_13 (i := 2) rfl rfl ?_
      refine mj_vB C my_X1_isTraveller mv_X4_15 dX4_begin_14 (cn_o hc1) rfl (fun a hF => ctX1_isTraveller K h c1 l2 hc1 hF) (by decide) (by decide) rfl rfl (Nat.le_of_ble_eq_true rfl) (fun r_1 => ?_)
      refine mj_phi1 30 (fun (v_2 : Int32) => [(0, rf K c), (1, rf K c1), (2, .int l2)]) (fun (v_2 : Int32) => [.int v_2, .int l2, rf K (c + 1)]) (fun (v_2 : Int32) => h) (fun P' kj_3 => ?_) (fun v_2 => ?_)
      · refine mj_b_eq C 29 dX4_begin_17 (by decide) ?_ ?_
        · refine mj_iconst C (v := 0) dX4_begin_29 rfl ?_
          exact mj_sub [0, 1, 2] rfl (mj_some (kj_3 (0 : Int32)))
        · refine mj_aload_n C 1 dX4_begin_20 (i := 1) rfl rfl ?_
          refine mj_getR C ff_X4_21 dX4_begin_21 (cn_o hc1) rfl ?_
          refine mj_iload_n C 2 dX4_begin_24 (i := 2) rfl rfl ?_
          refine mj_iald C dX4_begin_25 (cn_15 hc1) ?_
          refine mj_goto C 30 dX4_begin_26 (by decide) ?_
          exact mj_sub [0, 1, 2] rfl (mj_some (kj_3 (h (c1 + 8) (l2).toNatClampNeg)))
      · refine mj_iast C dX4_begin_30 (ps_0 hc) (fun h_4 => ?_)
        refine mj_iinc C (l2 + 1) 2 [(2, .int (l2 + 1)), (0, rf K c), (1, rf K c1)] dX4_begin_31 rfl rfl (by decide) rfl ?_
        refine mj_goto C 2 dX4_begin_34 (by decide) ?_
        exact mj_sub [1, 2, 0] rfl (ih h_4 (l2 + 1) kk0)
noncomputable def fX4_begin (h : Mm) (c : Nat) (c1 : Nat) : Option (Mm) := md_bd (fX4_begin_2 md_N h c c1 (0 : Int32)) (fun (h_5 : Mm) => md_lt (md_up h_5 c 1 (h_5 c1 13)) (fun h_6 : Mm => md_lt (md_up h_6 c 2 (0 : Int32)) (fun h_7 : Mm => md_lt (md_up h_7 c 3 (0 : Int32)) (fun h_8 : Mm => md_lt (md_up h_8 c 4 (0 : Int32)) (fun h_9 : Mm => some h_9)))))
set_option maxRecDepth 100000 in
set_option maxHeartbeats 4000000 in
theorem ctX4_begin (K : Kx) (h : Mm) (c : Nat) (c1 : Nat) (hc : isPst c) (hc1 : isCnt c1) {a : Mm} (hF : fX4_begin h c c1 = some a) : Mt K yX4_begin cX4_begin 3 none 1 21 SHc [rf K c, rf K c1] h none a := by
  refine Mt.of hF [(0, rf K c), (1, rf K c1)] (by decide) (Nat.le_of_ble_eq_true rfl) rfl (fun Y C N => ?_)
  have C : Cx K Y (0, 0) cX4_begin RX4 3 1 21 := C
  unfold fX4_begin
  refine mj_iconst C (v := 0) dX4_begin_0 rfl ?_
  refine mj_istore_n C [(2, .int (0 : Int32)), (0, rf K c), (1, rf K c1)] dX4_begin_1 (i := 2) rfl (by decide) rfl ?_
  refine mj_phi1 37 (fun (h_5 : Mm) => [(0, rf K c), (1, rf K c1)]) (fun (h_5 : Mm) => []) (fun (h_5 : Mm) => h_5) (fun P' kj_10 => mj_sub [1, 2, 0] rfl (lX4_begin_2 c c1 hc hc1 C md_N h (0 : Int32) kj_10)) (fun h_5 => ?_)
  refine mj_aload_n C 0 dX4_begin_37 (i := 0) rfl rfl ?_
  refine mj_aload_n C 1 dX4_begin_38 (i := 1) rfl rfl ?_
  refine mj_getI C ff_X4_22 dX4_begin_39 (cn_o hc1) rfl ?_
  refine mj_putL C fp_X4_26 dX4_begin_42 (ps_o hc) rfl rfl rfl (fun h_6 => ?_)
  refine mj_aload_n C 0 dX4_begin_45 (i := 0) rfl rfl ?_
  refine mj_iconst C (v := 0) dX4_begin_46 rfl ?_
  refine mj_putL C fp_X4_27 dX4_begin_47 (ps_o hc) rfl rfl rfl (fun h_7 => ?_)
  refine mj_aload_n C 0 dX4_begin_50 (i := 0) rfl rfl ?_
  refine mj_iconst C (v := 0) dX4_begin_51 rfl ?_
  refine mj_putL C fp_X4_30 dX4_begin_52 (ps_o hc) rfl rfl rfl (fun h_8 => ?_)
  refine mj_aload_n C 0 dX4_begin_55 (i := 0) rfl rfl ?_
  refine mj_iconst C (v := 0) dX4_begin_56 rfl ?_
  refine mj_putL C fp_X4_33 dX4_begin_57 (ps_o hc) rfl rfl rfl (fun h_9 => ?_)
  exact mj_rV C N dX4_begin_60
noncomputable def fX4_mindOf (h : Mm) (c : Nat) (l1 : Int32) : Option (Int32) := md_bd ((if l1 < 0 then some (0 : Int32) else (if (5 : Int32) ≤ l1 then some (0 : Int32) else md_ck (md_in l1 5) (some (h (c + 1) (l1).toNatClampNeg))))) (fun (v_1 : Int32) => some v_1)
set_option maxRecDepth 100000 in
set_option maxHeartbeats 4000000 in
theorem ctX4_mindOf (K : Kx) (h : Mm) (c : Nat) (l1 : Int32) (hc : isPst c) {a : Int32} (hF : fX4_mindOf h c l1 = some a) : Mt K yX4_mindOf cX4_mindOf 2 (some .int) 0 0 SHc [rf K c, .int l1] h (some (.int a)) h := by
  refine Mt.of hF [(0, rf K c), (1, .int l1)] (by decide) (Nat.le_of_ble_eq_true rfl) rfl (fun Y C N => ?_)
  have C : Cx K Y (0, 0) cX4_mindOf RX4 2 0 0 := C
  unfold fX4_mindOf
  refine mj_iload_n C 1 dX4_mindOf_0 (i := 1) rfl rfl ?_
  refine mj_phi1 19 (fun (v_1 : Int32) => []) (fun (v_1 : Int32) => [.int v_1]) (fun (v_1 : Int32) => h) (fun P' kj_2 => ?_) (fun v_1 => ?_)
  · refine mj_if_lt C 18 dX4_mindOf_1 (by decide) ?_ ?_
    · refine mj_iconst C (v := 0) dX4_mindOf_18 rfl ?_
      exact mj_sub [] rfl (mj_some (kj_2 (0 : Int32)))
    · refine mj_iload_n C 1 dX4_mindOf_4 (i := 1) rfl rfl ?_
      refine mj_iconst C (v := 5) dX4_mindOf_5 rfl ?_
      refine mj_icmp_ge C 18 dX4_mindOf_6 (by decide) ?_ ?_
      · refine mj_iconst C (v := 0) dX4_mindOf_18 rfl ?_
        exact mj_sub [] rfl (mj_some (kj_2 (0 : Int32)))
      · refine mj_aload_n C 0 dX4_mindOf_9 (i := 0) rfl rfl ?_
        refine mj_getR C ff_X4_9 dX4_mindOf_10 (ps_o hc) rfl ?_
        refine mj_iload_n C 1 dX4_mindOf_13 (i := 1) rfl rfl ?_
        refine mj_iald C dX4_mindOf_14 (ps_0 hc) ?_
        refine mj_goto C 19 dX4_mindOf_15 (by decide) ?_
        exact mj_sub [] rfl (mj_some (kj_2 (h (c + 1) (l1).toNatClampNeg)))
  · exact mj_rI C N dX4_mindOf_19
noncomputable def fX4_setMind (h : Mm) (c : Nat) (l1 : Int32) (l2 : Int32) : Option (Mm) := md_bd ((if l1 < 0 then some h else (if (5 : Int32) ≤ l1 then some h else md_ck (md_in l1 5) (md_lt (md_up h (c + 1) (l1).toNatClampNeg l2) (fun h_3 : Mm => some h_3))))) (fun (h_1 : Mm) => some h_1)
set_option maxRecDepth 100000 in
set_option maxHeartbeats 4000000 in
theorem ctX4_setMind (K : Kx) (h : Mm) (c : Nat) (l1 : Int32) (l2 : Int32) (hc : isPst c) {a : Mm} (hF : fX4_setMind h c l1 l2 = some a) : Mt K yX4_setMind cX4_setMind 3 none 0 0 SHc [rf K c, .int l1, .int l2] h none a := by
  refine Mt.of hF [(0, rf K c), (1, .int l1), (2, .int l2)] (by decide) (Nat.le_of_ble_eq_true rfl) rfl (fun Y C N => ?_)
  have C : Cx K Y (0, 0) cX4_setMind RX4 3 0 0 := C
  unfold fX4_setMind
  refine mj_iload_n C 1 dX4_setMind_0 (i := 1) rfl rfl ?_
  refine mj_phi1 16 (fun (h_1 : Mm) => []) (fun (h_1 : Mm) => []) (fun (h_1 : Mm) => h_1) (fun P' kj_2 => ?_) (fun h_1 => ?_)
  · refine mj_if_lt C 16 dX4_setMind_1 (by decide) ?_ ?_
    · exact mj_sub [] rfl (mj_some (kj_2 h))
    · refine mj_iload_n C 1 dX4_setMind_4 (i := 1) rfl rfl ?_
      refine mj_iconst C (v := 5) dX4_setMind_5 rfl ?_
      refine mj_icmp_ge C 16 dX4_setMind_6 (by decide) ?_ ?_
      · exact mj_sub [] rfl (mj_some (kj_2 h))
      · refine mj_aload_n C 0 dX4_setMind_9 (i := 0) rfl rfl ?_
        refine mj_getR C ff_X4_9 dX4_setMind_10 (ps_o hc) rfl ?_
        refine mj_iload_n C 1 dX4_setMind_13 (i := 1) rfl rfl ?_
        refine mj_iload_n C 2 dX4_setMind_14 (i := 2) rfl rfl ?_
        refine mj_iast C dX4_setMind_15 (ps_0 hc) (fun h_3 => ?_)
        exact mj_sub [] rfl (mj_some (kj_2 h_3))
  · exact mj_rV C N dX4_setMind_16
noncomputable def fX4_isGone (h : Mm) (c : Nat) (l1 : Int32) : Option (Bool) := md_bd ((if ((h c 2) &&& ((1 : Int32) <<< (l1 &&& 31))) = 0 then some false else some true)) (fun (v_1 : Bool) => some v_1)
set_option maxRecDepth 100000 in
set_option maxHeartbeats 4000000 in
theorem ctX4_isGone (K : Kx) (h : Mm) (c : Nat) (l1 : Int32) (hc : isPst c) {a : Bool} (hF : fX4_isGone h c l1 = some a) : Mt K yX4_isGone cX4_isGone 2 (some .boolean) 0 0 SHc [rf K c, .int l1] h (some (.int (md_bi a))) h := by
  refine Mt.of hF [(0, rf K c), (1, .int l1)] (by decide) (Nat.le_of_ble_eq_true rfl) rfl (fun Y C N => ?_)
  have C : Cx K Y (0, 0) cX4_isGone RX4 2 0 0 := C
  unfold fX4_isGone
  refine mj_aload_n C 0 dX4_isGone_0 (i := 0) rfl rfl ?_
  refine mj_getI C ff_X4_27 dX4_isGone_1 (ps_o hc) rfl ?_
  refine mj_iconst C (v := 1) dX4_isGone_4 rfl ?_
  refine mj_iload_n C 1 dX4_isGone_5 (i := 1) rfl rfl ?_
  refine mj_ishl C dX4_isGone_6 ?_
  refine mj_iand C dX4_isGone_7 ?_
  refine mj_phi1 16 (fun (v_1 : Bool) => []) (fun (v_1 : Bool) => [.int (md_bi v_1)]) (fun (v_1 : Bool) => h) (fun P' kj_2 => ?_) (fun v_1 => ?_)
  · refine mj_if_eq C 15 dX4_isGone_8 (by decide) ?_ ?_
    · refine mj_iconst C (v := 0) dX4_isGone_15 rfl ?_
      exact mj_sub [] rfl (mj_some (kj_2 false))
    · refine mj_iconst C (v := 1) dX4_isGone_11 rfl ?_
      refine mj_goto C 16 dX4_isGone_12 (by decide) ?_
      exact mj_sub [] rfl (mj_some (kj_2 true))
  · exact mj_rZ C N dX4_isGone_16
noncomputable def fX4_comes (h : Mm) (c : Nat) (l1 : Int32) (l2 : Int32) : Option (Mm) := md_bd (fX4_setMind h c l1 l2) (fun h_1 => md_lt (md_up h_1 c 2 ((h_1 c 2) &&& (((1 : Int32) <<< (l1 &&& 31)) ^^^ (-1 : Int32)))) (fun h_2 : Mm => some h_2))
set_option maxRecDepth 100000 in
set_option maxHeartbeats 4000000 in
theorem ctX4_comes (K : Kx) (h : Mm) (c : Nat) (l1 : Int32) (l2 : Int32) (hc : isPst c) {a : Mm} (hF : fX4_comes h c l1 l2 = some a) : Mt K yX4_comes cX4_comes 3 none 1 22 SHc [rf K c, .int l1, .int l2] h none a := by
  refine Mt.of hF [(0, rf K c), (1, .int l1), (2, .int l2)] (by decide) (Nat.le_of_ble_eq_true rfl) rfl (fun Y C N => ?_)
  have C : Cx K Y (0, 0) cX4_comes RX4 3 1 22 := C
  unfold fX4_comes
  refine mj_aload_n C 0 dX4_comes_0 (i := 0) rfl rfl ?_
  refine mj_iload_n C 1 dX4_comes_1 (i := 1) rfl rfl ?_
  refine mj_iload_n C 2 dX4_comes_2 (i := 2) rfl rfl ?_
  refine mj_vM C my_X4_setMind mv_X4_36 dX4_comes_3 (ps_o hc) rfl (fun a hF => ctX4_setMind K h c l1 l2 hc hF) (by decide) (by decide) rfl rfl (Nat.le_of_ble_eq_true rfl) (fun h_1 => ?_)
  refine mj_aload_n C 0 dX4_comes_6 (i := 0) rfl rfl ?_
  refine mj_dup C dX4_comes_7 rfl ?_
  refine mj_getI C ff_X4_27 dX4_comes_8 (ps_o hc) rfl ?_
  refine mj_iconst C (v := 1) dX4_comes_11 rfl ?_
  refine mj_iload_n C 1 dX4_comes_12 (i := 1) rfl rfl ?_
  refine mj_ishl C dX4_comes_13 ?_
  refine mj_iconst C (v := -1) dX4_comes_14 rfl ?_
  refine mj_ixor C dX4_comes_15 ?_
  refine mj_iand C dX4_comes_16 ?_
  refine mj_putL C fp_X4_27 dX4_comes_17 (ps_o hc) rfl rfl rfl (fun h_2 => ?_)
  exact mj_rV C N dX4_comes_20
noncomputable def fX4_leaves (h : Mm) (c : Nat) (l1 : Int32) (l2 : Bool) : Option (Mm) := md_bd ((if l2 = true then md_bd (fX4_mindOf h c l1) (fun r_3 => md_lt (md_up h c 1 ((h c 1) ||| r_3)) (fun h_4 : Mm => some h_4)) else some h)) (fun (h_1 : Mm) => md_lt (md_up h_1 c 2 ((h_1 c 2) ||| ((1 : Int32) <<< (l1 &&& 31)))) (fun h_5 : Mm => some h_5))
set_option maxRecDepth 100000 in
set_option maxHeartbeats 4000000 in
theorem ctX4_leaves (K : Kx) (h : Mm) (c : Nat) (l1 : Int32) (l2 : Bool) (hc : isPst c) {a : Mm} (hF : fX4_leaves h c l1 l2 = some a) : Mt K yX4_leaves cX4_leaves 3 none 1 21 SHc [rf K c, .int l1, .int (md_bi l2)] h none a := by
  refine Mt.of hF [(0, rf K c), (1, .int l1), (2, .int (md_bi l2))] (by decide) (Nat.le_of_ble_eq_true rfl) rfl (fun Y C N => ?_)
  have C : Cx K Y (0, 0) cX4_leaves RX4 3 1 21 := C
  unfold fX4_leaves
  refine mj_iload_n C 2 dX4_leaves_0 (i := 2) rfl rfl ?_
  refine mj_phi1 18 (fun (h_1 : Mm) => [(0, rf K c), (1, .int l1)]) (fun (h_1 : Mm) => []) (fun (h_1 : Mm) => h_1) (fun P' kj_2 => ?_) (fun h_1 => ?_)
  · refine mj_b_eq C 18 dX4_leaves_1 (by decide) ?_ ?_
    · exact mj_sub [0, 1] rfl (mj_some (kj_2 h))
    · refine mj_aload_n C 0 dX4_leaves_4 (i := 0) rfl rfl ?_
      refine mj_dup C dX4_leaves_5 rfl ?_
      refine mj_getI C ff_X4_26 dX4_leaves_6 (ps_o hc) rfl ?_
      refine mj_aload_n C 0 dX4_leaves_9 (i := 0) rfl rfl ?_
      refine mj_iload_n C 1 dX4_leaves_10 (i := 1) rfl rfl ?_
      refine mj_vI C my_X4_mindOf mv_X4_40 dX4_leaves_11 (ps_o hc) rfl (fun a hF => ctX4_mindOf K h c l1 hc hF) (by decide) (by decide) rfl rfl (Nat.le_of_ble_eq_true rfl) (fun r_3 => ?_)
      refine mj_ior C dX4_leaves_14 ?_
      refine mj_putL C fp_X4_26 dX4_leaves_15 (ps_o hc) rfl rfl rfl (fun h_4 => ?_)
      exact mj_sub [0, 1] rfl (mj_some (kj_2 h_4))
  · refine mj_aload_n C 0 dX4_leaves_18 (i := 0) rfl rfl ?_
    refine mj_dup C dX4_leaves_19 rfl ?_
    refine mj_getI C ff_X4_27 dX4_leaves_20 (ps_o hc) rfl ?_
    refine mj_iconst C (v := 1) dX4_leaves_23 rfl ?_
    refine mj_iload_n C 1 dX4_leaves_24 (i := 1) rfl rfl ?_
    refine mj_ishl C dX4_leaves_25 ?_
    refine mj_ior C dX4_leaves_26 ?_
    refine mj_putL C fp_X4_27 dX4_leaves_27 (ps_o hc) rfl rfl rfl (fun h_5 => ?_)
    exact mj_rV C N dX4_leaves_30
noncomputable def fJ6_bitCount_0f7a4 (h : Mm) (l0 : Int32) : Option (Int32) := md_lt (l0 - (((l0.toUInt32 >>> ((1 : Int32).toUInt32 &&& Int32.toUInt32 31)).toInt32) &&& (1431655765 : Int32))) (fun l0_1 : Int32 => md_lt ((l0_1 &&& (858993459 : Int32)) + (((l0_1.toUInt32 >>> ((2 : Int32).toUInt32 &&& Int32.toUInt32 31)).toInt32) &&& (858993459 : Int32))) (fun l0_2 : Int32 => md_lt ((l0_2 + ((l0_2.toUInt32 >>> ((4 : Int32).toUInt32 &&& Int32.toUInt32 31)).toInt32)) &&& (252645135 : Int32)) (fun l0_3 : Int32 => md_lt (l0_3 + ((l0_3.toUInt32 >>> ((8 : Int32).toUInt32 &&& Int32.toUInt32 31)).toInt32)) (fun l0_4 : Int32 => md_lt (l0_4 + ((l0_4.toUInt32 >>> ((16 : Int32).toUInt32 &&& Int32.toUInt32 31)).toInt32)) (fun l0_5 : Int32 => some (l0_5 &&& (63 : Int32)))))))
set_option maxRecDepth 100000 in
set_option maxHeartbeats 4000000 in
theorem ctJ6_bitCount_0f7a4 (K : Kx) (h : Mm) (l0 : Int32) {a : Int32} (hF : fJ6_bitCount_0f7a4 h l0 = some a) : Mt K yJ6_bitCount_0f7a4 cJ6_bitCount_0f7a4 1 (some .int) 0 0 SHc [.int l0] h (some (.int a)) h := by
  refine Mt.of hF [(0, .int l0)] (by decide) (Nat.le_of_ble_eq_true rfl) rfl (fun Y C N => ?_)
  have C : Cx K Y (0, 0) cJ6_bitCount_0f7a4 RJ6 1 0 0 := C
  unfold fJ6_bitCount_0f7a4
  refine mj_iload_n C 0 dJ6_bitCount_0f7a4_0 (i := 0) rfl rfl ?_
  refine mj_iload_n C 0 dJ6_bitCount_0f7a4_1 (i := 0) rfl rfl ?_
  refine mj_iconst C (v := 1) dJ6_bitCount_0f7a4_2 rfl ?_
  refine mj_iushr C dJ6_bitCount_0f7a4_3 ?_
  refine mj_ldcw C kc_J6_265 dJ6_bitCount_0f7a4_4 ?_
  refine mj_iand C dJ6_bitCount_0f7a4_7 ?_
  refine mj_isub C dJ6_bitCount_0f7a4_8 ?_
  refine mj_istore_nL C (fun l0_1 => [(0, .int l0_1)]) dJ6_bitCount_0f7a4_9 (i := 0) rfl (by decide) rfl (fun l0_1 => ?_)
  refine mj_iload_n C 0 dJ6_bitCount_0f7a4_10 (i := 0) rfl rfl ?_
  refine mj_ldcw C kc_J6_266 dJ6_bitCount_0f7a4_11 ?_
  refine mj_iand C dJ6_bitCount_0f7a4_14 ?_
  refine mj_iload_n C 0 dJ6_bitCount_0f7a4_15 (i := 0) rfl rfl ?_
  refine mj_iconst C (v := 2) dJ6_bitCount_0f7a4_16 rfl ?_
  refine mj_iushr C dJ6_bitCount_0f7a4_17 ?_
  refine mj_ldcw C kc_J6_266 dJ6_bitCount_0f7a4_18 ?_
  refine mj_iand C dJ6_bitCount_0f7a4_21 ?_
  refine mj_iadd C dJ6_bitCount_0f7a4_22 ?_
  refine mj_istore_nL C (fun l0_2 => [(0, .int l0_2)]) dJ6_bitCount_0f7a4_23 (i := 0) rfl (by decide) rfl (fun l0_2 => ?_)
  refine mj_iload_n C 0 dJ6_bitCount_0f7a4_24 (i := 0) rfl rfl ?_
  refine mj_iload_n C 0 dJ6_bitCount_0f7a4_25 (i := 0) rfl rfl ?_
  refine mj_iconst C (v := 4) dJ6_bitCount_0f7a4_26 rfl ?_
  refine mj_iushr C dJ6_bitCount_0f7a4_27 ?_
  refine mj_iadd C dJ6_bitCount_0f7a4_28 ?_
  refine mj_ldcw C kc_J6_267 dJ6_bitCount_0f7a4_29 ?_
  refine mj_iand C dJ6_bitCount_0f7a4_32 ?_
  refine mj_istore_nL C (fun l0_3 => [(0, .int l0_3)]) dJ6_bitCount_0f7a4_33 (i := 0) rfl (by decide) rfl (fun l0_3 => ?_)
  refine mj_iload_n C 0 dJ6_bitCount_0f7a4_34 (i := 0) rfl rfl ?_
  refine mj_iload_n C 0 dJ6_bitCount_0f7a4_35 (i := 0) rfl rfl ?_
  refine mj_bipush C (v := 8) dJ6_bitCount_0f7a4_36 rfl ?_
  refine mj_iushr C dJ6_bitCount_0f7a4_38 ?_
  refine mj_iadd C dJ6_bitCount_0f7a4_39 ?_
  refine mj_istore_nL C (fun l0_4 => [(0, .int l0_4)]) dJ6_bitCount_0f7a4_40 (i := 0) rfl (by decide) rfl (fun l0_4 => ?_)
  refine mj_iload_n C 0 dJ6_bitCount_0f7a4_41 (i := 0) rfl rfl ?_
  refine mj_iload_n C 0 dJ6_bitCount_0f7a4_42 (i := 0) rfl rfl ?_
  refine mj_bipush C (v := 16) dJ6_bitCount_0f7a4_43 rfl ?_
  refine mj_iushr C dJ6_bitCount_0f7a4_45 ?_
  refine mj_iadd C dJ6_bitCount_0f7a4_46 ?_
  refine mj_istore_nL C (fun l0_5 => [(0, .int l0_5)]) dJ6_bitCount_0f7a4_47 (i := 0) rfl (by decide) rfl (fun l0_5 => ?_)
  refine mj_iload_n C 0 dJ6_bitCount_0f7a4_48 (i := 0) rfl rfl ?_
  refine mj_bipush C (v := 63) dJ6_bitCount_0f7a4_49 rfl ?_
  refine mj_iand C dJ6_bitCount_0f7a4_51 ?_
  exact mj_rI C N dJ6_bitCount_0f7a4_52
