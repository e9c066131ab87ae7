noncomputable def fX5_append (h : Mm) (l1 : Int32) (l2 : Int32) (l3 : Bool) : Option (Bool × Mm) := (if (h 65 4) < (6 : Int32) then md_ck (md_in (h 65 4) 6) (md_lt (md_up h 66 ((h 65 4)).toNatClampNeg l1) (fun h_1 : Mm => md_ck (md_in (h_1 65 4) 6) (md_lt (md_up h_1 67 ((h_1 65 4)).toNatClampNeg l2) (fun h_2 : Mm => md_ck (md_in (h_2 65 4) 6) (md_lt (md_up h_2 68 ((h_2 65 4)).toNatClampNeg (md_bi l3)) (fun h_3 : Mm => md_lt (md_up h_3 65 4 ((h_3 65 4) + (1 : Int32))) (fun h_4 : Mm => some (true, h_4)))))))) else some (false, h))
set_option maxRecDepth 100000 in
set_option maxHeartbeats 4000000 in
theorem ctX5_append (K : Kx) (h : Mm) (l1 : Int32) (l2 : Int32) (l3 : Bool) {a : Bool × Mm} (hF : fX5_append h l1 l2 l3 = some a) : Mt K yX5_append cX5_append 4 (some .boolean) 0 0 SHc [rf K 65, .int l1, .int l2, .int (md_bi l3)] h (some (.int (md_bi a.1))) a.2 := by
  refine Mt.of hF [(0, rf K 65), (1, .int l1), (2, .int l2), (3, .int (md_bi l3))] (by decide) (Nat.le_of_ble_eq_true rfl) rfl (fun Y C N => ?_)
  have C : Cx K Y (0, 0) cX5_append RX5 4 0 0 := C
  unfold fX5_append
  refine mj_aload_n C 0 dX5_append_0 (i := 0) rfl rfl ?_
  refine mj_getI C ff_X5_25 dX5_append_1 sh_65 rfl ?_
  refine mj_bipush C (v := 6) dX5_append_4 rfl ?_
  refine mj_icmp_lt C 11 dX5_append_6 (by decide) ?_ ?_
  · refine mj_aload_n C 0 dX5_append_11 (i := 0) rfl rfl ?_
    refine mj_getR C ff_X5_9 dX5_append_12 sh_65 rfl ?_
    refine mj_aload_n C 0 dX5_append_15 (i := 0) rfl rfl ?_
    refine mj_getI C ff_X5_25 dX5_append_16 sh_65 rfl ?_
    refine mj_iload_n C 1 dX5_append_19 (i := 1) rfl rfl ?_
    refine mj_iast C dX5_append_20 sh_66 (fun h_1 => ?_)
    refine mj_aload_n C 0 dX5_append_21 (i := 0) rfl rfl ?_
    refine mj_getR C ff_X5_15 dX5_append_22 sh_65 rfl ?_
    refine mj_aload_n C 0 dX5_append_25 (i := 0) rfl rfl ?_
    refine mj_getI C ff_X5_25 dX5_append_26 sh_65 rfl ?_
    refine mj_iload_n C 2 dX5_append_29 (i := 2) rfl rfl ?_
    refine mj_iast C dX5_append_30 sh_67 (fun h_2 => ?_)
    refine mj_aload_n C 0 dX5_append_31 (i := 0) rfl rfl ?_
    refine mj_getR C ff_X5_18 dX5_append_32 sh_65 rfl ?_
    refine mj_aload_n C 0 dX5_append_35 (i := 0) rfl rfl ?_
    refine mj_getI C ff_X5_25 dX5_append_36 sh_65 rfl ?_
    refine mj_iload_n C 3 dX5_append_39 (i := 3) rfl rfl ?_
    refine mj_zast C (v := l3) dX5_append_40 sh_68 (fun h_3 => ?_)
    refine mj_aload_n C 0 dX5_append_41 (i := 0) rfl rfl ?_
    refine mj_dup C dX5_append_42 rfl ?_
    refine mj_getI C ff_X5_25 dX5_append_43 sh_65 rfl ?_
    refine mj_iconst C (v := 1) dX5_append_46 rfl ?_
    refine mj_iadd C dX5_append_47 ?_
    refine mj_putL C fp_X5_25 dX5_append_48 sh_65 rfl rfl rfl (fun h_4 => ?_)
    refine mj_iconst C (v := 1) dX5_append_51 rfl ?_
    exact mj_rZM C N dX5_append_52
  · refine mj_iconst C (v := 0) dX5_append_9 rfl ?_
    exact mj_rZM C N dX5_append_10
noncomputable def fX5_isSo (h : Mm) (l0 : Int32) (l1 : Int32) (l2 : Int32) : Option (Bool) := (if l2 = 0 then md_bd ((if l0 = 0 then some false else some true)) (fun (v_1 : Bool) => some v_1) else if l2 = 1 then md_bd ((if l0 = l1 then some true else some false)) (fun (v_3 : Bool) => some v_3) else md_bd (fJ6_bitCount_0f7a4 h l0) (fun r_5 => md_bd ((if r_5 = (l2 - (2 : Int32)) then some true else some false)) (fun (v_6 : Bool) => some v_6)))
set_option maxRecDepth 100000 in
set_option maxHeartbeats 4000000 in
theorem ctX5_isSo (K : Kx) (h : Mm) (l0 : Int32) (l1 : Int32) (l2 : Int32) {a : Bool} (hF : fX5_isSo h l0 l1 l2 = some a) : Mt K yX5_isSo cX5_isSo 3 (some .boolean) 1 20 SHc [.int l0, .int l1, .int l2] h (some (.int (md_bi a))) h := by
  refine Mt.of hF [(0, .int l0), (1, .int l1), (2, .int l2)] (by decide) (Nat.le_of_ble_eq_true rfl) rfl (fun Y C N => ?_)
  have C : Cx K Y (0, 0) cX5_isSo RX5 3 1 20 := C
  unfold fX5_isSo
  refine mj_iload_n C 2 dX5_isSo_0 (i := 2) rfl rfl ?_
  refine mj_sw0 ?_
  refine mj_lcase C 0 28 dX5_isSo_1 rfl rfl (by decide) ?_ ?_
  · refine mj_iload_n C 0 dX5_isSo_28 (i := 0) rfl rfl ?_
    refine mj_phi1 37 (fun (v_1 : Bool) => []) (fun (v_1 : Bool) => [.int (md_bi v_1)]) (fun (v_1 : Bool) => h) (fun P' kj_2 => ?_) (fun v_1 => ?_)
    · refine mj_if_eq C 36 dX5_isSo_29 (by decide) ?_ ?_
      · refine mj_iconst C (v := 0) dX5_isSo_36 rfl ?_
        exact mj_sub [] rfl (mj_some (kj_2 false))
      · refine mj_iconst C (v := 1) dX5_isSo_32 rfl ?_
        refine mj_goto C 37 dX5_isSo_33 (by decide) ?_
        exact mj_sub [] rfl (mj_some (kj_2 true))
    · exact mj_rZ C N dX5_isSo_37
  refine mj_lcase C 1 38 dX5_isSo_1 rfl rfl (by decide) ?_ ?_
  · refine mj_iload_n C 0 dX5_isSo_38 (i := 0) rfl rfl ?_
    refine mj_iload_n C 1 dX5_isSo_39 (i := 1) rfl rfl ?_
    refine mj_phi1 48 (fun (v_3 : Bool) => []) (fun (v_3 : Bool) => [.int (md_bi v_3)]) (fun (v_3 : Bool) => h) (fun P' kj_4 => ?_) (fun v_3 => ?_)
    · refine mj_icmp_ne C 47 dX5_isSo_40 (by decide) ?_ ?_
      · refine mj_iconst C (v := 0) dX5_isSo_47 rfl ?_
        exact mj_sub [] rfl (mj_some (kj_4 false))
      · refine mj_iconst C (v := 1) dX5_isSo_43 rfl ?_
        refine mj_goto C 48 dX5_isSo_44 (by decide) ?_
        exact mj_sub [] rfl (mj_some (kj_4 true))
    · exact mj_rZ C N dX5_isSo_48
  refine mj_ldflt C 49 dX5_isSo_1 rfl (fun hq => lw_cov2 hq) (by decide) ?_
  refine mj_iload_n C 0 dX5_isSo_49 (i := 0) rfl rfl ?_
  refine mj_sI C my_J6_bitCount_0f7a4 ms_X5_50 dX5_isSo_50 (fun a hF => ctJ6_bitCount_0f7a4 K h l0  hF) (by decide) (by decide) rfl rfl (Nat.le_of_ble_eq_true rfl) (fun r_5 => ?_)
  refine mj_iload_n C 2 dX5_isSo_53 (i := 2) rfl rfl ?_
  refine mj_iconst C (v := 2) dX5_isSo_54 rfl ?_
  refine mj_isub C dX5_isSo_55 ?_
  refine mj_phi1 64 (fun (v_6 : Bool) => []) (fun (v_6 : Bool) => [.int (md_bi v_6)]) (fun (v_6 : Bool) => h) (fun P' kj_7 => ?_) (fun v_6 => ?_)
  · refine mj_icmp_ne C 63 dX5_isSo_56 (by decide) ?_ ?_
    · refine mj_iconst C (v := 0) dX5_isSo_63 rfl ?_
      exact mj_sub [] rfl (mj_some (kj_7 false))
    · refine mj_iconst C (v := 1) dX5_isSo_59 rfl ?_
      refine mj_goto C 64 dX5_isSo_60 (by decide) ?_
      exact mj_sub [] rfl (mj_some (kj_7 true))
  · exact mj_rZ C N dX5_isSo_64
noncomputable def fX5_fits_2 : Nat → Mm → Int32 → Int32 → Option ((Unit) ⊕ (Unit))
  | 0, _, _, _ => none
  | n + 1, h, l1, l2 => (if (h 65 4) ≤ l2 then some (.inr ()) else md_ck (md_in l2 6) (md_ck (md_in l2 6) (md_ck (md_in l2 6) (md_bd (fX5_isSo h (l1 &&& (h 66 (l2).toNatClampNeg)) (h 66 (l2).toNatClampNeg) (h 67 (l2).toNatClampNeg)) (fun r_1 => md_ck (md_in l2 6) ((if (md_bi r_1) = (h 68 (l2).toNatClampNeg) then fX5_fits_2 n h l1 (l2 + 1) else some (.inl ()))))))))
set_option maxRecDepth 100000 in
set_option maxHeartbeats 4000000 in
theorem lX5_fits_2 {K : Kx} {Y : Yx} {cs : Nat × Nat} (C : Cx K Y cs cX5_fits RX5 3 2 42) {P : (Unit) ⊕ (Unit) → Prop} : ∀ (n : Nat) (h : Mm) (l1 : Int32) (l2 : Int32), (∀ (q : Unit), J SHc K Y cs (P (.inl q)) 42 [] [] h) → (∀ (q : Unit), J SHc K Y cs (P (.inr q)) 50 [] [] h) → J SHc K Y cs (mj_O (fX5_fits_2 n h l1 l2) P) 2 [(0, rf K 65), (1, .int l1), (2, .int l2)] [] h := by
  intro n
  induction n with
  | zero => intro h l1 l2 kk0 kk1; exact mj_none
  | succ n ih =>
    intro h l1 l2 kk0 kk1
    rw [fX5_fits_2]
    refine mj_iload_n C 2 dX5_fits_2 (i := 2) rfl rfl ?_
    refine mj_aload_n C 0 dX5_fits_3 (i := 0) rfl rfl ?_
    refine mj_getI C ff_X5_25 dX5_fits_4 sh_65 rfl ?_
    refine mj_icmp_ge C 50 dX5_fits_7 (by decide) ?_ ?_
    · exact mj_sub [] rfl (mj_some (kk1 ()))
    · refine mj_iload_n C 1 dX5_fits_10 (i := 1) rfl rfl ?_
      refine mj_aload_n C 0 dX5_fits_11 (i := 0) rfl rfl ?_
      refine mj_getR C ff_X5_9 dX5_fits_12 sh_65 rfl ?_
      refine mj_iload_n C 2 dX5_fits_15 (i := 2) rfl rfl ?_
      refine mj_iald C dX5_fits_16 sh_66 ?_
      refine mj_iand C dX5_fits_17 ?_
      refine mj_aload_n C 0 dX5_fits_18 (i := 0) rfl rfl ?_
      refine mj_getR C ff_X5_9 dX5_fits_19 sh_65 rfl ?_
      refine mj_iload_n C 2 dX5_fits_22 (i := 2) rfl rfl ?_
      refine mj_iald C dX5_fits_23 sh_66 ?_
      refine mj_aload_n C 0 dX5_fits_24 (i := 0) rfl rfl ?_
      refine mj_getR C ff_X5_15 dX5_fits_25 sh_65 rfl ?_
      refine mj_iload_n C 2 dX5_fits_28 (i := 2) rfl rfl ?_
      refine mj_iald C dX5_fits_29 sh_67 ?_
      refine mj_sB C my_X5_isSo ms_X5_46 dX5_fits_30 (fun a hF => ctX5_isSo K h (l1 &&& (h 66 (l2).toNatClampNeg)) (h 66 (l2).toNatClampNeg) (h 67 (l2).toNatClampNeg)  hF) (by decide) (by decide) rfl rfl (Nat.le_of_ble_eq_true rfl) (fun r_1 => ?_)
      refine mj_aload_n C 0 dX5_fits_33 (i := 0) rfl rfl ?_
      refine mj_getR C ff_X5_18 dX5_fits_34 sh_65 rfl ?_
      refine mj_iload_n C 2 dX5_fits_37 (i := 2) rfl rfl ?_
      refine mj_zald C dX5_fits_38 sh_68 ?_
      refine mj_icmp_eq C 44 dX5_fits_39 (by decide) ?_ ?_
      · refine mj_iinc C (l2 + 1) 2 [(2, .int (l2 + 1)), (0, rf K 65), (1, .int l1)] dX5_fits_44 rfl rfl (by decide) rfl ?_
        refine mj_goto C 2 dX5_fits_47 (by decide) ?_
        exact mj_sub [1, 2, 0] rfl (ih h l1 (l2 + 1) kk0 kk1)
      · exact mj_sub [] rfl (mj_some (kk0 ()))
noncomputable def fX5_fits (h : Mm) (l1 : Int32) : Option (Bool) := md_bS (fX5_fits_2 md_N h l1 (0 : Int32)) (fun q_2 : Unit => some false) (fun q_3 : Unit => some true)
set_option maxRecDepth 100000 in
set_option maxHeartbeats 4000000 in
theorem ctX5_fits (K : Kx) (h : Mm) (l1 : Int32) {a : Bool} (hF : fX5_fits h l1 = some a) : Mt K yX5_fits cX5_fits 3 (some .boolean) 2 42 SHc [rf K 65, .int l1] h (some (.int (md_bi a))) h := by
  refine Mt.of hF [(0, rf K 65), (1, .int l1)] (by decide) (Nat.le_of_ble_eq_true rfl) rfl (fun Y C N => ?_)
  have C : Cx K Y (0, 0) cX5_fits RX5 3 2 42 := C
  unfold fX5_fits
  refine mj_iconst C (v := 0) dX5_fits_0 rfl ?_
  refine mj_istore_n C [(2, .int (0 : Int32)), (0, rf K 65), (1, .int l1)] dX5_fits_1 (i := 2) rfl (by decide) rfl ?_
  refine mj_phiS 42 50 (fun q_2 => []) (fun q_3 => []) (fun q_2 => h) (fun q_3 => h) (fun P' kj_4 kj_5 => mj_sub [1, 2, 0] rfl (lX5_fits_2 C md_N h l1 (0 : Int32) kj_4 kj_5)) (fun q_2 => ?_) (fun q_3 => ?_)
  · refine mj_iconst C (v := 0) dX5_fits_42 rfl ?_
    exact mj_rZ C N dX5_fits_43
  · refine mj_iconst C (v := 1) dX5_fits_50 rfl ?_
    exact mj_rZ C N dX5_fits_51
noncomputable def fX5_countIdeas_2 : Nat → Mm → Int32 → Int32 → Option (Mm)
  | 0, _, _, _ => none
  | n + 1, h, l1, l2 => (if (8 : Int32) ≤ l2 then some h else md_ck (md_in l2 8) (md_ck (md_in l2 8) (md_lt (md_up h 69 (l2).toNatClampNeg ((h 69 (l2).toNatClampNeg) + ((l1 >>> (l2 &&& 31)) &&& (1 : Int32)))) (fun h_1 : Mm => fX5_countIdeas_2 n h_1 l1 (l2 + 1)))))
set_option maxRecDepth 100000 in
set_option maxHeartbeats 4000000 in
theorem lX5_countIdeas_2 {K : Kx} {Y : Yx} {cs : Nat × Nat} (C : Cx K Y cs cX5_countIdeas RX5 3 0 0) {P : Mm → Prop} : ∀ (n : Nat) (h : Mm) (l1 : Int32) (l2 : Int32), (∀ (hw : Mm), J SHc K Y cs (P hw) 28 [] [] hw) → J SHc K Y cs (mj_O (fX5_countIdeas_2 n h l1 l2) P) 2 [(0, rf K 65), (1, .int l1), (2, .int l2)] [] h := by
  intro n
  induction n with
  | zero => intro h l1 l2 kk0; exact mj_none
  | succ n ih =>
    intro h l1 l2 kk0
    rw [fX5_countIdeas_2]
    refine mj_iload_n C 2 dX5_countIdeas_2 (i := 2) rfl rfl ?_
    refine mj_bipush C (v := 8) dX5_countIdeas_3 rfl ?_
    refine mj_icmp_ge C 28 dX5_countIdeas_5 (by decide) ?_ ?_
    · exact mj_sub [] rfl (mj_some (kk0 h))
    · refine mj_aload_n C 0 dX5_countIdeas_8 (i := 0) rfl rfl ?_
      refine mj_getR C ff_X5_22 dX5_countIdeas_9 sh_65 rfl ?_
      refine mj_iload_n C 2 dX5_countIdeas_12 (i := 2) rfl rfl ?_
      refine mj_dup2 C dX5_countIdeas_13 rfl rfl ?_
      refine mj_iald C dX5_countIdeas_14 sh_69 ?_
      refine mj_iload_n C 1 dX5_countIdeas_15 (i := 1) rfl rfl ?_
      refine mj_iload_n C 2 dX5_countIdeas_16 (i := 2) rfl rfl ?_
      refine mj_ishr C dX5_countIdeas_17 ?_
      refine mj_iconst C (v := 1) dX5_countIdeas_18 rfl ?_
      refine mj_iand C dX5_countIdeas_19 ?_
      refine mj_iadd C dX5_countIdeas_20 ?_
      refine mj_iast C dX5_countIdeas_21 sh_69 (fun h_1 => ?_)
      refine mj_iinc C (l2 + 1) 2 [(2, .int (l2 + 1)), (0, rf K 65), (1, .int l1)] dX5_countIdeas_22 rfl rfl (by decide) rfl ?_
      refine mj_goto C 2 dX5_countIdeas_25 (by decide) ?_
      exact mj_sub [1, 2, 0] rfl (ih h_1 l1 (l2 + 1) kk0)
noncomputable def fX5_countIdeas (h : Mm) (l1 : Int32) : Option (Mm) := md_bd (fX5_countIdeas_2 md_N h l1 (0 : Int32)) (fun (h_2 : Mm) => some h_2)
set_option maxRecDepth 100000 in
set_option maxHeartbeats 4000000 in
theorem ctX5_countIdeas (K : Kx) (h : Mm) (l1 : Int32) {a : Mm} (hF : fX5_countIdeas h l1 = some a) : Mt K yX5_countIdeas cX5_countIdeas 3 none 0 0 SHc [rf K 65, .int l1] h none a := by
  refine Mt.of hF [(0, rf K 65), (1, .int l1)] (by decide) (Nat.le_of_ble_eq_true rfl) rfl (fun Y C N => ?_)
  have C : Cx K Y (0, 0) cX5_countIdeas RX5 3 0 0 := C
  unfold fX5_countIdeas
  refine mj_iconst C (v := 0) dX5_countIdeas_0 rfl ?_
  refine mj_istore_n C [(2, .int (0 : Int32)), (0, rf K 65), (1, .int l1)] dX5_countIdeas_1 (i := 2) rfl (by decide) rfl ?_
  refine mj_phi1 28 (fun (h_2 : Mm) => []) (fun (h_2 : Mm) => []) (fun (h_2 : Mm) => h_2) (fun P' kj_3 => mj_sub [1, 2, 0] rfl (lX5_countIdeas_2 C md_N h l1 (0 : Int32) kj_3)) (fun h_2 => ?_)
  exact mj_rV C N dX5_countIdeas_28
noncomputable def fX5_look_17 : Nat → Mm → Int32 → Int32 → Option (Mm)
  | 0, _, _, _ => none
  | n + 1, h, l1, l2 => (if (8 : Int32) ≤ l2 then some h else md_ck (md_in l2 8) (md_lt (md_up h 69 (l2).toNatClampNeg (0 : Int32)) (fun h_4 : Mm => fX5_look_17 n h_4 l1 (l2 + 1))))
set_option maxRecDepth 100000 in
set_option maxHeartbeats 4000000 in
theorem lX5_look_17 {K : Kx} {Y : Yx} {cs : Nat × Nat} (C : Cx K Y cs cX5_look RX5 4 3 64) {P : Mm → Prop} : ∀ (n : Nat) (h : Mm) (l1 : Int32) (l2 : Int32), (∀ (hw : Mm), J SHc K Y cs (P hw) 36 [(0, rf K 65), (1, .int l1)] [] hw) → J SHc K Y cs (mj_O (fX5_look_17 n h l1 l2) P) 17 [(0, rf K 65), (1, .int l1), (2, .int l2)] [] h := by
  intro n
  induction n with
  | zero => intro h l1 l2 kk0; exact mj_none
  | succ n ih =>
    intro h l1 l2 kk0
    rw [fX5_look_17]
    refine mj_iload_n C 2 dX5_look_17 (i := 2) rfl rfl ?_
    refine mj_bipush C (v := 8) dX5_look_18 rfl ?_
    refine mj_icmp_ge C 36 dX5_look_20 (by decide) ?_ ?_
    · exact mj_sub [0, 1] rfl (mj_some (kk0 h))
    · refine mj_aload_n C 0 dX5_look_23 (i := 0) rfl rfl ?_
      refine mj_getR C ff_X5_22 dX5_look_24 sh_65 rfl ?_
      refine mj_iload_n C 2 dX5_look_27 (i := 2) rfl rfl ?_
      refine mj_iconst C (v := 0) dX5_look_28 rfl ?_
      refine mj_iast C dX5_look_29 sh_69 (fun h_4 => ?_)
      refine mj_iinc C (l2 + 1) 2 [(2, .int (l2 + 1)), (0, rf K 65), (1, .int l1)] dX5_look_30 rfl rfl (by decide) rfl ?_
      refine mj_goto C 17 dX5_look_33 (by decide) ?_
      exact mj_sub [1, 2, 0] rfl (ih h_4 l1 (l2 + 1) kk0)
noncomputable def fX5_look_42 : Nat → Mm → Int32 → Int32 → Option (Mm)
  | 0, _, _, _ => none
  | n + 1, h, l2, l3 => (if l2 ≤ l3 then some h else md_bd (fX5_fits h l3) (fun r_7 => md_bd ((if r_7 = true then md_bd ((if (h 65 5) = 0 then some l3 else some (h 65 6))) (fun (v_10 : Int32) => md_lt (md_up h 65 6 v_10) (fun h_12 : Mm => md_bd ((if (h_12 65 5) = 0 then some l3 else some ((h_12 65 7) &&& l3))) (fun (v_13 : Int32) => md_lt (md_up h_12 65 7 v_13) (fun h_15 : Mm => md_lt (md_up h_15 65 5 ((h_15 65 5) + (1 : Int32))) (fun h_16 : Mm => md_bd (fX5_countIdeas h_16 l3) (fun h_17 => some h_17)))))) else some h)) (fun (h_8 : Mm) => fX5_look_42 n h_8 l2 (l3 + 1))))
set_option maxRecDepth 100000 in
set_option maxHeartbeats 4000000 in
theorem lX5_look_42 {K : Kx} {Y : Yx} {cs : Nat × Nat} (C : Cx K Y cs cX5_look RX5 4 3 64) {P : Mm → Prop} : ∀ (n : Nat) (h : Mm) (l2 : Int32) (l3 : Int32), (∀ (hw : Mm), J SHc K Y cs (P hw) 116 [] [] hw) → J SHc K Y cs (mj_O (fX5_look_42 n h l2 l3) P) 42 [(0, rf K 65), (2, .int l2), (3, .int l3)] [] h := by
  intro n
  induction n with
  | zero => intro h l2 l3 kk0; exact mj_none
  | succ n ih =>
    intro h l2 l3 kk0
    rw [fX5_look_42]
    refine mj_iload_n C 2 dX5_look_42 (i := 3) rfl rfl ?_
    refine mj_iload_n C 1 dX5_look_43 (i := 2) rfl rfl ?_
    refine mj_icmp_ge C 116 dX5_look_44 (by decide) ?_ ?_
    · exact mj_sub [] rfl (mj_some (kk0 h))
    · refine mj_aload_n C 0 dX5_look_47 (i := 0) rfl rfl ?_
      refine mj_iload_n C 2 dX5_look_48 (i := 3) rfl rfl ?_
      refine mj_vB C my_X5_fits mv_X5_38 dX5_look_49 sh_65 rfl (fun a hF => ctX5_fits K h l3  hF) (by decide) (by decide) rfl rfl (Nat.le_of_ble_eq_true rfl) (fun r_7 => ?_)
      refine mj_phi1 110 (fun (h_8 : Mm) => [(0, rf K 65), (2, .int l2), (3, .int l3)]) (fun (h_8 : Mm) => []) (fun (h_8 : Mm) => h_8) (fun P' kj_9 => ?_) (fun h_8 => ?_)
      · refine mj_b_eq C 110 dX5_look_52 (by decide) ?_ ?_
        · exact mj_sub [0, 1, 2] rfl (mj_some (kj_9 h))
        · refine mj_aload_n C 0 dX5_look_55 (i := 0) rfl rfl ?_
          refine mj_aload_n C 0 dX5_look_56 (i := 0) rfl rfl ?_
          refine mj_getI C ff_X5_29 dX5_look_57 sh_65 rfl ?_
          refine mj_phi1 71 (fun (v_10 : Int32) => [(0, rf K 65), (2, .int l2), (3, .int l3)]) (fun (v_10 : Int32) => [.int v_10, rf K 65]) (fun (v_10 : Int32) => h) (fun P' kj_11 => ?_) (fun v_10 => ?_)
          · refine mj_if_ne C 67 dX5_look_60 (by decide) ?_ ?_
            · refine mj_aload_n C 0 dX5_look_67 (i := 0) rfl rfl ?_
              refine mj_getI C ff_X5_32 dX5_look_68 sh_65 rfl ?_
              exact mj_sub [0, 1, 2] rfl (mj_some (kj_11 (h 65 6)))
            · refine mj_iload_n C 2 dX5_look_63 (i := 3) rfl rfl ?_
              refine mj_goto C 71 dX5_look_64 (by decide) ?_
              exact mj_sub [0, 1, 2] rfl (mj_some (kj_11 l3))
          · refine mj_putL C fp_X5_32 dX5_look_71 sh_65 rfl rfl rfl (fun h_12 => ?_)
            refine mj_aload_n C 0 dX5_look_74 (i := 0) rfl rfl ?_
            refine mj_aload_n C 0 dX5_look_75 (i := 0) rfl rfl ?_
            refine mj_getI C ff_X5_29 dX5_look_76 sh_65 rfl ?_
            refine mj_phi1 92 (fun (v_13 : Int32) => [(0, rf K 65), (2, .int l2), (3, .int l3)]) (fun (v_13 : Int32) => [.int v_13, rf K 65]) (fun (v_13 : Int32) => h_12) (fun P' kj_14 => ?_) (fun v_13 => ?_)
            · refine mj_if_ne C 86 dX5_look_79 (by decide) ?_ ?_
              · refine mj_aload_n C 0 dX5_look_86 (i := 0) rfl rfl ?_
                refine mj_getI C ff_X5_35 dX5_look_87 sh_65 rfl ?_
                refine mj_iload_n C 2 dX5_look_90 (i := 3) rfl rfl ?_
                refine mj_iand C dX5_look_91 ?_
                exact mj_sub [0, 1, 2] rfl (mj_some (kj_14 ((h_12 65 7) &&& l3)))
              · refine mj_iload_n C 2 dX5_look_82 (i := 3) rfl rfl ?_
                refine mj_goto C 92 dX5_look_83 (by decide) ?_
                exact mj_sub [0, 1, 2] rfl (mj_some (kj_14 l3))
            · refine mj_putL C fp_X5_35 dX5_look_92 sh_65 rfl rfl rfl (fun h_15 => ?_)
              refine mj_aload_n C 0 dX5_look_95 (i := 0) rfl rfl ?_
              refine mj_dup C dX5_look_96 rfl ?_
              refine mj_getI C ff_X5_29 dX5_look_97 sh_65 rfl ?_
              refine mj_iconst C (v := 1) dX5_look_100 rfl ?_
              refine mj_iadd C dX5_look_101 ?_
              refine mj_putL C fp_X5_29 dX5_look_102 sh_65 rfl rfl rfl (fun h_16 => ?_)
              refine mj_aload_n C 0 dX5_look_105 (i := 0) rfl rfl ?_
              refine mj_iload_n C 2 dX5_look_106 (i := 3) rfl rfl ?_
              refine mj_vM C my_X5_countIdeas mv_X5_42 dX5_look_107 sh_65 rfl (fun a hF => ctX5_countIdeas K h_16 l3  hF) (by decide) (by decide) rfl rfl (Nat.le_of_ble_eq_true rfl) (fun h_17 => ?_)
              exact mj_sub [0, 1, 2] rfl (mj_some (kj_9 h_17))
      · refine mj_iinc C (l3 + 1) 2 [(3, .int (l3 + 1)), (0, rf K 65), (2, .int l2)] dX5_look_110 rfl rfl (by decide) rfl ?_
        refine mj_goto C 42 dX5_look_113 (by decide) ?_
        exact mj_sub [1, 2, 0] rfl (ih h_8 l2 (l3 + 1) kk0)
noncomputable def fX5_look (h : Mm) (l1 : Int32) : Option (Mm) := md_lt (md_up h 65 5 (0 : Int32)) (fun h_1 : Mm => md_lt (md_up h_1 65 6 (-1 : Int32)) (fun h_2 : Mm => md_lt (md_up h_2 65 7 (0 : Int32)) (fun h_3 : Mm => md_bd (fX5_look_17 md_N h_3 l1 (0 : Int32)) (fun (h_5 : Mm) => md_lt ((1 : Int32) <<< (l1 &&& 31)) (fun l2_6 : Int32 => md_bd (fX5_look_42 md_N h_5 l2_6 (0 : Int32)) (fun (h_18 : Mm) => some h_18))))))
set_option maxRecDepth 100000 in
set_option maxHeartbeats 4000000 in
theorem ctX5_look (K : Kx) (h : Mm) (l1 : Int32) {a : Mm} (hF : fX5_look h l1 = some a) : Mt K yX5_look cX5_look 4 none 3 64 SHc [rf K 65, .int l1] h none a := by
  refine Mt.of hF [(0, rf K 65), (1, .int l1)] (by decide) (Nat.le_of_ble_eq_true rfl) rfl (fun Y C N => ?_)
  have C : Cx K Y (0, 0) cX5_look RX5 4 3 64 := C
  unfold fX5_look
  refine mj_aload_n C 0 dX5_look_0 (i := 0) rfl rfl ?_
  refine mj_iconst C (v := 0) dX5_look_1 rfl ?_
  refine mj_putL C fp_X5_29 dX5_look_2 sh_65 rfl rfl rfl (fun h_1 => ?_)
  refine mj_aload_n C 0 dX5_look_5 (i := 0) rfl rfl ?_
  refine mj_iconst C (v := -1) dX5_look_6 rfl ?_
  refine mj_putL C fp_X5_32 dX5_look_7 sh_65 rfl rfl rfl (fun h_2 => ?_)
  refine mj_aload_n C 0 dX5_look_10 (i := 0) rfl rfl ?_
  refine mj_iconst C (v := 0) dX5_look_11 rfl ?_
  refine mj_putL C fp_X5_35 dX5_look_12 sh_65 rfl rfl rfl (fun h_3 => ?_)
  refine mj_iconst C (v := 0) dX5_look_15 rfl ?_
  refine mj_istore_n C [(2, .int (0 : Int32)), (0, rf K 65), (1, .int l1)] dX5_look_16 (i := 2) rfl (by decide) rfl ?_
  refine mj_phi1 36 (fun (h_5 : Mm) => [(0, rf K 65), (1, .int l1)]) (fun (h_5 : Mm) => []) (fun (h_5 : Mm) => h_5) (fun P' kj_20 => mj_sub [1, 2, 0] rfl (lX5_look_17 C md_N h_3 l1 (0 : Int32) kj_20)) (fun h_5 => ?_)
  refine mj_iconst C (v := 1) dX5_look_36 rfl ?_
  refine mj_iload_n C 1 dX5_look_37 (i := 1) rfl rfl ?_
  refine mj_ishl C dX5_look_38 ?_
  refine mj_istore_nL C (fun l2_6 => [(2, .int l2_6), (0, rf K 65), (1, .int l1)]) dX5_look_39 (i := 2) rfl (by decide) rfl (fun l2_6 => ?_)
  refine mj_iconst C (v := 0) dX5_look_40 rfl ?_
  refine mj_istore_n C [(3, .int (0 : Int32)), (2, .int l2_6), (0, rf K 65), (1, .int l1)] dX5_look_41 (i := 3) rfl (by decide) rfl ?_
  refine mj_phi1 116 (fun (h_18 : Mm) => []) (fun (h_18 : Mm) => []) (fun (h_18 : Mm) => h_18) (fun P' kj_19 => mj_sub [2, 1, 0] rfl (lX5_look_42 C md_N h_5 l2_6 (0 : Int32) kj_19)) (fun h_18 => ?_)
  exact mj_rV C N dX5_look_116
noncomputable def fX5_bestIdea_9 : Nat → Mm → Int32 → Int32 → Int32 → Option (Int32)
  | 0, _, _, _, _ => none
  | n + 1, h, l1, l2, l3 => (if (8 : Int32) ≤ l3 then some l1 else md_ck (md_in l3 8) (md_ck (md_in l3 8) (md_lt (if (h 69 (l3).toNatClampNeg) < ((h 65 5) - (h 69 (l3).toNatClampNeg)) then ((h 65 5) - (h 69 (l3).toNatClampNeg)) else (h 69 (l3).toNatClampNeg)) (fun l4_2 : Int32 => md_b2 ((if l2 ≤ l4_2 then some (l1, l2) else some (l3, l4_2))) (fun (v_3 : Int32) (v_4 : Int32) => fX5_bestIdea_9 n h v_3 v_4 (l3 + 1))))))
set_option maxRecDepth 100000 in
set_option maxHeartbeats 4000000 in
theorem lX5_bestIdea_9 {K : Kx} {Y : Yx} {cs : Nat × Nat} (C : Cx K Y cs cX5_bestIdea RX5 5 1 21) {P : Int32 → Prop} : ∀ (n : Nat) (h : Mm) (l1 : Int32) (l2 : Int32) (l3 : Int32), (∀ (w1 : Int32), J SHc K Y cs (P w1) 54 [(1, .int w1)] [] h) → J SHc K Y cs (mj_O (fX5_bestIdea_9 n h l1 l2 l3) P) 9 [(0, rf K 65), (1, .int l1), (2, .int l2), (3, .int l3)] [] h := by
  intro n
  induction n with
  | zero => intro h l1 l2 l3 kk0; exact mj_none
  | succ n ih =>
    intro h l1 l2 l3 kk0
    rw [fX5_bestIdea_9]
    refine mj_iload_n C 3 dX5_bestIdea_9 (i := 3) rfl rfl ?_
    refine mj_bipush C (v := 8) dX5_bestIdea_10 rfl ?_
    refine mj_icmp_ge C 54 dX5_bestIdea_12 (by decide) ?_ ?_
    · exact mj_sub [1] rfl (mj_some (kk0 l1))
    · refine mj_aload_n C 0 dX5_bestIdea_15 (i := 0) rfl rfl ?_
      refine mj_getR C ff_X5_22 dX5_bestIdea_16 sh_65 rfl ?_
      refine mj_iload_n C 3 dX5_bestIdea_19 (i := 3) rfl rfl ?_
      refine mj_iald C dX5_bestIdea_20 sh_69 ?_
      refine mj_aload_n C 0 dX5_bestIdea_21 (i := 0) rfl rfl ?_
      refine mj_getI C ff_X5_29 dX5_bestIdea_22 sh_65 rfl ?_
      refine mj_aload_n C 0 dX5_bestIdea_25 (i := 0) rfl rfl ?_
      refine mj_getR C ff_X5_22 dX5_bestIdea_26 sh_65 rfl ?_
      refine mj_iload_n C 3 dX5_bestIdea_29 (i := 3) rfl rfl ?_
      refine mj_iald C dX5_bestIdea_30 sh_69 ?_
      refine mj_isub C dX5_bestIdea_31 ?_
      refine mj_mmax C ml_X5_56 mm_max.1 mm_max.2.1 mm_max.2.2 (by decide) (Nat.le_of_ble_eq_true rfl) dX5_bestIdea_32 ?_
      refine mj_istoreL C (fun l4_2 => [(4, .int l4_2), (0, rf K 65), (1, .int l1), (2, .int l2), (3, .int l3)]) dX5_bestIdea_35 (by decide) rfl (fun l4_2 => ?_)
      refine mj_iload C 0 dX5_bestIdea_37 rfl ?_
      refine mj_iload_n C 3 dX5_bestIdea_39 (i := 2) rfl rfl ?_
      refine mj_phi2 48 (fun (v_3 : Int32) (v_4 : Int32) => [(0, rf K 65), (1, .int v_3), (2, .int v_4), (3, .int l3)]) (fun (v_3 : Int32) (v_4 : Int32) => []) (fun (v_3 : Int32) (v_4 : Int32) => h) (fun P' kj_5 => ?_) (fun v_3 v_4 => ?_)
      · refine mj_icmp_ge C 48 dX5_bestIdea_40 (by decide) ?_ ?_
        · exact mj_sub [1, 2, 3, 4] rfl (mj_some (kj_5 l1 l2))
        · refine mj_iload_n C 4 dX5_bestIdea_43 (i := 3) rfl rfl ?_
          refine mj_istore_n C [(1, .int l3), (4, .int l4_2), (0, rf K 65), (2, .int l2), (3, .int l3)] dX5_bestIdea_44 (i := 1) rfl (by decide) rfl ?_
          refine mj_iload C 1 dX5_bestIdea_45 rfl ?_
          refine mj_istore_n C [(2, .int l4_2), (1, .int l3), (4, .int l4_2), (0, rf K 65), (3, .int l3)] dX5_bestIdea_47 (i := 2) rfl (by decide) rfl ?_
          exact mj_sub [3, 1, 0, 4] rfl (mj_some (kj_5 l3 l4_2))
      · refine mj_iinc C (l3 + 1) 3 [(3, .int (l3 + 1)), (0, rf K 65), (1, .int v_3), (2, .int v_4)] dX5_bestIdea_48 rfl rfl (by decide) rfl ?_
        refine mj_goto C 9 dX5_bestIdea_51 (by decide) ?_
        exact mj_sub [1, 2, 3, 0] rfl (ih h v_3 v_4 (l3 + 1) kk0)
noncomputable def fX5_bestIdea (h : Mm) : Option (Int32) := md_lt (h 65 5) (fun l2_1 : Int32 => md_bd (fX5_bestIdea_9 md_N h (-1 : Int32) l2_1 (0 : Int32)) (fun (v_6 : Int32) => some v_6))
set_option maxRecDepth 100000 in
set_option maxHeartbeats 4000000 in
theorem ctX5_bestIdea (K : Kx) (h : Mm) {a : Int32} (hF : fX5_bestIdea h = some a) : Mt K yX5_bestIdea cX5_bestIdea 5 (some .int) 1 21 SHc [rf K 65] h (some (.int a)) h := by
  refine Mt.of hF [(0, rf K 65)] (by decide) (Nat.le_of_ble_eq_true rfl) rfl (fun Y C N => ?_)
  have C : Cx K Y (0, 0) cX5_bestIdea RX5 5 1 21 := C
  unfold fX5_bestIdea
  refine mj_iconst C (v := -1) dX5_bestIdea_0 rfl ?_
  refine mj_istore_n C [(1, .int (-1 : Int32)), (0, rf K 65)] dX5_bestIdea_1 (i := 1) rfl (by decide) rfl ?_
  refine mj_aload_n C 1 dX5_bestIdea_2 (i := 0) rfl rfl ?_
  refine mj_getI C ff_X5_29 dX5_bestIdea_3 sh_65 rfl ?_
  refine mj_istore_nL C (fun l2_1 => [(2, .int l2_1), (1, .int (-1 : Int32)), (0, rf K 65)]) dX5_bestIdea_6 (i := 2) rfl (by decide) rfl (fun l2_1 => ?_)
  refine mj_iconst C (v := 0) dX5_bestIdea_7 rfl ?_
  refine mj_istore_n C [(3, .int (0 : Int32)), (2, .int l2_1), (1, .int (-1 : Int32)), (0, rf K 65)] dX5_bestIdea_8 (i := 3) rfl (by decide) rfl ?_
  refine mj_phi1 54 (fun (v_6 : Int32) => [(1, .int v_6)]) (fun (v_6 : Int32) => []) (fun (v_6 : Int32) => h) (fun P' kj_7 => mj_sub [3, 2, 1, 0] rfl (lX5_bestIdea_9 C md_N h (-1 : Int32) l2_1 (0 : Int32) kj_7)) (fun v_6 => ?_)
  refine mj_iload_n C 0 dX5_bestIdea_54 (i := 1) rfl rfl ?_
  exact mj_rI C N dX5_bestIdea_55
noncomputable def fX6_append (h : Mm) (l1 : Int32) : Option (Bool × Mm) := (if (h 1 1) < (240 : Int32) then md_ck (md_in (h 1 1) 240) (md_lt (md_up h 2 ((h 1 1)).toNatClampNeg l1) (fun h_1 : Mm => md_lt (md_up h_1 1 1 ((h_1 1 1) + (1 : Int32))) (fun h_2 : Mm => some (true, h_2)))) else some (false, h))
set_option maxRecDepth 100000 in
set_option maxHeartbeats 4000000 in
theorem ctX6_append (K : Kx) (h : Mm) (l1 : Int32) {a : Bool × Mm} (hF : fX6_append h l1 = some a) : Mt K yX6_append cX6_append 2 (some .boolean) 0 0 SHc [rf K 1, .int l1] h (some (.int (md_bi a.1))) a.2 := by
  refine Mt.of hF [(0, rf K 1), (1, .int l1)] (by decide) (Nat.le_of_ble_eq_true rfl) rfl (fun Y C N => ?_)
  have C : Cx K Y (0, 0) cX6_append RX6 2 0 0 := C
  unfold fX6_append
  refine mj_aload_n C 0 dX6_append_0 (i := 0) rfl rfl ?_
  refine mj_getI C ff_X6_26 dX6_append_1 sh_1 rfl ?_
  refine mj_sipush C (v := 240) dX6_append_4 rfl ?_
  refine mj_icmp_lt C 12 dX6_append_7 (by decide) ?_ ?_
  · refine mj_aload_n C 0 dX6_append_12 (i := 0) rfl rfl ?_
    refine mj_getR C ff_X6_9 dX6_append_13 sh_1 rfl ?_
    refine mj_aload_n C 0 dX6_append_16 (i := 0) rfl rfl ?_
    refine mj_getI C ff_X6_26 dX6_append_17 sh_1 rfl ?_
    refine mj_iload_n C 1 dX6_append_20 (i := 1) rfl rfl ?_
    refine mj_iast C dX6_append_21 sh_2 (fun h_1 => ?_)
    refine mj_aload_n C 0 dX6_append_22 (i := 0) rfl rfl ?_
    refine mj_dup C dX6_append_23 rfl ?_
    refine mj_getI C ff_X6_26 dX6_append_24 sh_1 rfl ?_
    refine mj_iconst C (v := 1) dX6_append_27 rfl ?_
    refine mj_iadd C dX6_append_28 ?_
    refine mj_putL C fp_X6_26 dX6_append_29 sh_1 rfl rfl rfl (fun h_2 => ?_)
    refine mj_iconst C (v := 1) dX6_append_32 rfl ?_
    exact mj_rZM C N dX6_append_33
  · refine mj_iconst C (v := 0) dX6_append_10 rfl ?_
    exact mj_rZM C N dX6_append_11
noncomputable def fX6_exchange (h : Mm) (c1 : Nat) : Option (Nat × Mm) := md_lt (md_up h 1 6 (md_ex c1)) (fun h_1 : Mm => some ((md_dx (h 1 6)), h_1))
set_option maxRecDepth 100000 in
set_option maxHeartbeats 4000000 in
theorem ctX6_exchange (K : Kx) (h : Mm) (c1 : Nat) (hc1 : isCnt c1) {a : Nat × Mm} (hF : fX6_exchange h c1 = some a) : Mt K yX6_exchange cX6_exchange 3 (some (.object "MindDuty$Country")) 0 0 SHc [rf K 1, rf K c1] h (some (rf K a.1)) a.2 := by
  refine Mt.of hF [(0, rf K 1), (1, rf K c1)] (by decide) (Nat.le_of_ble_eq_true rfl) rfl (fun Y C N => ?_)
  have C : Cx K Y (0, 0) cX6_exchange RX6 3 0 0 := C
  unfold fX6_exchange
  refine mj_aload_n C 0 dX6_exchange_0 (i := 0) rfl rfl ?_
  refine mj_getM C ff_X6_22 dX6_exchange_1 sh_1 rfl ?_
  refine mj_astore_n C [(2, rf K (md_dx (h 1 6))), (0, rf K 1), (1, rf K c1)] dX6_exchange_4 (i := 2) rfl (by decide) rfl ?_
  refine mj_aload_n C 1 dX6_exchange_5 (i := 0) rfl rfl ?_
  refine mj_aload_n C 2 dX6_exchange_6 (i := 1) rfl rfl ?_
  refine mj_putM C fp_X6_22 dX6_exchange_7 sh_1 rfl (cnt_ex hc1) (fun _ => rfl) (fun _ => rfl) (fun h_1 => ?_)
  refine mj_aload_n C 0 dX6_exchange_10 (i := 2) rfl rfl ?_
  exact mj_rAM C N dX6_exchange_11
noncomputable def fX6_skipBlanks_0 : Nat → Mm → Option (Mm)
  | 0, _ => none
  | n + 1, h => (if (h 1 1) ≤ (h 1 4) then some h else (if (240 : Int32) ≤ (h 1 4) then some h else md_ck (md_in (h 1 4) 240) ((if (h 2 ((h 1 4)).toNatClampNeg) = (32 : Int32) then md_lt (md_up h 1 4 ((h 1 4) + (1 : Int32))) (fun h_1 : Mm => fX6_skipBlanks_0 n h_1) else some h))))
set_option maxRecDepth 100000 in
set_option maxHeartbeats 4000000 in
theorem lX6_skipBlanks_0 {K : Kx} {Y : Yx} {cs : Nat × Nat} (C : Cx K Y cs cX6_skipBlanks RX6 1 0 0) {P : Mm → Prop} : ∀ (n : Nat) (h : Mm), (∀ (hw : Mm), J SHc K Y cs (P hw) 48 [] [] hw) → J SHc K Y cs (mj_O (fX6_skipBlanks_0 n h) P) 0 [(0, rf K 1)] [] h := by
  intro n
  induction n with
  | zero => intro h kk0; exact mj_none
  | succ n ih =>
    intro h kk0
    rw [fX6_skipBlanks_0]
    refine mj_aload_n C 0 dX6_skipBlanks_0 (i := 0) rfl rfl ?_
    refine mj_getI C ff_X6_32 dX6_skipBlanks_1 sh_1 rfl ?_
    refine mj_aload_n C 0 dX6_skipBlanks_4 (i := 0) rfl rfl ?_
    refine mj_getI C ff_X6_26 dX6_skipBlanks_5 sh_1 rfl ?_
    refine mj_icmp_ge C 48 dX6_skipBlanks_8 (by decide) ?_ ?_
    · exact mj_sub [] rfl (mj_some (kk0 h))
    · refine mj_aload_n C 0 dX6_skipBlanks_11 (i := 0) rfl rfl ?_
      refine mj_getI C ff_X6_32 dX6_skipBlanks_12 sh_1 rfl ?_
      refine mj_sipush C (v := 240) dX6_skipBlanks_15 rfl ?_
      refine mj_icmp_ge C 48 dX6_skipBlanks_18 (by decide) ?_ ?_
      · exact mj_sub [] rfl (mj_some (kk0 h))
      · refine mj_aload_n C 0 dX6_skipBlanks_21 (i := 0) rfl rfl ?_
        refine mj_getR C ff_X6_9 dX6_skipBlanks_22 sh_1 rfl ?_
        refine mj_aload_n C 0 dX6_skipBlanks_25 (i := 0) rfl rfl ?_
        refine mj_getI C ff_X6_32 dX6_skipBlanks_26 sh_1 rfl ?_
        refine mj_iald C dX6_skipBlanks_29 sh_2 ?_
        refine mj_bipush C (v := 32) dX6_skipBlanks_30 rfl ?_
        refine mj_icmp_ne C 48 dX6_skipBlanks_32 (by decide) ?_ ?_
        · exact mj_sub [] rfl (mj_some (kk0 h))
        · refine mj_aload_n C 0 dX6_skipBlanks_35 (i := 0) rfl rfl ?_
          refine mj_dup C dX6_skipBlanks_36 rfl ?_
          refine mj_getI C ff_X6_32 dX6_skipBlanks_37 sh_1 rfl ?_
          refine mj_iconst C (v := 1) dX6_skipBlanks_40 rfl ?_
          refine mj_iadd C dX6_skipBlanks_41 ?_
          refine mj_putL C fp_X6_32 dX6_skipBlanks_42 sh_1 rfl rfl rfl (fun h_1 => ?_)
          refine mj_goto C 0 dX6_skipBlanks_45 (by decide) ?_
          exact mj_sub [0] rfl (ih h_1  kk0)
noncomputable def fX6_skipBlanks (h : Mm) : Option (Mm) := md_bd (fX6_skipBlanks_0 md_N h) (fun (h_2 : Mm) => some h_2)
set_option maxRecDepth 100000 in
set_option maxHeartbeats 4000000 in
theorem ctX6_skipBlanks (K : Kx) (h : Mm) {a : Mm} (hF : fX6_skipBlanks h = some a) : Mt K yX6_skipBlanks cX6_skipBlanks 1 none 0 0 SHc [rf K 1] h none a := by
  refine Mt.of hF [(0, rf K 1)] (by decide) (Nat.le_of_ble_eq_true rfl) rfl (fun Y C N => ?_)
  have C : Cx K Y (0, 0) cX6_skipBlanks RX6 1 0 0 := C
  unfold fX6_skipBlanks
  refine mj_phi1 48 (fun (h_2 : Mm) => []) (fun (h_2 : Mm) => []) (fun (h_2 : Mm) => h_2) (fun P' kj_3 => mj_sub [0] rfl (lX6_skipBlanks_0 C md_N h  kj_3)) (fun h_2 => ?_)
  exact mj_rV C N dX6_skipBlanks_48
noncomputable def fX6_letterHere (h : Mm) : Option (Int32) := md_bd ((if (h 1 4) < 0 then some (-1 : Int32) else (if (h 1 1) ≤ (h 1 4) then some (-1 : Int32) else (if (240 : Int32) ≤ (h 1 4) then some (-1 : Int32) else md_ck (md_in (h 1 4) 240) (some (h 2 ((h 1 4)).toNatClampNeg)))))) (fun (v_1 : Int32) => some v_1)
set_option maxRecDepth 100000 in
set_option maxHeartbeats 4000000 in
theorem ctX6_letterHere (K : Kx) (h : Mm) {a : Int32} (hF : fX6_letterHere h = some a) : Mt K yX6_letterHere cX6_letterHere 1 (some .int) 0 0 SHc [rf K 1] h (some (.int a)) h := by
  refine Mt.of hF [(0, rf K 1)] (by decide) (Nat.le_of_ble_eq_true rfl) rfl (fun Y C N => ?_)
  have C : Cx K Y (0, 0) cX6_letterHere RX6 1 0 0 := C
  unfold fX6_letterHere
  refine mj_aload_n C 0 dX6_letterHere_0 (i := 0) rfl rfl ?_
  refine mj_getI C ff_X6_32 dX6_letterHere_1 sh_1 rfl ?_
  refine mj_phi1 41 (fun (v_1 : Int32) => []) (fun (v_1 : Int32) => [.int v_1]) (fun (v_1 : Int32) => h) (fun P' kj_2 => ?_) (fun v_1 => ?_)
  · refine mj_if_lt C 40 dX6_letterHere_4 (by decide) ?_ ?_
    · refine mj_iconst C (v := -1) dX6_letterHere_40 rfl ?_
      exact mj_sub [] rfl (mj_some (kj_2 (-1 : Int32)))
    · refine mj_aload_n C 0 dX6_letterHere_7 (i := 0) rfl rfl ?_
      refine mj_getI C ff_X6_32 dX6_letterHere_8 sh_1 rfl ?_
      refine mj_aload_n C 0 dX6_letterHere_11 (i := 0) rfl rfl ?_
      refine mj_getI C ff_X6_26 dX6_letterHere_12 sh_1 rfl ?_
      refine mj_icmp_ge C 40 dX6_letterHere_15 (by decide) ?_ ?_
      · refine mj_iconst C (v := -1) dX6_letterHere_40 rfl ?_
        exact mj_sub [] rfl (mj_some (kj_2 (-1 : Int32)))
      · refine mj_aload_n C 0 dX6_letterHere_18 (i := 0) rfl rfl ?_
        refine mj_getI C ff_X6_32 dX6_letterHere_19 sh_1 rfl ?_
        refine mj_sipush C (v := 240) dX6_letterHere_22 rfl ?_
        refine mj_icmp_ge C 40 dX6_letterHere_25 (by decide) ?_ ?_
        · refine mj_iconst C (v := -1) dX6_letterHere_40 rfl ?_
          exact mj_sub [] rfl (mj_some (kj_2 (-1 : Int32)))
        · refine mj_aload_n C 0 dX6_letterHere_28 (i := 0) rfl rfl ?_
          refine mj_getR C ff_X6_9 dX6_letterHere_29 sh_1 rfl ?_
          refine mj_aload_n C 0 dX6_letterHere_32 (i := 0) rfl rfl ?_
          refine mj_getI C ff_X6_32 dX6_letterHere_33 sh_1 rfl ?_
          refine mj_iald C dX6_letterHere_36 sh_2 ?_
          refine mj_goto C 41 dX6_letterHere_37 (by decide) ?_
          exact mj_sub [] rfl (mj_some (kj_2 (h 2 ((h 1 4)).toNatClampNeg)))
  · exact mj_rI C N dX6_letterHere_41
noncomputable def fX6_findFault (h : Mm) (l1 : Int32) (l2 : Int32) : Option (Mm) := md_bd ((if (h 1 3) = 0 then md_lt (md_up h 1 3 l1) (fun h_3 : Mm => md_lt (md_up h_3 1 2 l2) (fun h_4 : Mm => some h_4)) else some h)) (fun (h_1 : Mm) => some h_1)
set_option maxRecDepth 100000 in
set_option maxHeartbeats 4000000 in
theorem ctX6_findFault (K : Kx) (h : Mm) (l1 : Int32) (l2 : Int32) {a : Mm} (hF : fX6_findFault h l1 l2 = some a) : Mt K yX6_findFault cX6_findFault 3 none 0 0 SHc [rf K 1, .int l1, .int l2] h none a := by
  refine Mt.of hF [(0, rf K 1), (1, .int l1), (2, .int l2)] (by decide) (Nat.le_of_ble_eq_true rfl) rfl (fun Y C N => ?_)
  have C : Cx K Y (0, 0) cX6_findFault RX6 3 0 0 := C
  unfold fX6_findFault
  refine mj_aload_n C 0 dX6_findFault_0 (i := 0) rfl rfl ?_
  refine mj_getI C ff_X6_35 dX6_findFault_1 sh_1 rfl ?_
  refine mj_phi1 17 (fun (h_1 : Mm) => []) (fun (h_1 : Mm) => []) (fun (h_1 : Mm) => h_1) (fun P' kj_2 => ?_) (fun h_1 => ?_)
  · refine mj_if_ne C 17 dX6_findFault_4 (by decide) ?_ ?_
    · exact mj_sub [] rfl (mj_some (kj_2 h))
    · refine mj_aload_n C 0 dX6_findFault_7 (i := 0) rfl rfl ?_
      refine mj_iload_n C 1 dX6_findFault_8 (i := 1) rfl rfl ?_
      refine mj_putL C fp_X6_35 dX6_findFault_9 sh_1 rfl rfl rfl (fun h_3 => ?_)
      refine mj_aload_n C 0 dX6_findFault_12 (i := 0) rfl rfl ?_
      refine mj_iload_n C 2 dX6_findFault_13 (i := 2) rfl rfl ?_
      refine mj_putL C fp_X6_15 dX6_findFault_14 sh_1 rfl rfl rfl (fun h_4 => ?_)
      exact mj_sub [] rfl (mj_some (kj_2 h_4))
  · exact mj_rV C N dX6_findFault_17
noncomputable def fX6_checkWord (h : Mm) (l1 : Int32) : Option (Mm) := md_bd ((if l1 = (103 : Int32) then some true else (if l1 = (105 : Int32) then some true else (if l1 = (106 : Int32) then some true else (if l1 = (100 : Int32) then some true else (if l1 = (114 : Int32) then some true else (if l1 = (116 : Int32) then some true else some false))))))) (fun (v_1 : Bool) => md_bd ((if v_1 = true then (if (h (md_dx (h 1 6)) 0) = 0 then (if l1 = (103 : Int32) then some h else md_bd (fX6_findFault h (1 : Int32) (h 1 4)) (fun h_6 => some h_6)) else some h) else md_bd (fX6_findFault h (1 : Int32) (h 1 4)) (fun h_5 => some h_5))) (fun (h_3 : Mm) => md_bd ((if l1 = (103 : Int32) then (if (h_3 (md_dx (h_3 1 6)) 0) = 0 then (if l1 = (105 : Int32) then (if (8 : Int32) ≤ (h_3 (md_dx (h_3 1 6)) 3) then some true else (if l1 = (106 : Int32) then (if (10 : Int32) ≤ (h_3 (md_dx (h_3 1 6)) 5) then some true else (if l1 = (100 : Int32) then (if (10 : Int32) ≤ (h_3 (md_dx (h_3 1 6)) 9) then some true else (if l1 = (116 : Int32) then (if (h_3 (md_dx (h_3 1 6)) 14) < (5 : Int32) then some false else some true) else some false)) else (if l1 = (116 : Int32) then (if (h_3 (md_dx (h_3 1 6)) 14) < (5 : Int32) then some false else some true) else some false))) else (if l1 = (100 : Int32) then (if (10 : Int32) ≤ (h_3 (md_dx (h_3 1 6)) 9) then some true else (if l1 = (116 : Int32) then (if (h_3 (md_dx (h_3 1 6)) 14) < (5 : Int32) then some false else some true) else some false)) else (if l1 = (116 : Int32) then (if (h_3 (md_dx (h_3 1 6)) 14) < (5 : Int32) then some false else some true) else some false)))) else (if l1 = (106 : Int32) then (if (10 : Int32) ≤ (h_3 (md_dx (h_3 1 6)) 5) then some true else (if l1 = (100 : Int32) then (if (10 : Int32) ≤ (h_3 (md_dx (h_3 1 6)) 9) then some true else (if l1 = (116 : Int32) then (if (h_3 (md_dx (h_3 1 6)) 14) < (5 : Int32) then some false else some true) else some false)) else (if l1 = (116 : Int32) then (if (h_3 (md_dx (h_3 1 6)) 14) < (5 : Int32) then some false else some true) else some false))) else (if l1 = (100 : Int32) then (if (10 : Int32) ≤ (h_3 (md_dx (h_3 1 6)) 9) then some true else (if l1 = (116 : Int32) then (if (h_3 (md_dx (h_3 1 6)) 14) < (5 : Int32) then some false else some true) else some false)) else (if l1 = (116 : Int32) then (if (h_3 (md_dx (h_3 1 6)) 14) < (5 : Int32) then some false else some true) else some false)))) else some true) else (if l1 = (105 : Int32) then (if (8 : Int32) ≤ (h_3 (md_dx (h_3 1 6)) 3) then some true else (if l1 = (106 : Int32) then (if (10 : Int32) ≤ (h_3 (md_dx (h_3 1 6)) 5) then some true else (if l1 = (100 : Int32) then (if (10 : Int32) ≤ (h_3 (md_dx (h_3 1 6)) 9) then some true else (if l1 = (116 : Int32) then (if (h_3 (md_dx (h_3 1 6)) 14) < (5 : Int32) then some false else some true) else some false)) else (if l1 = (116 : Int32) then (if (h_3 (md_dx (h_3 1 6)) 14) < (5 : Int32) then some false else some true) else some false))) else (if l1 = (100 : Int32) then (if (10 : Int32) ≤ (h_3 (md_dx (h_3 1 6)) 9) then some true else (if l1 = (116 : Int32) then (if (h_3 (md_dx (h_3 1 6)) 14) < (5 : Int32) then some false else some true) else some false)) else (if l1 = (116 : Int32) then (if (h_3 (md_dx (h_3 1 6)) 14) < (5 : Int32) then some false else some true) else some false)))) else (if l1 = (106 : Int32) then (if (10 : Int32) ≤ (h_3 (md_dx (h_3 1 6)) 5) then some true else (if l1 = (100 : Int32) then (if (10 : Int32) ≤ (h_3 (md_dx (h_3 1 6)) 9) then some true else (if l1 = (116 : Int32) then (if (h_3 (md_dx (h_3 1 6)) 14) < (5 : Int32) then some false else some true) else some false)) else (if l1 = (116 : Int32) then (if (h_3 (md_dx (h_3 1 6)) 14) < (5 : Int32) then some false else some true) else some false))) else (if l1 = (100 : Int32) then (if (10 : Int32) ≤ (h_3 (md_dx (h_3 1 6)) 9) then some true else (if l1 = (116 : Int32) then (if (h_3 (md_dx (h_3 1 6)) 14) < (5 : Int32) then some false else some true) else some false)) else (if l1 = (116 : Int32) then (if (h_3 (md_dx (h_3 1 6)) 14) < (5 : Int32) then some false else some true) else some false)))))) (fun (v_7 : Bool) => md_bd ((if v_7 = true then md_bd (fX6_findFault h_3 (3 : Int32) (h_3 1 4)) (fun h_11 => some h_11) else some h_3)) (fun (h_9 : Mm) => some h_9))))
set_option maxRecDepth 100000 in
set_option maxHeartbeats 4000000 in
theorem ctX6_checkWord (K : Kx) (h : Mm) (l1 : Int32) {a : Mm} (hF : fX6_checkWord h l1 = some a) : Mt K yX6_checkWord cX6_checkWord 4 none 1 22 SHc [rf K 1, .int l1] h none a := by
  refine Mt.of hF [(0, rf K 1), (1, .int l1)] (by decide) (Nat.le_of_ble_eq_true rfl) rfl (fun Y C N => ?_)
  have C : Cx K Y (0, 0) cX6_checkWord RX6 4 1 22 := C
  unfold fX6_checkWord
  refine mj_iload_n C 1 dX6_checkWord_0 (i := 1) rfl rfl ?_
  refine mj_bipush C (v := 103) dX6_checkWord_1 rfl ?_
  refine mj_phi1 41 (fun (v_1 : Bool) => [(0, rf K 1), (1, .int l1)]) (fun (v_1 : Bool) => [.int (md_bi v_1)]) (fun (v_1 : Bool) => h) (fun P' kj_2 => ?_) (fun v_1 => ?_)
  · refine mj_icmp_eq C 36 dX6_checkWord_3 (by decide) ?_ ?_
    · refine mj_iconst C (v := 1) dX6_checkWord_36 rfl ?_
      refine mj_goto C 41 dX6_checkWord_37 (by decide) ?_
      exact mj_sub [0, 1] rfl (mj_some (kj_2 true))
    · refine mj_iload_n C 1 dX6_checkWord_6 (i := 1) rfl rfl ?_
      refine mj_bipush C (v := 105) dX6_checkWord_7 rfl ?_
      refine mj_icmp_eq C 36 dX6_checkWord_9 (by decide) ?_ ?_
      · refine mj_iconst C (v := 1) dX6_checkWord_36 rfl ?_
        refine mj_goto C 41 dX6_checkWord_37 (by decide) ?_
        exact mj_sub [0, 1] rfl (mj_some (kj_2 true))
      · refine mj_iload_n C 1 dX6_checkWord_12 (i := 1) rfl rfl ?_
        refine mj_bipush C (v := 106) dX6_checkWord_13 rfl ?_
        refine mj_icmp_eq C 36 dX6_checkWord_15 (by decide) ?_ ?_
        · refine mj_iconst C (v := 1) dX6_checkWord_36 rfl ?_
          refine mj_goto C 41 dX6_checkWord_37 (by decide) ?_
          exact mj_sub [0, 1] rfl (mj_some (kj_2 true))
        · refine mj_iload_n C 1 dX6_checkWord_18 (i := 1) rfl rfl ?_
          refine mj_bipush C (v := 100) dX6_checkWord_19 rfl ?_
          refine mj_icmp_eq C 36 dX6_checkWord_21 (by decide) ?_ ?_
          · refine mj_iconst C (v := 1) dX6_checkWord_36 rfl ?_
            refine mj_goto C 41 dX6_checkWord_37 (by decide) ?_
            exact mj_sub [0, 1] rfl (mj_some (kj_2 true))
          · refine mj_iload_n C 1 dX6_checkWord_24 (i := 1) rfl rfl ?_
            refine mj_bipush C (v := 114) dX6_checkWord_25 rfl ?_
            refine mj_icmp_eq C 36 dX6_checkWord_27 (by decide) ?_ ?_
            · refine mj_iconst C (v := 1) dX6_checkWord_36 rfl ?_
              refine mj_goto C 41 dX6_checkWord_37 (by decide) ?_
              exact mj_sub [0, 1] rfl (mj_some (kj_2 true))
            · refine mj_iload_n C 1 dX6_checkWord_30 (i := 1) rfl rfl ?_
              refine mj_bipush C (v := 116) dX6_checkWord_31 rfl ?_
              refine mj_icmp_ne C 40 dX6_checkWord_33 (by decide) ?_ ?_
              · refine mj_iconst C (v := 0) dX6_checkWord_40 rfl ?_
                exact mj_sub [0, 1] rfl (mj_some (kj_2 false))
              · refine mj_iconst C (v := 1) dX6_checkWord_36 rfl ?_
                refine mj_goto C 41 dX6_checkWord_37 (by decide) ?_
                exact mj_sub [0, 1] rfl (mj_some (kj_2 true))
  · refine mj_istore_n C [(2, .int (md_bi v_1)), (0, rf K 1), (1, .int l1)] dX6_checkWord_41 (i := 2) rfl (by decide) rfl ?_
    refine mj_iload_n C 0 dX6_checkWord_42 (i := 2) rfl rfl ?_
    refine mj_phi1 71 (fun (h_3 : Mm) => [(0, rf K 1), (1, .int l1)]) (fun (h_3 : Mm) => []) (fun (h_3 : Mm) => h_3) (fun P' kj_4 => ?_) (fun h_3 => ?_)
    · refine mj_b_eq C 62 dX6_checkWord_43 (by decide) ?_ ?_
      · refine mj_aload_n C 1 dX6_checkWord_62 (i := 0) rfl rfl ?_
        refine mj_iconst C (v := 1) dX6_checkWord_63 rfl ?_
        refine mj_aload_n C 1 dX6_checkWord_64 (i := 0) rfl rfl ?_
        refine mj_getI C ff_X6_32 dX6_checkWord_65 sh_1 rfl ?_
        refine mj_vM C my_X6_findFault mv_X6_77 dX6_checkWord_68 sh_1 rfl (fun a hF => ctX6_findFault K h (1 : Int32) (h 1 4)  hF) (by decide) (by decide) rfl rfl (Nat.le_of_ble_eq_true rfl) (fun h_5 => ?_)
        exact mj_sub [1, 2] rfl (mj_some (kj_4 h_5))
      · refine mj_aload_n C 1 dX6_checkWord_46 (i := 0) rfl rfl ?_
        refine mj_getM C ff_X6_22 dX6_checkWord_47 sh_1 rfl ?_
        refine mj_getI C ff_X6_73 dX6_checkWord_50 (cn_o (cnt_dx (h 1 6))) rfl ?_
        refine mj_if_ne C 71 dX6_checkWord_53 (by decide) ?_ ?_
        · exact mj_sub [1, 2] rfl (mj_some (kj_4 h))
        · refine mj_iload_n C 2 dX6_checkWord_56 (i := 1) rfl rfl ?_
          refine mj_bipush C (v := 103) dX6_checkWord_57 rfl ?_
          refine mj_icmp_eq C 71 dX6_checkWord_59 (by decide) ?_ ?_
          · exact mj_sub [1, 2] rfl (mj_some (kj_4 h))
          · refine mj_aload_n C 1 dX6_checkWord_62 (i := 0) rfl rfl ?_
            refine mj_iconst C (v := 1) dX6_checkWord_63 rfl ?_
            refine mj_aload_n C 1 dX6_checkWord_64 (i := 0) rfl rfl ?_
            refine mj_getI C ff_X6_32 dX6_checkWord_65 sh_1 rfl ?_
            refine mj_vM C my_X6_findFault mv_X6_77 dX6_checkWord_68 sh_1 rfl (fun a hF => ctX6_findFault K h (1 : Int32) (h 1 4)  hF) (by decide) (by decide) rfl rfl (Nat.le_of_ble_eq_true rfl) (fun h_6 => ?_)
            exact mj_sub [1, 2] rfl (mj_some (kj_4 h_6))
    · refine mj_iload_n C 1 dX6_checkWord_71 (i := 1) rfl rfl ?_
      refine mj_bipush C (v := 103) dX6_checkWord_72 rfl ?_
      refine mj_phi1 163 (fun (v_7 : Bool) => [(0, rf K 1)]) (fun (v_7 : Bool) => [.int (md_bi v_7)]) (fun (v_7 : Bool) => h_3) (fun P' kj_8 => ?_) (fun v_7 => ?_)
      · refine mj_icmp_ne C 87 dX6_checkWord_74 (by decide) ?_ ?_
        · refine mj_iload_n C 1 dX6_checkWord_87 (i := 1) rfl rfl ?_
          refine mj_bipush C (v := 105) dX6_checkWord_88 rfl ?_
          refine mj_icmp_ne C 105 dX6_checkWord_90 (by decide) ?_ ?_
          · refine mj_iload_n C 1 dX6_checkWord_105 (i := 1) rfl rfl ?_
            refine mj_bipush C (v := 106) dX6_checkWord_106 rfl ?_
            refine mj_icmp_ne C 123 dX6_checkWord_108 (by decide) ?_ ?_
            · refine mj_iload_n C 1 dX6_checkWord_123 (i := 1) rfl rfl ?_
              refine mj_bipush C (v := 100) dX6_checkWord_124 rfl ?_
              refine mj_icmp_ne C 141 dX6_checkWord_126 (by decide) ?_ ?_
              · refine mj_iload_n C 1 dX6_checkWord_141 (i := 1) rfl rfl ?_
                refine mj_bipush C (v := 116) dX6_checkWord_142 rfl ?_
                refine mj_icmp_ne C 162 dX6_checkWord_144 (by decide) ?_ ?_
                · refine mj_iconst C (v := 0) dX6_checkWord_162 rfl ?_
                  exact mj_sub [0] rfl (mj_some (kj_8 false))
                · refine mj_aload_n C 0 dX6_checkWord_147 (i := 0) rfl rfl ?_
                  refine mj_getM C ff_X6_22 dX6_checkWord_148 sh_1 rfl ?_
                  refine mj_getI C ff_X6_90 dX6_checkWord_151 (cn_o (cnt_dx (h_3 1 6))) rfl ?_
                  refine mj_iconst C (v := 5) dX6_checkWord_154 rfl ?_
                  refine mj_icmp_lt C 162 dX6_checkWord_155 (by decide) ?_ ?_
                  · refine mj_iconst C (v := 0) dX6_checkWord_162 rfl ?_
                    exact mj_sub [0] rfl (mj_some (kj_8 false))
                  · refine mj_iconst C (v := 1) dX6_checkWord_158 rfl ?_
                    refine mj_goto C 163 dX6_checkWord_159 (by decide) ?_
                    exact mj_sub [0] rfl (mj_some (kj_8 true))
              · refine mj_aload_n C 0 dX6_checkWord_129 (i := 0) rfl rfl ?_
                refine mj_getM C ff_X6_22 dX6_checkWord_130 sh_1 rfl ?_
                refine mj_getI C ff_X6_87 dX6_checkWord_133 (cn_o (cnt_dx (h_3 1 6))) rfl ?_
                refine mj_bipush C (v := 10) dX6_checkWord_136 rfl ?_
                refine mj_icmp_ge C 158 dX6_checkWord_138 (by decide) ?_ ?_
                · refine mj_iconst C (v := 1) dX6_checkWord_158 rfl ?_
                  refine mj_goto C 163 dX6_checkWord_159 (by decide) ?_
                  exact mj_sub [0] rfl (mj_some (kj_8 true))
                · refine mj_iload_n C 1 dX6_checkWord_141 (i := 1) rfl rfl ?_
                  refine mj_bipush C (v := 116) dX6_checkWord_142 rfl ?_
                  refine mj_icmp_ne C 162 dX6_checkWord_144 (by decide) ?_ ?_
                  · refine mj_iconst C (v := 0) dX6_checkWord_162 rfl ?_
                    exact mj_sub [0] rfl (mj_some (kj_8 false))
                  · refine mj_aload_n C 0 dX6_checkWord_147 (i := 0) rfl rfl ?_
                    refine mj_getM C ff_X6_22 dX6_checkWord_148 sh_1 rfl ?_
                    refine mj_getI C ff_X6_90 dX6_checkWord_151 (cn_o (cnt_dx (h_3 1 6))) rfl ?_
                    refine mj_iconst C (v := 5) dX6_checkWord_154 rfl ?_
                    refine mj_icmp_lt C 162 dX6_checkWord_155 (by decide) ?_ ?_
                    · refine mj_iconst C (v := 0) dX6_checkWord_162 rfl ?_
                      exact mj_sub [0] rfl (mj_some (kj_8 false))
                    · refine mj_iconst C (v := 1) dX6_checkWord_158 rfl ?_
                      refine mj_goto C 163 dX6_checkWord_159 (by decide) ?_
                      exact mj_sub [0] rfl (mj_some (kj_8 true))
            · refine mj_aload_n C 0 dX6_checkWord_111 (i := 0) rfl rfl ?_
              refine mj_getM C ff_X6_22 dX6_checkWord_112 sh_1 rfl ?_
              refine mj_getI C ff_X6_84 dX6_checkWord_115 (cn_o (cnt_dx (h_3 1 6))) rfl ?_
              refine mj_bipush C (v := 10) dX6_checkWord_118 rfl ?_
              refine mj_icmp_ge C 158 dX6_checkWord_120 (by decide) ?_ ?_
              · refine mj_iconst C (v := 1) dX6_checkWord_158 rfl ?_
                refine mj_goto C 163 dX6_checkWord_159 (by decide) ?_
                exact mj_sub [0] rfl (mj_some (kj_8 true))
              · refine mj_iload_n C 1 dX6_checkWord_123 (i := 1) rfl rfl ?_
                refine mj_bipush C (v := 100) dX6_checkWord_124 rfl ?_
                refine mj_icmp_ne C 141 dX6_checkWord_126 (by decide) ?_ ?_
                · refine mj_iload_n C 1 dX6_checkWord_141 (i := 1) rfl rfl ?_
                  refine mj_bipush C (v := 116) dX6_checkWord_142 rfl ?_
                  refine mj_icmp_ne C 162 dX6_checkWord_144 (by decide) ?_ ?_
                  · refine mj_iconst C (v := 0) dX6_checkWord_162 rfl ?_
                    exact mj_sub [0] rfl (mj_some (kj_8 false))
                  · refine mj_aload_n C 0 dX6_checkWord_147 (i := 0) rfl rfl ?_
                    refine mj_getM C ff_X6_22 dX6_checkWord_148 sh_1 rfl ?_
                    refine mj_getI C ff_X6_90 dX6_checkWord_151 (cn_o (cnt_dx (h_3 1 6))) rfl ?_
                    refine mj_iconst C (v := 5) dX6_checkWord_154 rfl ?_
                    refine mj_icmp_lt C 162 dX6_checkWord_155 (by decide) ?_ ?_
                    · refine mj_iconst C (v := 0) dX6_checkWord_162 rfl ?_
                      exact mj_sub [0] rfl (mj_some (kj_8 false))
                    · refine mj_iconst C (v := 1) dX6_checkWord_158 rfl ?_
                      refine mj_goto C 163 dX6_checkWord_159 (by decide) ?_
                      exact mj_sub [0] rfl (mj_some (kj_8 true))
                · refine mj_aload_n C 0 dX6_checkWord_129 (i := 0) rfl rfl ?_
                  refine mj_getM C ff_X6_22 dX6_checkWord_130 sh_1 rfl ?_
                  refine mj_getI C ff_X6_87 dX6_checkWord_133 (cn_o (cnt_dx (h_3 1 6))) rfl ?_
                  refine mj_bipush C (v := 10) dX6_checkWord_136 rfl ?_
                  refine mj_icmp_ge C 158 dX6_checkWord_138 (by decide) ?_ ?_
                  · refine mj_iconst C (v := 1) dX6_checkWord_158 rfl ?_
                    refine mj_goto C 163 dX6_checkWord_159 (by decide) ?_
                    exact mj_sub [0] rfl (mj_some (kj_8 true))
                  · refine mj_iload_n C 1 dX6_checkWord_141 (i := 1) rfl rfl ?_
                    refine mj_bipush C (v := 116) dX6_checkWord_142 rfl ?_
                    refine mj_icmp_ne C 162 dX6_checkWord_144 (by decide) ?_ ?_
                    · refine mj_iconst C (v := 0) dX6_checkWord_162 rfl ?_
                      exact mj_sub [0] rfl (mj_some (kj_8 false))
                    · refine mj_aload_n C 0 dX6_checkWord_147 (i := 0) rfl rfl ?_
                      refine mj_getM C ff_X6_22 dX6_checkWord_148 sh_1 rfl ?_
                      refine mj_getI C ff_X6_90 dX6_checkWord_151 (cn_o (cnt_dx (h_3 1 6))) rfl ?_
                      refine mj_iconst C (v := 5) dX6_checkWord_154 rfl ?_
                      refine mj_icmp_lt C 162 dX6_checkWord_155 (by decide) ?_ ?_
                      · refine mj_iconst C (v := 0) dX6_checkWord_162 rfl ?_
                        exact mj_sub [0] rfl (mj_some (kj_8 false))
                      · refine mj_iconst C (v := 1) dX6_checkWord_158 rfl ?_
                        refine mj_goto C 163 dX6_checkWord_159 (by decide) ?_
                        exact mj_sub [0] rfl (mj_some (kj_8 true))
          · refine mj_aload_n C 0 dX6_checkWord_93 (i := 0) rfl rfl ?_
            refine mj_getM C ff_X6_22 dX6_checkWord_94 sh_1 rfl ?_
            refine mj_getI C ff_X6_81 dX6_checkWord_97 (cn_o (cnt_dx (h_3 1 6))) rfl ?_
            refine mj_bipush C (v := 8) dX6_checkWord_100 rfl ?_
            refine mj_icmp_ge C 158 dX6_checkWord_102 (by decide) ?_ ?_
            · refine mj_iconst C (v := 1) dX6_checkWord_158 rfl ?_
              refine mj_goto C 163 dX6_checkWord_159 (by decide) ?_
              exact mj_sub [0] rfl (mj_some (kj_8 true))
            · refine mj_iload_n C 1 dX6_checkWord_105 (i := 1) rfl rfl ?_
              refine mj_bipush C (v := 106) dX6_checkWord_106 rfl ?_
              refine mj_icmp_ne C 123 dX6_checkWord_108 (by decide) ?_ ?_
              · refine mj_iload_n C 1 dX6_checkWord_123 (i := 1) rfl rfl ?_
                refine mj_bipush C (v := 100) dX6_checkWord_124 rfl ?_
                refine mj_icmp_ne C 141 dX6_checkWord_126 (by decide) ?_ ?_
                · refine mj_iload_n C 1 dX6_checkWord_141 (i := 1) rfl rfl ?_
                  refine mj_bipush C (v := 116) dX6_checkWord_142 rfl ?_
                  refine mj_icmp_ne C 162 dX6_checkWord_144 (by decide) ?_ ?_
                  · refine mj_iconst C (v := 0) dX6_checkWord_162 rfl ?_
                    exact mj_sub [0] rfl (mj_some (kj_8 false))
                  · refine mj_aload_n C 0 dX6_checkWord_147 (i := 0) rfl rfl ?_
                    refine mj_getM C ff_X6_22 dX6_checkWord_148 sh_1 rfl ?_
                    refine mj_getI C ff_X6_90 dX6_checkWord_151 (cn_o (cnt_dx (h_3 1 6))) rfl ?_
                    refine mj_iconst C (v := 5) dX6_checkWord_154 rfl ?_
                    refine mj_icmp_lt C 162 dX6_checkWord_155 (by decide) ?_ ?_
                    · refine mj_iconst C (v := 0) dX6_checkWord_162 rfl ?_
                      exact mj_sub [0] rfl (mj_some (kj_8 false))
                    · refine mj_iconst C (v := 1) dX6_checkWord_158 rfl ?_
                      refine mj_goto C 163 dX6_checkWord_159 (by decide) ?_
                      exact mj_sub [0] rfl (mj_some (kj_8 true))
                · refine mj_aload_n C 0 dX6_checkWord_129 (i := 0) rfl rfl ?_
                  refine mj_getM C ff_X6_22 dX6_checkWord_130 sh_1 rfl ?_
                  refine mj_getI C ff_X6_87 dX6_checkWord_133 (cn_o (cnt_dx (h_3 1 6))) rfl ?_
                  refine mj_bipush C (v := 10) dX6_checkWord_136 rfl ?_
                  refine mj_icmp_ge C 158 dX6_checkWord_138 (by decide) ?_ ?_
                  · refine mj_iconst C (v := 1) dX6_checkWord_158 rfl ?_
                    refine mj_goto C 163 dX6_checkWord_159 (by decide) ?_
                    exact mj_sub [0] rfl (mj_some (kj_8 true))
                  · refine mj_iload_n C 1 dX6_checkWord_141 (i := 1) rfl rfl ?_
                    refine mj_bipush C (v := 116) dX6_checkWord_142 rfl ?_
                    refine mj_icmp_ne C 162 dX6_checkWord_144 (by decide) ?_ ?_
                    · refine mj_iconst C (v := 0) dX6_checkWord_162 rfl ?_
                      exact mj_sub [0] rfl (mj_some (kj_8 false))
                    · refine mj_aload_n C 0 dX6_checkWord_147 (i := 0) rfl rfl ?_
                      refine mj_getM C ff_X6_22 dX6_checkWord_148 sh_1 rfl ?_
                      refine mj_getI C ff_X6_90 dX6_checkWord_151 (cn_o (cnt_dx (h_3 1 6))) rfl ?_
                      refine mj_iconst C (v := 5) dX6_checkWord_154 rfl ?_
                      refine mj_icmp_lt C 162 dX6_checkWord_155 (by decide) ?_ ?_
                      · refine mj_iconst C (v := 0) dX6_checkWord_162 rfl ?_
                        exact mj_sub [0] rfl (mj_some (kj_8 false))
                      · refine mj_iconst C (v := 1) dX6_checkWord_158 rfl ?_
                        refine mj_goto C 163 dX6_checkWord_159 (by decide) ?_
                        exact mj_sub [0] rfl (mj_some (kj_8 true))
              · refine mj_aload_n C 0 dX6_checkWord_111 (i := 0) rfl rfl ?_
                refine mj_getM C ff_X6_22 dX6_checkWord_112 sh_1 rfl ?_
                refine mj_getI C ff_X6_84 dX6_checkWord_115 (cn_o (cnt_dx (h_3 1 6))) rfl ?_
                refine mj_bipush C (v := 10) dX6_checkWord_118 rfl ?_
                refine mj_icmp_ge C 158 dX6_checkWord_120 (by decide) ?_ ?_
                · refine mj_iconst C (v := 1) dX6_checkWord_158 rfl ?_
                  refine mj_goto C 163 dX6_checkWord_159 (by decide) ?_
                  exact mj_sub [0] rfl (mj_some (kj_8 true))
                · refine mj_iload_n C 1 dX6_checkWord_123 (i := 1) rfl rfl ?_
                  refine mj_bipush C (v := 100) dX6_checkWord_124 rfl ?_
                  refine mj_icmp_ne C 141 dX6_checkWord_126 (by decide) ?_ ?_
                  · refine mj_iload_n C 1 dX6_checkWord_141 (i := 1) rfl rfl ?_
                    refine mj_bipush C (v := 116) dX6_checkWord_142 rfl ?_
                    refine mj_icmp_ne C 162 dX6_checkWord_144 (by decide) ?_ ?_
                    · refine mj_iconst C (v := 0) dX6_checkWord_162 rfl ?_
                      exact mj_sub [0] rfl (mj_some (kj_8 false))
                    · refine mj_aload_n C 0 dX6_checkWord_147 (i := 0) rfl rfl ?_
                      refine mj_getM C ff_X6_22 dX6_checkWord_148 sh_1 rfl ?_
                      refine mj_getI C ff_X6_90 dX6_checkWord_151 (cn_o (cnt_dx (h_3 1 6))) rfl ?_
                      refine mj_iconst C (v := 5) dX6_checkWord_154 rfl ?_
                      refine mj_icmp_lt C 162 dX6_checkWord_155 (by decide) ?_ ?_
                      · refine mj_iconst C (v := 0) dX6_checkWord_162 rfl ?_
                        exact mj_sub [0] rfl (mj_some (kj_8 false))
                      · refine mj_iconst C (v := 1) dX6_checkWord_158 rfl ?_
                        refine mj_goto C 163 dX6_checkWord_159 (by decide) ?_
                        exact mj_sub [0] rfl (mj_some (kj_8 true))
                  · refine mj_aload_n C 0 dX6_checkWord_129 (i := 0) rfl rfl ?_
                    refine mj_getM C ff_X6_22 dX6_checkWord_130 sh_1 rfl ?_
                    refine mj_getI C ff_X6_87 dX6_checkWord_133 (cn_o (cnt_dx (h_3 1 6))) rfl ?_
                    refine mj_bipush C (v := 10) dX6_checkWord_136 rfl ?_
                    refine mj_icmp_ge C 158 dX6_checkWord_138 (by decide) ?_ ?_
                    · refine mj_iconst C (v := 1) dX6_checkWord_158 rfl ?_
                      refine mj_goto C 163 dX6_checkWord_159 (by decide) ?_
                      exact mj_sub [0] rfl (mj_some (kj_8 true))
                    · refine mj_iload_n C 1 dX6_checkWord_141 (i := 1) rfl rfl ?_
                      refine mj_bipush C (v := 116) dX6_checkWord_142 rfl ?_
                      refine mj_icmp_ne C 162 dX6_checkWord_144 (by decide) ?_ ?_
                      · refine mj_iconst C (v := 0) dX6_checkWord_162 rfl ?_
                        exact mj_sub [0] rfl (mj_some (kj_8 false))
                      · refine mj_aload_n C 0 dX6_checkWord_147 (i := 0) rfl rfl ?_
                        refine mj_getM C ff_X6_22 dX6_checkWord_148 sh_1 rfl ?_
                        refine mj_getI C ff_X6_90 dX6_checkWord_151 (cn_o (cnt_dx (h_3 1 6))) rfl ?_
                        refine mj_iconst C (v := 5) dX6_checkWord_154 rfl ?_
                        refine mj_icmp_lt C 162 dX6_checkWord_155 (by decide) ?_ ?_
                        · refine mj_iconst C (v := 0) dX6_checkWord_162 rfl ?_
                          exact mj_sub [0] rfl (mj_some (kj_8 false))
                        · refine mj_iconst C (v := 1) dX6_checkWord_158 rfl ?_
                          refine mj_goto C 163 dX6_checkWord_159 (by decide) ?_
                          exact mj_sub [0] rfl (mj_some (kj_8 true))
        · refine mj_aload_n C 0 dX6_checkWord_77 (i := 0) rfl rfl ?_
          refine mj_getM C ff_X6_22 dX6_checkWord_78 sh_1 rfl ?_
          refine mj_getI C ff_X6_73 dX6_checkWord_81 (cn_o (cnt_dx (h_3 1 6))) rfl ?_
          refine mj_if_ne C 158 dX6_checkWord_84 (by decide) ?_ ?_
          · refine mj_iconst C (v := 1) dX6_checkWord_158 rfl ?_
            refine mj_goto C 163 dX6_checkWord_159 (by decide) ?_
            exact mj_sub [0] rfl (mj_some (kj_8 true))
          · refine mj_iload_n C 1 dX6_checkWord_87 (i := 1) rfl rfl ?_
            refine mj_bipush C (v := 105) dX6_checkWord_88 rfl ?_
            refine mj_icmp_ne C 105 dX6_checkWord_90 (by decide) ?_ ?_
            · refine mj_iload_n C 1 dX6_checkWord_105 (i := 1) rfl rfl ?_
              refine mj_bipush C (v := 106) dX6_checkWord_106 rfl ?_
              refine mj_icmp_ne C 123 dX6_checkWord_108 (by decide) ?_ ?_
              · refine mj_iload_n C 1 dX6_checkWord_123 (i := 1) rfl rfl ?_
                refine mj_bipush C (v := 100) dX6_checkWord_124 rfl ?_
                refine mj_icmp_ne C 141 dX6_checkWord_126 (by decide) ?_ ?_
                · refine mj_iload_n C 1 dX6_checkWord_141 (i := 1) rfl rfl ?_
                  refine mj_bipush C (v := 116) dX6_checkWord_142 rfl ?_
                  refine mj_icmp_ne C 162 dX6_checkWord_144 (by decide) ?_ ?_
                  · refine mj_iconst C (v := 0) dX6_checkWord_162 rfl ?_
                    exact mj_sub [0] rfl (mj_some (kj_8 false))
                  · refine mj_aload_n C 0 dX6_checkWord_147 (i := 0) rfl rfl ?_
                    refine mj_getM C ff_X6_22 dX6_checkWord_148 sh_1 rfl ?_
                    refine mj_getI C ff_X6_90 dX6_checkWord_151 (cn_o (cnt_dx (h_3 1 6))) rfl ?_
                    refine mj_iconst C (v := 5) dX6_checkWord_154 rfl ?_
                    refine mj_icmp_lt C 162 dX6_checkWord_155 (by decide) ?_ ?_
                    · refine mj_iconst C (v := 0) dX6_checkWord_162 rfl ?_
                      exact mj_sub [0] rfl (mj_some (kj_8 false))
                    · refine mj_iconst C (v := 1) dX6_checkWord_158 rfl ?_
                      refine mj_goto C 163 dX6_checkWord_159 (by decide) ?_
                      exact mj_sub [0] rfl (mj_some (kj_8 true))
                · refine mj_aload_n C 0 dX6_checkWord_129 (i := 0) rfl rfl ?_
                  refine mj_getM C ff_X6_22 dX6_checkWord_130 sh_1 rfl ?_
                  refine mj_getI C ff_X6_87 dX6_checkWord_133 (cn_o (cnt_dx (h_3 1 6))) rfl ?_
                  refine mj_bipush C (v := 10) dX6_checkWord_136 rfl ?_
                  refine mj_icmp_ge C 158 dX6_checkWord_138 (by decide) ?_ ?_
                  · refine mj_iconst C (v := 1) dX6_checkWord_158 rfl ?_
                    refine mj_goto C 163 dX6_checkWord_159 (by decide) ?_
                    exact mj_sub [0] rfl (mj_some (kj_8 true))
                  · refine mj_iload_n C 1 dX6_checkWord_141 (i := 1) rfl rfl ?_
                    refine mj_bipush C (v := 116) dX6_checkWord_142 rfl ?_
                    refine mj_icmp_ne C 162 dX6_checkWord_144 (by decide) ?_ ?_
                    · refine mj_iconst C (v := 0) dX6_checkWord_162 rfl ?_
                      exact mj_sub [0] rfl (mj_some (kj_8 false))
                    · refine mj_aload_n C 0 dX6_checkWord_147 (i := 0) rfl rfl ?_
                      refine mj_getM C ff_X6_22 dX6_checkWord_148 sh_1 rfl ?_
                      refine mj_getI C ff_X6_90 dX6_checkWord_151 (cn_o (cnt_dx (h_3 1 6))) rfl ?_
                      refine mj_iconst C (v := 5) dX6_checkWord_154 rfl ?_
                      refine mj_icmp_lt C 162 dX6_checkWord_155 (by decide) ?_ ?_
                      · refine mj_iconst C (v := 0) dX6_checkWord_162 rfl ?_
                        exact mj_sub [0] rfl (mj_some (kj_8 false))
                      · refine mj_iconst C (v := 1) dX6_checkWord_158 rfl ?_
                        refine mj_goto C 163 dX6_checkWord_159 (by decide) ?_
                        exact mj_sub [0] rfl (mj_some (kj_8 true))
              · refine mj_aload_n C 0 dX6_checkWord_111 (i := 0) rfl rfl ?_
                refine mj_getM C ff_X6_22 dX6_checkWord_112 sh_1 rfl ?_
                refine mj_getI C ff_X6_84 dX6_checkWord_115 (cn_o (cnt_dx (h_3 1 6))) rfl ?_
                refine mj_bipush C (v := 10) dX6_checkWord_118 rfl ?_
                refine mj_icmp_ge C 158 dX6_checkWord_120 (by decide) ?_ ?_
                · refine mj_iconst C (v := 1) dX6_checkWord_158 rfl ?_
                  refine mj_goto C 163 dX6_checkWord_159 (by decide) ?_
                  exact mj_sub [0] rfl (mj_some (kj_8 true))
                · refine mj_iload_n C 1 dX6_checkWord_123 (i := 1) rfl rfl ?_
                  refine mj_bipush C (v := 100) dX6_checkWord_124 rfl ?_
                  refine mj_icmp_ne C 141 dX6_checkWord_126 (by decide) ?_ ?_
                  · refine mj_iload_n C 1 dX6_checkWord_141 (i := 1) rfl rfl ?_
                    refine mj_bipush C (v := 116) dX6_checkWord_142 rfl ?_
                    refine mj_icmp_ne C 162 dX6_checkWord_144 (by decide) ?_ ?_
                    · refine mj_iconst C (v := 0) dX6_checkWord_162 rfl ?_
                      exact mj_sub [0] rfl (mj_some (kj_8 false))
                    · refine mj_aload_n C 0 dX6_checkWord_147 (i := 0) rfl rfl ?_
                      refine mj_getM C ff_X6_22 dX6_checkWord_148 sh_1 rfl ?_
                      refine mj_getI C ff_X6_90 dX6_checkWord_151 (cn_o (cnt_dx (h_3 1 6))) rfl ?_
                      refine mj_iconst C (v := 5) dX6_checkWord_154 rfl ?_
                      refine mj_icmp_lt C 162 dX6_checkWord_155 (by decide) ?_ ?_
                      · refine mj_iconst C (v := 0) dX6_checkWord_162 rfl ?_
                        exact mj_sub [0] rfl (mj_some (kj_8 false))
                      · refine mj_iconst C (v := 1) dX6_checkWord_158 rfl ?_
                        refine mj_goto C 163 dX6_checkWord_159 (by decide) ?_
                        exact mj_sub [0] rfl (mj_some (kj_8 true))
                  · refine mj_aload_n C 0 dX6_checkWord_129 (i := 0) rfl rfl ?_
                    refine mj_getM C ff_X6_22 dX6_checkWord_130 sh_1 rfl ?_
                    refine mj_getI C ff_X6_87 dX6_checkWord_133 (cn_o (cnt_dx (h_3 1 6))) rfl ?_
                    refine mj_bipush C (v := 10) dX6_checkWord_136 rfl ?_
                    refine mj_icmp_ge C 158 dX6_checkWord_138 (by decide) ?_ ?_
                    · refine mj_iconst C (v := 1) dX6_checkWord_158 rfl ?_
                      refine mj_goto C 163 dX6_checkWord_159 (by decide) ?_
                      exact mj_sub [0] rfl (mj_some (kj_8 true))
                    · refine mj_iload_n C 1 dX6_checkWord_141 (i := 1) rfl rfl ?_
                      refine mj_bipush C (v := 116) dX6_checkWord_142 rfl ?_
                      refine mj_icmp_ne C 162 dX6_checkWord_144 (by decide) ?_ ?_
                      · refine mj_iconst C (v := 0) dX6_checkWord_162 rfl ?_
                        exact mj_sub [0] rfl (mj_some (kj_8 false))
                      · refine mj_aload_n C 0 dX6_checkWord_147 (i := 0) rfl rfl ?_
                        refine mj_getM C ff_X6_22 dX6_checkWord_148 sh_1 rfl ?_
                        refine mj_getI C ff_X6_90 dX6_checkWord_151 (cn_o (cnt_dx (h_3 1 6))) rfl ?_
                        refine mj_iconst C (v := 5) dX6_checkWord_154 rfl ?_
                        refine mj_icmp_lt C 162 dX6_checkWord_155 (by decide) ?_ ?_
                        · refine mj_iconst C (v := 0) dX6_checkWord_162 rfl ?_
                          exact mj_sub [0] rfl (mj_some (kj_8 false))
                        · refine mj_iconst C (v := 1) dX6_checkWord_158 rfl ?_
                          refine mj_goto C 163 dX6_checkWord_159 (by decide) ?_
                          exact mj_sub [0] rfl (mj_some (kj_8 true))
            · refine mj_aload_n C 0 dX6_checkWord_93 (i := 0) rfl rfl ?_
              refine mj_getM C ff_X6_22 dX6_checkWord_94 sh_1 rfl ?_
              refine mj_getI C ff_X6_81 dX6_checkWord_97 (cn_o (cnt_dx (h_3 1 6))) rfl ?_
              refine mj_bipush C (v := 8) dX6_checkWord_100 rfl ?_
              refine mj_icmp_ge C 158 dX6_checkWord_102 (by decide) ?_ ?_
              · refine mj_iconst C (v := 1) dX6_checkWord_158 rfl ?_
                refine mj_goto C 163 dX6_checkWord_159 (by decide) ?_
                exact mj_sub [0] rfl (mj_some (kj_8 true))
              · refine mj_iload_n C 1 dX6_checkWord_105 (i := 1) rfl rfl ?_
                refine mj_bipush C (v := 106) dX6_checkWord_106 rfl ?_
                refine mj_icmp_ne C 123 dX6_checkWord_108 (by decide) ?_ ?_
                · refine mj_iload_n C 1 dX6_checkWord_123 (i := 1) rfl rfl ?_
                  refine mj_bipush C (v := 100) dX6_checkWord_124 rfl ?_
                  refine mj_icmp_ne C 141 dX6_checkWord_126 (by decide) ?_ ?_
                  · refine mj_iload_n C 1 dX6_checkWord_141 (i := 1) rfl rfl ?_
                    refine mj_bipush C (v := 116) dX6_checkWord_142 rfl ?_
                    refine mj_icmp_ne C 162 dX6_checkWord_144 (by decide) ?_ ?_
                    · refine mj_iconst C (v := 0) dX6_checkWord_162 rfl ?_
                      exact mj_sub [0] rfl (mj_some (kj_8 false))
                    · refine mj_aload_n C 0 dX6_checkWord_147 (i := 0) rfl rfl ?_
                      refine mj_getM C ff_X6_22 dX6_checkWord_148 sh_1 rfl ?_
                      refine mj_getI C ff_X6_90 dX6_checkWord_151 (cn_o (cnt_dx (h_3 1 6))) rfl ?_
                      refine mj_iconst C (v := 5) dX6_checkWord_154 rfl ?_
                      refine mj_icmp_lt C 162 dX6_checkWord_155 (by decide) ?_ ?_
                      · refine mj_iconst C (v := 0) dX6_checkWord_162 rfl ?_
                        exact mj_sub [0] rfl (mj_some (kj_8 false))
                      · refine mj_iconst C (v := 1) dX6_checkWord_158 rfl ?_
                        refine mj_goto C 163 dX6_checkWord_159 (by decide) ?_
                        exact mj_sub [0] rfl (mj_some (kj_8 true))
                  · refine mj_aload_n C 0 dX6_checkWord_129 (i := 0) rfl rfl ?_
                    refine mj_getM C ff_X6_22 dX6_checkWord_130 sh_1 rfl ?_
                    refine mj_getI C ff_X6_87 dX6_checkWord_133 (cn_o (cnt_dx (h_3 1 6))) rfl ?_
                    refine mj_bipush C (v := 10) dX6_checkWord_136 rfl ?_
                    refine mj_icmp_ge C 158 dX6_checkWord_138 (by decide) ?_ ?_
                    · refine mj_iconst C (v := 1) dX6_checkWord_158 rfl ?_
                      refine mj_goto C 163 dX6_checkWord_159 (by decide) ?_
                      exact mj_sub [0] rfl (mj_some (kj_8 true))
                    · refine mj_iload_n C 1 dX6_checkWord_141 (i := 1) rfl rfl ?_
                      refine mj_bipush C (v := 116) dX6_checkWord_142 rfl ?_
                      refine mj_icmp_ne C 162 dX6_checkWord_144 (by decide) ?_ ?_
                      · refine mj_iconst C (v := 0) dX6_checkWord_162 rfl ?_
                        exact mj_sub [0] rfl (mj_some (kj_8 false))
                      · refine mj_aload_n C 0 dX6_checkWord_147 (i := 0) rfl rfl ?_
                        refine mj_getM C ff_X6_22 dX6_checkWord_148 sh_1 rfl ?_
                        refine mj_getI C ff_X6_90 dX6_checkWord_151 (cn_o (cnt_dx (h_3 1 6))) rfl ?_
                        refine mj_iconst C (v := 5) dX6_checkWord_154 rfl ?_
                        refine mj_icmp_lt C 162 dX6_checkWord_155 (by decide) ?_ ?_
                        · refine mj_iconst C (v := 0) dX6_checkWord_162 rfl ?_
                          exact mj_sub [0] rfl (mj_some (kj_8 false))
                        · refine mj_iconst C (v := 1) dX6_checkWord_158 rfl ?_
                          refine mj_goto C 163 dX6_checkWord_159 (by decide) ?_
                          exact mj_sub [0] rfl (mj_some (kj_8 true))
                · refine mj_aload_n C 0 dX6_checkWord_111 (i := 0) rfl rfl ?_
                  refine mj_getM C ff_X6_22 dX6_checkWord_112 sh_1 rfl ?_
                  refine mj_getI C ff_X6_84 dX6_checkWord_115 (cn_o (cnt_dx (h_3 1 6))) rfl ?_
                  refine mj_bipush C (v := 10) dX6_checkWord_118 rfl ?_
                  refine mj_icmp_ge C 158 dX6_checkWord_120 (by decide) ?_ ?_
                  · refine mj_iconst C (v := 1) dX6_checkWord_158 rfl ?_
                    refine mj_goto C 163 dX6_checkWord_159 (by decide) ?_
                    exact mj_sub [0] rfl (mj_some (kj_8 true))
                  · refine mj_iload_n C 1 dX6_checkWord_123 (i := 1) rfl rfl ?_
                    refine mj_bipush C (v := 100) dX6_checkWord_124 rfl ?_
                    refine mj_icmp_ne C 141 dX6_checkWord_126 (by decide) ?_ ?_
                    · refine mj_iload_n C 1 dX6_checkWord_141 (i := 1) rfl rfl ?_
                      refine mj_bipush C (v := 116) dX6_checkWord_142 rfl ?_
                      refine mj_icmp_ne C 162 dX6_checkWord_144 (by decide) ?_ ?_
                      · refine mj_iconst C (v := 0) dX6_checkWord_162 rfl ?_
                        exact mj_sub [0] rfl (mj_some (kj_8 false))
                      · refine mj_aload_n C 0 dX6_checkWord_147 (i := 0) rfl rfl ?_
                        refine mj_getM C ff_X6_22 dX6_checkWord_148 sh_1 rfl ?_
                        refine mj_getI C ff_X6_90 dX6_checkWord_151 (cn_o (cnt_dx (h_3 1 6))) rfl ?_
                        refine mj_iconst C (v := 5) dX6_checkWord_154 rfl ?_
                        refine mj_icmp_lt C 162 dX6_checkWord_155 (by decide) ?_ ?_
                        · refine mj_iconst C (v := 0) dX6_checkWord_162 rfl ?_
                          exact mj_sub [0] rfl (mj_some (kj_8 false))
                        · refine mj_iconst C (v := 1) dX6_checkWord_158 rfl ?_
                          refine mj_goto C 163 dX6_checkWord_159 (by decide) ?_
                          exact mj_sub [0] rfl (mj_some (kj_8 true))
                    · refine mj_aload_n C 0 dX6_checkWord_129 (i := 0) rfl rfl ?_
                      refine mj_getM C ff_X6_22 dX6_checkWord_130 sh_1 rfl ?_
                      refine mj_getI C ff_X6_87 dX6_checkWord_133 (cn_o (cnt_dx (h_3 1 6))) rfl ?_
                      refine mj_bipush C (v := 10) dX6_checkWord_136 rfl ?_
                      refine mj_icmp_ge C 158 dX6_checkWord_138 (by decide) ?_ ?_
                      · refine mj_iconst C (v := 1) dX6_checkWord_158 rfl ?_
                        refine mj_goto C 163 dX6_checkWord_159 (by decide) ?_
                        exact mj_sub [0] rfl (mj_some (kj_8 true))
                      · refine mj_iload_n C 1 dX6_checkWord_141 (i := 1) rfl rfl ?_
                        refine mj_bipush C (v := 116) dX6_checkWord_142 rfl ?_
                        refine mj_icmp_ne C 162 dX6_checkWord_144 (by decide) ?_ ?_
                        · refine mj_iconst C (v := 0) dX6_checkWord_162 rfl ?_
                          exact mj_sub [0] rfl (mj_some (kj_8 false))
                        · refine mj_aload_n C 0 dX6_checkWord_147 (i := 0) rfl rfl ?_
                          refine mj_getM C ff_X6_22 dX6_checkWord_148 sh_1 rfl ?_
                          refine mj_getI C ff_X6_90 dX6_checkWord_151 (cn_o (cnt_dx (h_3 1 6))) rfl ?_
                          refine mj_iconst C (v := 5) dX6_checkWord_154 rfl ?_
                          refine mj_icmp_lt C 162 dX6_checkWord_155 (by decide) ?_ ?_
                          · refine mj_iconst C (v := 0) dX6_checkWord_162 rfl ?_
                            exact mj_sub [0] rfl (mj_some (kj_8 false))
                          · refine mj_iconst C (v := 1) dX6_checkWord_158 rfl ?_
                            refine mj_goto C 163 dX6_checkWord_159 (by decide) ?_
                            exact mj_sub [0] rfl (mj_some (kj_8 true))
      · refine mj_istore_n C [(3, .int (md_bi v_7)), (0, rf K 1)] dX6_checkWord_163 (i := 3) rfl (by decide) rfl ?_
        refine mj_iload_n C 0 dX6_checkWord_164 (i := 3) rfl rfl ?_
        refine mj_phi1 177 (fun (h_9 : Mm) => []) (fun (h_9 : Mm) => []) (fun (h_9 : Mm) => h_9) (fun P' kj_10 => ?_) (fun h_9 => ?_)
        · refine mj_b_eq C 177 dX6_checkWord_165 (by decide) ?_ ?_
          · exact mj_sub [] rfl (mj_some (kj_10 h_3))
          · refine mj_aload_n C 1 dX6_checkWord_168 (i := 0) rfl rfl ?_
            refine mj_iconst C (v := 3) dX6_checkWord_169 rfl ?_
            refine mj_aload_n C 1 dX6_checkWord_170 (i := 0) rfl rfl ?_
            refine mj_getI C ff_X6_32 dX6_checkWord_171 sh_1 rfl ?_
            refine mj_vM C my_X6_findFault mv_X6_77 dX6_checkWord_174 sh_1 rfl (fun a hF => ctX6_findFault K h_3 (3 : Int32) (h_3 1 4)  hF) (by decide) (by decide) rfl rfl (Nat.le_of_ble_eq_true rfl) (fun h_11 => ?_)
            exact mj_sub [] rfl (mj_some (kj_10 h_11))
        · exact mj_rV C N dX6_checkWord_177
noncomputable def fX6_isFigure (h : Mm) (l0 : Int32) : Option (Bool) := md_bd ((if l0 < (48 : Int32) then some false else (if (57 : Int32) < l0 then some false else some true))) (fun (v_1 : Bool) => some v_1)
set_option maxRecDepth 100000 in
set_option maxHeartbeats 4000000 in
theorem ctX6_isFigure (K : Kx) (h : Mm) (l0 : Int32) {a : Bool} (hF : fX6_isFigure h l0 = some a) : Mt K yX6_isFigure cX6_isFigure 1 (some .boolean) 0 0 SHc [.int l0] h (some (.int (md_bi a))) h := by
  refine Mt.of hF [(0, .int l0)] (by decide) (Nat.le_of_ble_eq_true rfl) rfl (fun Y C N => ?_)
  have C : Cx K Y (0, 0) cX6_isFigure RX6 1 0 0 := C
  unfold fX6_isFigure
  refine mj_iload_n C 0 dX6_isFigure_0 (i := 0) rfl rfl ?_
  refine mj_bipush C (v := 48) dX6_isFigure_1 rfl ?_
  refine mj_phi1 17 (fun (v_1 : Bool) => []) (fun (v_1 : Bool) => [.int (md_bi v_1)]) (fun (v_1 : Bool) => h) (fun P' kj_2 => ?_) (fun v_1 => ?_)
  · refine mj_icmp_lt C 16 dX6_isFigure_3 (by decide) ?_ ?_
    · refine mj_iconst C (v := 0) dX6_isFigure_16 rfl ?_
      exact mj_sub [] rfl (mj_some (kj_2 false))
    · refine mj_iload_n C 0 dX6_isFigure_6 (i := 0) rfl rfl ?_
      refine mj_bipush C (v := 57) dX6_isFigure_7 rfl ?_
      refine mj_icmp_gt C 16 dX6_isFigure_9 (by decide) ?_ ?_
      · refine mj_iconst C (v := 0) dX6_isFigure_16 rfl ?_
        exact mj_sub [] rfl (mj_some (kj_2 false))
      · refine mj_iconst C (v := 1) dX6_isFigure_12 rfl ?_
        refine mj_goto C 17 dX6_isFigure_13 (by decide) ?_
        exact mj_sub [] rfl (mj_some (kj_2 true))
  · exact mj_rZ C N dX6_isFigure_17
noncomputable def fX6_readNumber_14 : Nat → Mm → Int32 → Int32 → Int32 → Option (Int32 × Mm)
  | 0, _, _, _, _ => none
  | n + 1, h, l1, l2, l3 => (if (h 1 1) ≤ (h 1 4) then some (l3, h) else md_bd (fX6_letterHere h) (fun r_3 => md_bd (fX6_isFigure h r_3) (fun r_4 => (if r_4 = true then md_bd (fX6_letterHere h) (fun r_5 => md_lt (if (1000 : Int32) < (((l3 * (10 : Int32)) + r_5) - (48 : Int32)) then (1000 : Int32) else (((l3 * (10 : Int32)) + r_5) - (48 : Int32))) (fun l3_6 : Int32 => md_lt (md_up h 1 4 ((h 1 4) + (1 : Int32))) (fun h_7 : Mm => fX6_readNumber_14 n h_7 l1 l2 l3_6))) else some (l3, h)))))
set_option maxRecDepth 100000 in
set_option maxHeartbeats 4000000 in
theorem lX6_readNumber_14 {K : Kx} {Y : Yx} {cs : Nat × Nat} (C : Cx K Y cs cX6_readNumber RX6 5 1 22) {P : Int32 × Mm → Prop} : ∀ (n : Nat) (h : Mm) (l1 : Int32) (l2 : Int32) (l3 : Int32), (∀ (w3 : Int32) (hw : Mm), J SHc K Y cs (P (w3, hw)) 67 [(0, rf K 1), (1, .int l1), (2, .int l2), (3, .int w3)] [] hw) → J SHc K Y cs (mj_O (fX6_readNumber_14 n h l1 l2 l3) P) 14 [(0, rf K 1), (1, .int l1), (2, .int l2), (3, .int l3)] [] h := by
  intro n
  induction n with
  | zero => intro h l1 l2 l3 kk0; exact mj_none
  | succ n ih =>
    intro h l1 l2 l3 kk0
    rw [fX6_readNumber_14]
    refine mj_aload_n C 0 dX6_readNumber_14 (i := 0) rfl rfl ?_
    refine mj_getI C ff_X6_32 dX6_readNumber_15 sh_1 rfl ?_
    refine mj_aload_n C 0 dX6_readNumber_18 (i := 0) rfl rfl ?_
    refine mj_getI C ff_X6_26 dX6_readNumber_19 sh_1 rfl ?_
    refine mj_icmp_ge C 67 dX6_readNumber_22 (by decide) ?_ ?_
    · exact mj_sub [0, 1, 2, 3] rfl (mj_some (kk0 l3 h))
    · refine mj_aload_n C 0 dX6_readNumber_25 (i := 0) rfl rfl ?_
      refine mj_vI C my_X6_letterHere mv_X6_44 dX6_readNumber_26 sh_1 rfl (fun a hF => ctX6_letterHere K h   hF) (by decide) (by decide) rfl rfl (Nat.le_of_ble_eq_true rfl) (fun r_3 => ?_)
      refine mj_sB C my_X6_isFigure ms_X6_136 dX6_readNumber_29 (fun a hF => ctX6_isFigure K h r_3  hF) (by decide) (by decide) rfl rfl (Nat.le_of_ble_eq_true rfl) (fun r_4 => ?_)
      refine mj_b_eq C 67 dX6_readNumber_32 (by decide) ?_ ?_
      · exact mj_sub [0, 1, 2, 3] rfl (mj_some (kk0 l3 h))
      · refine mj_iload_n C 3 dX6_readNumber_35 (i := 3) rfl rfl ?_
        refine mj_bipush C (v := 10) dX6_readNumber_36 rfl ?_
        refine mj_imul C dX6_readNumber_38 ?_
        refine mj_aload_n C 0 dX6_readNumber_39 (i := 0) rfl rfl ?_
        refine mj_vI C my_X6_letterHere mv_X6_44 dX6_readNumber_40 sh_1 rfl (fun a hF => ctX6_letterHere K h   hF) (by decide) (by decide) rfl rfl (Nat.le_of_ble_eq_true rfl) (fun r_5 => ?_)
        refine mj_iadd C dX6_readNumber_43 ?_
        refine mj_bipush C (v := 48) dX6_readNumber_44 rfl ?_
        refine mj_isub C dX6_readNumber_46 ?_
        refine mj_sipush C (v := 1000) dX6_readNumber_47 rfl ?_
        refine mj_mmin C ml_X6_140 mm_min.1 mm_min.2.1 mm_min.2.2 (by decide) (Nat.le_of_ble_eq_true rfl) dX6_readNumber_50 ?_
        refine mj_istore_nL C (fun l3_6 => [(3, .int l3_6), (0, rf K 1), (1, .int l1), (2, .int l2)]) dX6_readNumber_53 (i := 3) rfl (by decide) rfl (fun l3_6 => ?_)
        refine mj_aload_n C 1 dX6_readNumber_54 (i := 0) rfl rfl ?_
        refine mj_dup C dX6_readNumber_55 rfl ?_
        refine mj_getI C ff_X6_32 dX6_readNumber_56 sh_1 rfl ?_
        refine mj_iconst C (v := 1) dX6_readNumber_59 rfl ?_
        refine mj_iadd C dX6_readNumber_60 ?_
        refine mj_putL C fp_X6_32 dX6_readNumber_61 sh_1 rfl rfl rfl (fun h_7 => ?_)
        refine mj_goto C 14 dX6_readNumber_64 (by decide) ?_
        exact mj_sub [1, 2, 3, 0] rfl (ih h_7 l1 l2 l3_6 kk0)
noncomputable def fX6_readNumber (h : Mm) (l1 : Int32) (l2 : Int32) : Option (Int32 × Mm) := md_bd (fX6_skipBlanks h) (fun h_1 => md_lt (md_up h_1 1 5 (h_1 1 4)) (fun h_2 : Mm => md_b2 (fX6_readNumber_14 md_N h_2 l1 l2 (0 : Int32)) (fun (v_8 : Int32) (h_9 : Mm) => md_lt ((h_9 1 4) - (h_9 1 5)) (fun l4_10 : Int32 => md_bd ((if l4_10 = 0 then md_bd (fX6_findFault h_9 (1 : Int32) (h_9 1 5)) (fun h_13 => some h_13) else some h_9)) (fun (h_11 : Mm) => md_bd ((if (3 : Int32) < l4_10 then md_bd (fX6_findFault h_11 (2 : Int32) (h_11 1 5)) (fun h_16 => some h_16) else (if v_8 < l1 then md_bd (fX6_findFault h_11 (2 : Int32) (h_11 1 5)) (fun h_17 => some h_17) else (if v_8 ≤ l2 then some h_11 else md_bd (fX6_findFault h_11 (2 : Int32) (h_11 1 5)) (fun h_18 => some h_18))))) (fun (h_14 : Mm) => md_bd ((if (h_14 1 3) = 0 then some v_8 else some (0 : Int32))) (fun (v_19 : Int32) => some (v_19, h_14))))))))
set_option maxRecDepth 100000 in
set_option maxHeartbeats 4000000 in
theorem ctX6_readNumber (K : Kx) (h : Mm) (l1 : Int32) (l2 : Int32) {a : Int32 × Mm} (hF : fX6_readNumber h l1 l2 = some a) : Mt K yX6_readNumber cX6_readNumber 5 (some .int) 1 22 SHc [rf K 1, .int l1, .int l2] h (some (.int a.1)) a.2 := by
  refine Mt.of hF [(0, rf K 1), (1, .int l1), (2, .int l2)] (by decide) (Nat.le_of_ble_eq_true rfl) rfl (fun Y C N => ?_)
  have C : Cx K Y (0, 0) cX6_readNumber RX6 5 1 22 := C
  unfold fX6_readNumber
  refine mj_aload_n C 0 dX6_readNumber_0 (i := 0) rfl rfl ?_
  refine mj_vM C my_X6_skipBlanks mv_X6_38 dX6_readNumber_1 sh_1 rfl (fun a hF => ctX6_skipBlanks K h   hF) (by decide) (by decide) rfl rfl (Nat.le_of_ble_eq_true rfl) (fun h_1 => ?_)
  refine mj_aload_n C 0 dX6_readNumber_4 (i := 0) rfl rfl ?_
  refine mj_aload_n C 0 dX6_readNumber_5 (i := 0) rfl rfl ?_
  refine mj_getI C ff_X6_32 dX6_readNumber_6 sh_1 rfl ?_
  refine mj_putL C fp_X6_109 dX6_readNumber_9 sh_1 rfl rfl rfl (fun h_2 => ?_)
  refine mj_iconst C (v := 0) dX6_readNumber_12 rfl ?_
  refine mj_istore_n C [(3, .int (0 : Int32)), (0, rf K 1), (1, .int l1), (2, .int l2)] dX6_readNumber_13 (i := 3) rfl (by decide) rfl ?_
  refine mj_phi2 67 (fun (v_8 : Int32) (h_9 : Mm) => [(0, rf K 1), (1, .int l1), (2, .int l2), (3, .int v_8)]) (fun (v_8 : Int32) (h_9 : Mm) => []) (fun (v_8 : Int32) (h_9 : Mm) => h_9) (fun P' kj_21 => mj_sub [1, 2, 3, 0] rfl (lX6_readNumber_14 C md_N h_2 l1 l2 (0 : Int32) kj_21)) (fun v_8 h_9 => ?_)
  refine mj_aload_n C 0 dX6_readNumber_67 (i := 0) rfl rfl ?_
  refine mj_getI C ff_X6_32 dX6_readNumber_68 sh_1 rfl ?_
  refine mj_aload_n C 0 dX6_readNumber_71 (i := 0) rfl rfl ?_
  refine mj_getI C ff_X6_109 dX6_readNumber_72 sh_1 rfl ?_
  refine mj_isub C dX6_readNumber_75 ?_
  refine mj_istoreL C (fun l4_10 => [(4, .int l4_10), (0, rf K 1), (1, .int l1), (2, .int l2), (3, .int v_8)]) dX6_readNumber_76 (by decide) rfl (fun l4_10 => ?_)
  refine mj_iload C 0 dX6_readNumber_78 rfl ?_
  refine mj_phi1 92 (fun (h_11 : Mm) => [(0, rf K 1), (1, .int l1), (2, .int l2), (3, .int v_8), (4, .int l4_10)]) (fun (h_11 : Mm) => []) (fun (h_11 : Mm) => h_11) (fun P' kj_12 => ?_) (fun h_11 => ?_)
  · refine mj_if_ne C 92 dX6_readNumber_80 (by decide) ?_ ?_
    · exact mj_sub [1, 2, 3, 4, 0] rfl (mj_some (kj_12 h_9))
    · refine mj_aload_n C 1 dX6_readNumber_83 (i := 0) rfl rfl ?_
      refine mj_iconst C (v := 1) dX6_readNumber_84 rfl ?_
      refine mj_aload_n C 1 dX6_readNumber_85 (i := 0) rfl rfl ?_
      refine mj_getI C ff_X6_109 dX6_readNumber_86 sh_1 rfl ?_
      refine mj_vM C my_X6_findFault mv_X6_77 dX6_readNumber_89 sh_1 rfl (fun a hF => ctX6_findFault K h_9 (1 : Int32) (h_9 1 5)  hF) (by decide) (by decide) rfl rfl (Nat.le_of_ble_eq_true rfl) (fun h_13 => ?_)
      exact mj_sub [1, 2, 3, 4, 0] rfl (mj_some (kj_12 h_13))
  · refine mj_iload C 4 dX6_readNumber_92 rfl ?_
    refine mj_iconst C (v := 3) dX6_readNumber_94 rfl ?_
    refine mj_phi1 117 (fun (h_14 : Mm) => [(0, rf K 1), (3, .int v_8)]) (fun (h_14 : Mm) => []) (fun (h_14 : Mm) => h_14) (fun P' kj_15 => ?_) (fun h_14 => ?_)
    · refine mj_icmp_gt C 108 dX6_readNumber_95 (by decide) ?_ ?_
      · refine mj_aload_n C 0 dX6_readNumber_108 (i := 0) rfl rfl ?_
        refine mj_iconst C (v := 2) dX6_readNumber_109 rfl ?_
        refine mj_aload_n C 0 dX6_readNumber_110 (i := 0) rfl rfl ?_
        refine mj_getI C ff_X6_109 dX6_readNumber_111 sh_1 rfl ?_
        refine mj_vM C my_X6_findFault mv_X6_77 dX6_readNumber_114 sh_1 rfl (fun a hF => ctX6_findFault K h_11 (2 : Int32) (h_11 1 5)  hF) (by decide) (by decide) rfl rfl (Nat.le_of_ble_eq_true rfl) (fun h_16 => ?_)
        exact mj_sub [0, 3] rfl (mj_some (kj_15 h_16))
      · refine mj_iload_n C 3 dX6_readNumber_98 (i := 3) rfl rfl ?_
        refine mj_iload_n C 1 dX6_readNumber_99 (i := 1) rfl rfl ?_
        refine mj_icmp_lt C 108 dX6_readNumber_100 (by decide) ?_ ?_
        · refine mj_aload_n C 0 dX6_readNumber_108 (i := 0) rfl rfl ?_
          refine mj_iconst C (v := 2) dX6_readNumber_109 rfl ?_
          refine mj_aload_n C 0 dX6_readNumber_110 (i := 0) rfl rfl ?_
          refine mj_getI C ff_X6_109 dX6_readNumber_111 sh_1 rfl ?_
          refine mj_vM C my_X6_findFault mv_X6_77 dX6_readNumber_114 sh_1 rfl (fun a hF => ctX6_findFault K h_11 (2 : Int32) (h_11 1 5)  hF) (by decide) (by decide) rfl rfl (Nat.le_of_ble_eq_true rfl) (fun h_17 => ?_)
          exact mj_sub [0, 3] rfl (mj_some (kj_15 h_17))
        · refine mj_iload_n C 3 dX6_readNumber_103 (i := 3) rfl rfl ?_
          refine mj_iload_n C 2 dX6_readNumber_104 (i := 2) rfl rfl ?_
          refine mj_icmp_le C 117 dX6_readNumber_105 (by decide) ?_ ?_
          · exact mj_sub [0, 3] rfl (mj_some (kj_15 h_11))
          · refine mj_aload_n C 0 dX6_readNumber_108 (i := 0) rfl rfl ?_
            refine mj_iconst C (v := 2) dX6_readNumber_109 rfl ?_
            refine mj_aload_n C 0 dX6_readNumber_110 (i := 0) rfl rfl ?_
            refine mj_getI C ff_X6_109 dX6_readNumber_111 sh_1 rfl ?_
            refine mj_vM C my_X6_findFault mv_X6_77 dX6_readNumber_114 sh_1 rfl (fun a hF => ctX6_findFault K h_11 (2 : Int32) (h_11 1 5)  hF) (by decide) (by decide) rfl rfl (Nat.le_of_ble_eq_true rfl) (fun h_18 => ?_)
            exact mj_sub [0, 3] rfl (mj_some (kj_15 h_18))
    · refine mj_aload_n C 0 dX6_readNumber_117 (i := 0) rfl rfl ?_
      refine mj_getI C ff_X6_35 dX6_readNumber_118 sh_1 rfl ?_
      refine mj_phi1 129 (fun (v_19 : Int32) => []) (fun (v_19 : Int32) => [.int v_19]) (fun (v_19 : Int32) => h_14) (fun P' kj_20 => ?_) (fun v_19 => ?_)
      · refine mj_if_ne C 128 dX6_readNumber_121 (by decide) ?_ ?_
        · refine mj_iconst C (v := 0) dX6_readNumber_128 rfl ?_
          exact mj_sub [] rfl (mj_some (kj_20 (0 : Int32)))
        · refine mj_iload_n C 1 dX6_readNumber_124 (i := 3) rfl rfl ?_
          refine mj_goto C 129 dX6_readNumber_125 (by decide) ?_
          exact mj_sub [] rfl (mj_some (kj_20 v_8))
      · exact mj_rIM C N dX6_readNumber_129
noncomputable def fX6_readGate (h : Mm) : Option (Mm) := md_b2 (fX6_readNumber h (1 : Int32) (999 : Int32)) (fun r_1 h_2 => md_lt (md_up h_2 (md_dx (h 1 6)) 1 r_1) (fun h_3 : Mm => md_b2 (fX6_readNumber h_3 (0 : Int32) (99 : Int32)) (fun r_4 h_5 => md_lt (md_up h_5 (md_dx (h_3 1 6)) 2 r_4) (fun h_6 : Mm => md_lt (md_up h_6 (md_dx (h_6 1 6)) 0 (1 : Int32)) (fun h_7 : Mm => some h_7)))))
set_option maxRecDepth 100000 in
set_option maxHeartbeats 4000000 in
theorem ctX6_readGate (K : Kx) (h : Mm) {a : Mm} (hF : fX6_readGate h = some a) : Mt K yX6_readGate cX6_readGate 1 none 2 46 SHc [rf K 1] h none a := by
  refine Mt.of hF [(0, rf K 1)] (by decide) (Nat.le_of_ble_eq_true rfl) rfl (fun Y C N => ?_)
  have C : Cx K Y (0, 0) cX6_readGate RX6 1 2 46 := C
  unfold fX6_readGate
  refine mj_aload_n C 0 dX6_readGate_0 (i := 0) rfl rfl ?_
  refine mj_getM C ff_X6_22 dX6_readGate_1 sh_1 rfl ?_
  refine mj_aload_n C 0 dX6_readGate_4 (i := 0) rfl rfl ?_
  refine mj_iconst C (v := 1) dX6_readGate_5 rfl ?_
  refine mj_sipush C (v := 999) dX6_readGate_6 rfl ?_
  refine mj_vIM C my_X6_readNumber mv_X6_93 dX6_readGate_9 sh_1 rfl (fun a hF => ctX6_readNumber K h (1 : Int32) (999 : Int32)  hF) (by decide) (by decide) rfl rfl (Nat.le_of_ble_eq_true rfl) (fun r_1 h_2 => ?_)
  refine mj_putL C fp_X6_97 dX6_readGate_12 (cn_o (cnt_dx (h 1 6))) rfl rfl rfl (fun h_3 => ?_)
  refine mj_aload_n C 0 dX6_readGate_15 (i := 0) rfl rfl ?_
  refine mj_getM C ff_X6_22 dX6_readGate_16 sh_1 rfl ?_
  refine mj_aload_n C 0 dX6_readGate_19 (i := 0) rfl rfl ?_
  refine mj_iconst C (v := 0) dX6_readGate_20 rfl ?_
  refine mj_bipush C (v := 99) dX6_readGate_21 rfl ?_
  refine mj_vIM C my_X6_readNumber mv_X6_93 dX6_readGate_23 sh_1 rfl (fun a hF => ctX6_readNumber K h_3 (0 : Int32) (99 : Int32)  hF) (by decide) (by decide) rfl rfl (Nat.le_of_ble_eq_true rfl) (fun r_4 h_5 => ?_)
  refine mj_putL C fp_X6_100 dX6_readGate_26 (cn_o (cnt_dx (h_3 1 6))) rfl rfl rfl (fun h_6 => ?_)
  refine mj_aload_n C 0 dX6_readGate_29 (i := 0) rfl rfl ?_
  refine mj_getM C ff_X6_22 dX6_readGate_30 sh_1 rfl ?_
  refine mj_iconst C (v := 1) dX6_readGate_33 rfl ?_
  refine mj_putL C fp_X6_73 dX6_readGate_34 (cn_o (cnt_dx (h_6 1 6))) rfl rfl rfl (fun h_7 => ?_)
  exact mj_rV C N dX6_readGate_37
noncomputable def fX6_readIdea (h : Mm) : Option (Mm) := md_b2 (fX6_readNumber h (1 : Int32) (99 : Int32)) (fun r_1 h_2 => md_bd ((if (h_2 1 3) = 0 then md_ck (md_in (h_2 (md_dx (h_2 1 6)) 3) 8) (md_lt (md_up h_2 ((md_dx (h_2 1 6)) + 1) ((h_2 (md_dx (h_2 1 6)) 3)).toNatClampNeg r_1) (fun h_5 : Mm => md_lt (md_up h_5 (md_dx (h_5 1 6)) 3 ((h_5 (md_dx (h_5 1 6)) 3) + (1 : Int32))) (fun h_6 : Mm => some h_6))) else some h_2)) (fun (h_3 : Mm) => some h_3))
set_option maxRecDepth 100000 in
set_option maxHeartbeats 4000000 in
theorem ctX6_readIdea (K : Kx) (h : Mm) {a : Mm} (hF : fX6_readIdea h = some a) : Mt K yX6_readIdea cX6_readIdea 2 none 2 46 SHc [rf K 1] h none a := by
  refine Mt.of hF [(0, rf K 1)] (by decide) (Nat.le_of_ble_eq_true rfl) rfl (fun Y C N => ?_)
  have C : Cx K Y (0, 0) cX6_readIdea RX6 2 2 46 := C
  unfold fX6_readIdea
  refine mj_aload_n C 0 dX6_readIdea_0 (i := 0) rfl rfl ?_
  refine mj_iconst C (v := 1) dX6_readIdea_1 rfl ?_
  refine mj_bipush C (v := 99) dX6_readIdea_2 rfl ?_
  refine mj_vIM C my_X6_readNumber mv_X6_93 dX6_readIdea_4 sh_1 rfl (fun a hF => ctX6_readNumber K h (1 : Int32) (99 : Int32)  hF) (by decide) (by decide) rfl rfl (Nat.le_of_ble_eq_true rfl) (fun r_1 h_2 => ?_)
  refine mj_istore_n C [(1, .int r_1), (0, rf K 1)] dX6_readIdea_7 (i := 1) rfl (by decide) rfl ?_
  refine mj_aload_n C 1 dX6_readIdea_8 (i := 0) rfl rfl ?_
  refine mj_getI C ff_X6_35 dX6_readIdea_9 sh_1 rfl ?_
  refine mj_phi1 44 (fun (h_3 : Mm) => []) (fun (h_3 : Mm) => []) (fun (h_3 : Mm) => h_3) (fun P' kj_4 => ?_) (fun h_3 => ?_)
  · refine mj_if_ne C 44 dX6_readIdea_12 (by decide) ?_ ?_
    · exact mj_sub [] rfl (mj_some (kj_4 h_2))
    · refine mj_aload_n C 1 dX6_readIdea_15 (i := 0) rfl rfl ?_
      refine mj_getM C ff_X6_22 dX6_readIdea_16 sh_1 rfl ?_
      refine mj_getR C ff_X6_103 dX6_readIdea_19 (cn_o (cnt_dx (h_2 1 6))) rfl ?_
      refine mj_aload_n C 1 dX6_readIdea_22 (i := 0) rfl rfl ?_
      refine mj_getM C ff_X6_22 dX6_readIdea_23 sh_1 rfl ?_
      refine mj_getI C ff_X6_81 dX6_readIdea_26 (cn_o (cnt_dx (h_2 1 6))) rfl ?_
      refine mj_iload_n C 0 dX6_readIdea_29 (i := 1) rfl rfl ?_
      refine mj_iast C dX6_readIdea_30 (cn_4 (cnt_dx (h_2 1 6))) (fun h_5 => ?_)
      refine mj_aload_n C 1 dX6_readIdea_31 (i := 0) rfl rfl ?_
      refine mj_getM C ff_X6_22 dX6_readIdea_32 sh_1 rfl ?_
      refine mj_dup C dX6_readIdea_35 rfl ?_
      refine mj_getI C ff_X6_81 dX6_readIdea_36 (cn_o (cnt_dx (h_5 1 6))) rfl ?_
      refine mj_iconst C (v := 1) dX6_readIdea_39 rfl ?_
      refine mj_iadd C dX6_readIdea_40 ?_
      refine mj_putL C fp_X6_81 dX6_readIdea_41 (cn_o (cnt_dx (h_5 1 6))) rfl rfl rfl (fun h_6 => ?_)
      exact mj_sub [] rfl (mj_some (kj_4 h_6))
  · exact mj_rV C N dX6_readIdea_44
noncomputable def fX6_readToldIdea (h : Mm) : Option (Int32 × Mm) := md_b2 (fX6_readNumber h (0 : Int32) ((h (md_dx (h 1 6)) 3) - (1 : Int32))) (fun r_1 h_2 => some (r_1, h_2))
set_option maxRecDepth 100000 in
set_option maxHeartbeats 4000000 in
theorem ctX6_readToldIdea (K : Kx) (h : Mm) {a : Int32 × Mm} (hF : fX6_readToldIdea h = some a) : Mt K yX6_readToldIdea cX6_readToldIdea 1 (some .int) 2 46 SHc [rf K 1] h (some (.int a.1)) a.2 := by
  refine Mt.of hF [(0, rf K 1)] (by decide) (Nat.le_of_ble_eq_true rfl) rfl (fun Y C N => ?_)
  have C : Cx K Y (0, 0) cX6_readToldIdea RX6 1 2 46 := C
  unfold fX6_readToldIdea
  refine mj_aload_n C 0 dX6_readToldIdea_0 (i := 0) rfl rfl ?_
  refine mj_iconst C (v := 0) dX6_readToldIdea_1 rfl ?_
  refine mj_aload_n C 0 dX6_readToldIdea_2 (i := 0) rfl rfl ?_
  refine mj_getM C ff_X6_22 dX6_readToldIdea_3 sh_1 rfl ?_
  refine mj_getI C ff_X6_81 dX6_readToldIdea_6 (cn_o (cnt_dx (h 1 6))) rfl ?_
  refine mj_iconst C (v := 1) dX6_readToldIdea_9 rfl ?_
  refine mj_isub C dX6_readToldIdea_10 ?_
  refine mj_vIM C my_X6_readNumber mv_X6_93 dX6_readToldIdea_11 sh_1 rfl (fun a hF => ctX6_readNumber K h (0 : Int32) ((h (md_dx (h 1 6)) 3) - (1 : Int32))  hF) (by decide) (by decide) rfl rfl (Nat.le_of_ble_eq_true rfl) (fun r_1 h_2 => ?_)
  exact mj_rIM C N dX6_readToldIdea_14
noncomputable def fX6_readJoining (h : Mm) : Option (Mm) := md_b2 (fX6_readToldIdea h) (fun r_1 h_2 => md_b2 (fX6_readToldIdea h_2) (fun r_3 h_4 => md_b2 (fX6_readToldIdea h_4) (fun r_5 h_6 => md_bd ((if r_5 = r_1 then md_bd (fX6_findFault h_6 (4 : Int32) (h_6 1 5)) (fun h_9 => some h_9) else (if r_5 = r_3 then md_bd (fX6_findFault h_6 (4 : Int32) (h_6 1 5)) (fun h_10 => some h_10) else some h_6))) (fun (h_7 : Mm) => md_bd ((if (h_7 1 3) = 0 then md_ck (md_in (h_7 (md_dx (h_7 1 6)) 5) 10) (md_lt (md_up h_7 ((md_dx (h_7 1 6)) + 2) ((h_7 (md_dx (h_7 1 6)) 5)).toNatClampNeg r_1) (fun h_13 : Mm => md_ck (md_in (h_13 (md_dx (h_13 1 6)) 5) 10) (md_lt (md_up h_13 ((md_dx (h_13 1 6)) + 3) ((h_13 (md_dx (h_13 1 6)) 5)).toNatClampNeg r_3) (fun h_14 : Mm => md_ck (md_in (h_14 (md_dx (h_14 1 6)) 5) 10) (md_lt (md_up h_14 ((md_dx (h_14 1 6)) + 4) ((h_14 (md_dx (h_14 1 6)) 5)).toNatClampNeg r_5) (fun h_15 : Mm => md_lt (md_up h_15 (md_dx (h_15 1 6)) 5 ((h_15 (md_dx (h_15 1 6)) 5) + (1 : Int32))) (fun h_16 : Mm => some h_16))))))) else some h_7)) (fun (h_11 : Mm) => some h_11)))))
set_option maxRecDepth 100000 in
set_option maxHeartbeats 4000000 in
theorem ctX6_readJoining (K : Kx) (h : Mm) {a : Mm} (hF : fX6_readJoining h = some a) : Mt K yX6_readJoining cX6_readJoining 4 none 3 66 SHc [rf K 1] h none a := by
  refine Mt.of hF [(0, rf K 1)] (by decide) (Nat.le_of_ble_eq_true rfl) rfl (fun Y C N => ?_)
  have C : Cx K Y (0, 0) cX6_readJoining RX6 4 3 66 := C
  unfold fX6_readJoining
  refine mj_aload_n C 0 dX6_readJoining_0 (i := 0) rfl rfl ?_
  refine mj_vIM C my_X6_readToldIdea mv_X6_106 dX6_readJoining_1 sh_1 rfl (fun a hF => ctX6_readToldIdea K h   hF) (by decide) (by decide) rfl rfl (Nat.le_of_ble_eq_true rfl) (fun r_1 h_2 => ?_)
  refine mj_istore_n C [(1, .int r_1), (0, rf K 1)] dX6_readJoining_4 (i := 1) rfl (by decide) rfl ?_
  refine mj_aload_n C 1 dX6_readJoining_5 (i := 0) rfl rfl ?_
  refine mj_vIM C my_X6_readToldIdea mv_X6_106 dX6_readJoining_6 sh_1 rfl (fun a hF => ctX6_readToldIdea K h_2   hF) (by decide) (by decide) rfl rfl (Nat.le_of_ble_eq_true rfl) (fun r_3 h_4 => ?_)
  refine mj_istore_n C [(2, .int r_3), (1, .int r_1), (0, rf K 1)] dX6_readJoining_9 (i := 2) rfl (by decide) rfl ?_
  refine mj_aload_n C 2 dX6_readJoining_10 (i := 0) rfl rfl ?_
  refine mj_vIM C my_X6_readToldIdea mv_X6_106 dX6_readJoining_11 sh_1 rfl (fun a hF => ctX6_readToldIdea K h_4   hF) (by decide) (by decide) rfl rfl (Nat.le_of_ble_eq_true rfl) (fun r_5 h_6 => ?_)
  refine mj_istore_n C [(3, .int r_5), (2, .int r_3), (1, .int r_1), (0, rf K 1)] dX6_readJoining_14 (i := 3) rfl (by decide) rfl ?_
  refine mj_iload_n C 0 dX6_readJoining_15 (i := 3) rfl rfl ?_
  refine mj_iload_n C 2 dX6_readJoining_16 (i := 1) rfl rfl ?_
  refine mj_phi1 34 (fun (h_7 : Mm) => [(0, rf K 1), (1, .int r_1), (2, .int r_3), (3, .int r_5)]) (fun (h_7 : Mm) => []) (fun (h_7 : Mm) => h_7) (fun P' kj_8 => ?_) (fun h_7 => ?_)
  · refine mj_icmp_eq C 25 dX6_readJoining_17 (by decide) ?_ ?_
    · refine mj_aload_n C 3 dX6_readJoining_25 (i := 0) rfl rfl ?_
      refine mj_iconst C (v := 4) dX6_readJoining_26 rfl ?_
      refine mj_aload_n C 3 dX6_readJoining_27 (i := 0) rfl rfl ?_
      refine mj_getI C ff_X6_109 dX6_readJoining_28 sh_1 rfl ?_
      refine mj_vM C my_X6_findFault mv_X6_77 dX6_readJoining_31 sh_1 rfl (fun a hF => ctX6_findFault K h_6 (4 : Int32) (h_6 1 5)  hF) (by decide) (by decide) rfl rfl (Nat.le_of_ble_eq_true rfl) (fun h_9 => ?_)
      exact mj_sub [3, 2, 1, 0] rfl (mj_some (kj_8 h_9))
    · refine mj_iload_n C 0 dX6_readJoining_20 (i := 3) rfl rfl ?_
      refine mj_iload_n C 1 dX6_readJoining_21 (i := 2) rfl rfl ?_
      refine mj_icmp_ne C 34 dX6_readJoining_22 (by decide) ?_ ?_
      · exact mj_sub [3, 2, 1, 0] rfl (mj_some (kj_8 h_6))
      · refine mj_aload_n C 3 dX6_readJoining_25 (i := 0) rfl rfl ?_
        refine mj_iconst C (v := 4) dX6_readJoining_26 rfl ?_
        refine mj_aload_n C 3 dX6_readJoining_27 (i := 0) rfl rfl ?_
        refine mj_getI C ff_X6_109 dX6_readJoining_28 sh_1 rfl ?_
        refine mj_vM C my_X6_findFault mv_X6_77 dX6_readJoining_31 sh_1 rfl (fun a hF => ctX6_findFault K h_6 (4 : Int32) (h_6 1 5)  hF) (by decide) (by decide) rfl rfl (Nat.le_of_ble_eq_true rfl) (fun h_10 => ?_)
        exact mj_sub [3, 2, 1, 0] rfl (mj_some (kj_8 h_10))
  · refine mj_aload_n C 0 dX6_readJoining_34 (i := 0) rfl rfl ?_
    refine mj_getI C ff_X6_35 dX6_readJoining_35 sh_1 rfl ?_
    refine mj_phi1 102 (fun (h_11 : Mm) => []) (fun (h_11 : Mm) => []) (fun (h_11 : Mm) => h_11) (fun P' kj_12 => ?_) (fun h_11 => ?_)
    · refine mj_if_ne C 102 dX6_readJoining_38 (by decide) ?_ ?_
      · exact mj_sub [] rfl (mj_some (kj_12 h_7))
      · refine mj_aload_n C 0 dX6_readJoining_41 (i := 0) rfl rfl ?_
        refine mj_getM C ff_X6_22 dX6_readJoining_42 sh_1 rfl ?_
        refine mj_getR C ff_X6_112 dX6_readJoining_45 (cn_o (cnt_dx (h_7 1 6))) rfl ?_
        refine mj_aload_n C 0 dX6_readJoining_48 (i := 0) rfl rfl ?_
        refine mj_getM C ff_X6_22 dX6_readJoining_49 sh_1 rfl ?_
        refine mj_getI C ff_X6_84 dX6_readJoining_52 (cn_o (cnt_dx (h_7 1 6))) rfl ?_
        refine mj_iload_n C 1 dX6_readJoining_55 (i := 1) rfl rfl ?_
        refine mj_iast C dX6_readJoining_56 (cn_6 (cnt_dx (h_7 1 6))) (fun h_13 => ?_)
        refine mj_aload_n C 0 dX6_readJoining_57 (i := 0) rfl rfl ?_
        refine mj_getM C ff_X6_22 dX6_readJoining_58 sh_1 rfl ?_
        refine mj_getR C ff_X6_115 dX6_readJoining_61 (cn_o (cnt_dx (h_13 1 6))) rfl ?_
        refine mj_aload_n C 0 dX6_readJoining_64 (i := 0) rfl rfl ?_
        refine mj_getM C ff_X6_22 dX6_readJoining_65 sh_1 rfl ?_
        refine mj_getI C ff_X6_84 dX6_readJoining_68 (cn_o (cnt_dx (h_13 1 6))) rfl ?_
        refine mj_iload_n C 2 dX6_readJoining_71 (i := 2) rfl rfl ?_
        refine mj_iast C dX6_readJoining_72 (cn_7 (cnt_dx (h_13 1 6))) (fun h_14 => ?_)
        refine mj_aload_n C 0 dX6_readJoining_73 (i := 0) rfl rfl ?_
        refine mj_getM C ff_X6_22 dX6_readJoining_74 sh_1 rfl ?_
        refine mj_getR C ff_X6_118 dX6_readJoining_77 (cn_o (cnt_dx (h_14 1 6))) rfl ?_
        refine mj_aload_n C 0 dX6_readJoining_80 (i := 0) rfl rfl ?_
        refine mj_getM C ff_X6_22 dX6_readJoining_81 sh_1 rfl ?_
        refine mj_getI C ff_X6_84 dX6_readJoining_84 (cn_o (cnt_dx (h_14 1 6))) rfl ?_
        refine mj_iload_n C 3 dX6_readJoining_87 (i := 3) rfl rfl ?_
        refine mj_iast C dX6_readJoining_88 (cn_8 (cnt_dx (h_14 1 6))) (fun h_15 => ?_)
        refine mj_aload_n C 0 dX6_readJoining_89 (i := 0) rfl rfl ?_
        refine mj_getM C ff_X6_22 dX6_readJoining_90 sh_1 rfl ?_
        refine mj_dup C dX6_readJoining_93 rfl ?_
        refine mj_getI C ff_X6_84 dX6_readJoining_94 (cn_o (cnt_dx (h_15 1 6))) rfl ?_
        refine mj_iconst C (v := 1) dX6_readJoining_97 rfl ?_
        refine mj_iadd C dX6_readJoining_98 ?_
        refine mj_putL C fp_X6_84 dX6_readJoining_99 (cn_o (cnt_dx (h_15 1 6))) rfl rfl rfl (fun h_16 => ?_)
        exact mj_sub [] rfl (mj_some (kj_12 h_16))
    · exact mj_rV C N dX6_readJoining_102
noncomputable def fX6_readTalk (h : Mm) : Option (Mm) := md_b2 (fX6_readToldIdea h) (fun r_1 h_2 => md_b2 (fX6_readToldIdea h_2) (fun r_3 h_4 => md_bd ((if r_1 = r_3 then md_bd (fX6_findFault h_4 (4 : Int32) (h_4 1 5)) (fun h_7 => some h_7) else md_ck (md_in r_3 8) (md_ck (md_in r_1 8) ((if (h_4 ((md_dx (h_4 1 6)) + 1) (r_3).toNatClampNeg) ≤ (h_4 ((md_dx (h_4 1 6)) + 1) (r_1).toNatClampNeg) then some h_4 else md_bd (fX6_findFault h_4 (4 : Int32) (h_4 1 5)) (fun h_8 => some h_8)))))) (fun (h_5 : Mm) => md_b2 (fX6_readNumber h_5 (1 : Int32) (99 : Int32)) (fun r_9 h_10 => md_bd ((if (h_10 1 3) = 0 then md_ck (md_in (h_10 (md_dx (h_10 1 6)) 9) 10) (md_lt (md_up h_10 ((md_dx (h_10 1 6)) + 5) ((h_10 (md_dx (h_10 1 6)) 9)).toNatClampNeg r_1) (fun h_13 : Mm => md_ck (md_in (h_13 (md_dx (h_13 1 6)) 9) 10) (md_lt (md_up h_13 ((md_dx (h_13 1 6)) + 6) ((h_13 (md_dx (h_13 1 6)) 9)).toNatClampNeg r_3) (fun h_14 : Mm => md_ck (md_in (h_14 (md_dx (h_14 1 6)) 9) 10) (md_lt (md_up h_14 ((md_dx (h_14 1 6)) + 7) ((h_14 (md_dx (h_14 1 6)) 9)).toNatClampNeg r_9) (fun h_15 : Mm => md_lt (md_up h_15 (md_dx (h_15 1 6)) 9 ((h_15 (md_dx (h_15 1 6)) 9) + (1 : Int32))) (fun h_16 : Mm => some h_16))))))) else some h_10)) (fun (h_11 : Mm) => some h_11)))))
set_option maxRecDepth 100000 in
set_option maxHeartbeats 4000000 in
theorem ctX6_readTalk (K : Kx) (h : Mm) {a : Mm} (hF : fX6_readTalk h = some a) : Mt K yX6_readTalk cX6_readTalk 4 none 3 66 SHc [rf K 1] h none a := by
  refine Mt.of hF [(0, rf K 1)] (by decide) (Nat.le_of_ble_eq_true rfl) rfl (fun Y C N => ?_)
  have C : Cx K Y (0, 0) cX6_readTalk RX6 4 3 66 := C
  unfold fX6_readTalk
  refine mj_aload_n C 0 dX6_readTalk_0 (i := 0) rfl rfl ?_
  refine mj_vIM C my_X6_readToldIdea mv_X6_106 dX6_readTalk_1 sh_1 rfl (fun a hF => ctX6_readToldIdea K h   hF) (by decide) (by decide) rfl rfl (Nat.le_of_ble_eq_true rfl) (fun r_1 h_2 => ?_)
  refine mj_istore_n C [(1, .int r_1), (0, rf K 1)] dX6_readTalk_4 (i := 1) rfl (by decide) rfl ?_
  refine mj_aload_n C 1 dX6_readTalk_5 (i := 0) rfl rfl ?_
  refine mj_vIM C my_X6_readToldIdea mv_X6_106 dX6_readTalk_6 sh_1 rfl (fun a hF => ctX6_readToldIdea K h_2   hF) (by decide) (by decide) rfl rfl (Nat.le_of_ble_eq_true rfl) (fun r_3 h_4 => ?_)
  refine mj_istore_n C [(2, .int r_3), (1, .int r_1), (0, rf K 1)] dX6_readTalk_9 (i := 2) rfl (by decide) rfl ?_
  refine mj_iload_n C 1 dX6_readTalk_10 (i := 1) rfl rfl ?_
  refine mj_iload_n C 0 dX6_readTalk_11 (i := 2) rfl rfl ?_
  refine mj_phi1 45 (fun (h_5 : Mm) => [(0, rf K 1), (1, .int r_1), (2, .int r_3)]) (fun (h_5 : Mm) => []) (fun (h_5 : Mm) => h_5) (fun P' kj_6 => ?_) (fun h_5 => ?_)
  · refine mj_icmp_eq C 36 dX6_readTalk_12 (by decide) ?_ ?_
    · refine mj_aload_n C 2 dX6_readTalk_36 (i := 0) rfl rfl ?_
      refine mj_iconst C (v := 4) dX6_readTalk_37 rfl ?_
      refine mj_aload_n C 2 dX6_readTalk_38 (i := 0) rfl rfl ?_
      refine mj_getI C ff_X6_109 dX6_readTalk_39 sh_1 rfl ?_
      refine mj_vM C my_X6_findFault mv_X6_77 dX6_readTalk_42 sh_1 rfl (fun a hF => ctX6_findFault K h_4 (4 : Int32) (h_4 1 5)  hF) (by decide) (by decide) rfl rfl (Nat.le_of_ble_eq_true rfl) (fun h_7 => ?_)
      exact mj_sub [2, 1, 0] rfl (mj_some (kj_6 h_7))
    · refine mj_aload_n C 2 dX6_readTalk_15 (i := 0) rfl rfl ?_
      refine mj_getM C ff_X6_22 dX6_readTalk_16 sh_1 rfl ?_
      refine mj_getR C ff_X6_103 dX6_readTalk_19 (cn_o (cnt_dx (h_4 1 6))) rfl ?_
      refine mj_iload_n C 0 dX6_readTalk_22 (i := 2) rfl rfl ?_
      refine mj_iald C dX6_readTalk_23 (cn_4 (cnt_dx (h_4 1 6))) ?_
      refine mj_aload_n C 2 dX6_readTalk_24 (i := 0) rfl rfl ?_
      refine mj_getM C ff_X6_22 dX6_readTalk_25 sh_1 rfl ?_
      refine mj_getR C ff_X6_103 dX6_readTalk_28 (cn_o (cnt_dx (h_4 1 6))) rfl ?_
      refine mj_iload_n C 1 dX6_readTalk_31 (i := 1) rfl rfl ?_
      refine mj_iald C dX6_readTalk_32 (cn_4 (cnt_dx (h_4 1 6))) ?_
      refine mj_icmp_le C 45 dX6_readTalk_33 (by decide) ?_ ?_
      · exact mj_sub [2, 1, 0] rfl (mj_some (kj_6 h_4))
      · refine mj_aload_n C 2 dX6_readTalk_36 (i := 0) rfl rfl ?_
        refine mj_iconst C (v := 4) dX6_readTalk_37 rfl ?_
        refine mj_aload_n C 2 dX6_readTalk_38 (i := 0) rfl rfl ?_
        refine mj_getI C ff_X6_109 dX6_readTalk_39 sh_1 rfl ?_
        refine mj_vM C my_X6_findFault mv_X6_77 dX6_readTalk_42 sh_1 rfl (fun a hF => ctX6_findFault K h_4 (4 : Int32) (h_4 1 5)  hF) (by decide) (by decide) rfl rfl (Nat.le_of_ble_eq_true rfl) (fun h_8 => ?_)
        exact mj_sub [2, 1, 0] rfl (mj_some (kj_6 h_8))
  · refine mj_aload_n C 0 dX6_readTalk_45 (i := 0) rfl rfl ?_
    refine mj_iconst C (v := 1) dX6_readTalk_46 rfl ?_
    refine mj_bipush C (v := 99) dX6_readTalk_47 rfl ?_
    refine mj_vIM C my_X6_readNumber mv_X6_93 dX6_readTalk_49 sh_1 rfl (fun a hF => ctX6_readNumber K h_5 (1 : Int32) (99 : Int32)  hF) (by decide) (by decide) rfl rfl (Nat.le_of_ble_eq_true rfl) (fun r_9 h_10 => ?_)
    refine mj_istore_n C [(3, .int r_9), (0, rf K 1), (1, .int r_1), (2, .int r_3)] dX6_readTalk_52 (i := 3) rfl (by decide) rfl ?_
    refine mj_aload_n C 1 dX6_readTalk_53 (i := 0) rfl rfl ?_
    refine mj_getI C ff_X6_35 dX6_readTalk_54 sh_1 rfl ?_
    refine mj_phi1 121 (fun (h_11 : Mm) => []) (fun (h_11 : Mm) => []) (fun (h_11 : Mm) => h_11) (fun P' kj_12 => ?_) (fun h_11 => ?_)
    · refine mj_if_ne C 121 dX6_readTalk_57 (by decide) ?_ ?_
      · exact mj_sub [] rfl (mj_some (kj_12 h_10))
      · refine mj_aload_n C 1 dX6_readTalk_60 (i := 0) rfl rfl ?_
        refine mj_getM C ff_X6_22 dX6_readTalk_61 sh_1 rfl ?_
        refine mj_getR C ff_X6_121 dX6_readTalk_64 (cn_o (cnt_dx (h_10 1 6))) rfl ?_
        refine mj_aload_n C 1 dX6_readTalk_67 (i := 0) rfl rfl ?_
        refine mj_getM C ff_X6_22 dX6_readTalk_68 sh_1 rfl ?_
        refine mj_getI C ff_X6_87 dX6_readTalk_71 (cn_o (cnt_dx (h_10 1 6))) rfl ?_
        refine mj_iload_n C 2 dX6_readTalk_74 (i := 1) rfl rfl ?_
        refine mj_iast C dX6_readTalk_75 (cn_10 (cnt_dx (h_10 1 6))) (fun h_13 => ?_)
        refine mj_aload_n C 1 dX6_readTalk_76 (i := 0) rfl rfl ?_
        refine mj_getM C ff_X6_22 dX6_readTalk_77 sh_1 rfl ?_
        refine mj_getR C ff_X6_124 dX6_readTalk_80 (cn_o (cnt_dx (h_13 1 6))) rfl ?_
        refine mj_aload_n C 1 dX6_readTalk_83 (i := 0) rfl rfl ?_
        refine mj_getM C ff_X6_22 dX6_readTalk_84 sh_1 rfl ?_
        refine mj_getI C ff_X6_87 dX6_readTalk_87 (cn_o (cnt_dx (h_13 1 6))) rfl ?_
        refine mj_iload_n C 3 dX6_readTalk_90 (i := 2) rfl rfl ?_
        refine mj_iast C dX6_readTalk_91 (cn_11 (cnt_dx (h_13 1 6))) (fun h_14 => ?_)
        refine mj_aload_n C 1 dX6_readTalk_92 (i := 0) rfl rfl ?_
        refine mj_getM C ff_X6_22 dX6_readTalk_93 sh_1 rfl ?_
        refine mj_getR C ff_X6_127 dX6_readTalk_96 (cn_o (cnt_dx (h_14 1 6))) rfl ?_
        refine mj_aload_n C 1 dX6_readTalk_99 (i := 0) rfl rfl ?_
        refine mj_getM C ff_X6_22 dX6_readTalk_100 sh_1 rfl ?_
        refine mj_getI C ff_X6_87 dX6_readTalk_103 (cn_o (cnt_dx (h_14 1 6))) rfl ?_
        refine mj_iload_n C 0 dX6_readTalk_106 (i := 3) rfl rfl ?_
        refine mj_iast C dX6_readTalk_107 (cn_12 (cnt_dx (h_14 1 6))) (fun h_15 => ?_)
        refine mj_aload_n C 1 dX6_readTalk_108 (i := 0) rfl rfl ?_
        refine mj_getM C ff_X6_22 dX6_readTalk_109 sh_1 rfl ?_
        refine mj_dup C dX6_readTalk_112 rfl ?_
        refine mj_getI C ff_X6_87 dX6_readTalk_113 (cn_o (cnt_dx (h_15 1 6))) rfl ?_
        refine mj_iconst C (v := 1) dX6_readTalk_116 rfl ?_
        refine mj_iadd C dX6_readTalk_117 ?_
        refine mj_putL C fp_X6_87 dX6_readTalk_118 (cn_o (cnt_dx (h_15 1 6))) rfl rfl rfl (fun h_16 => ?_)
        exact mj_sub [] rfl (mj_some (kj_12 h_16))
    · exact mj_rV C N dX6_readTalk_121
noncomputable def fX6_readRegistered (h : Mm) : Option (Mm) := md_b2 (fX6_readToldIdea h) (fun r_1 h_2 => md_bd ((if ((h_2 (md_dx (h_2 1 6)) 13) &&& ((1 : Int32) <<< (r_1 &&& 31))) = 0 then some h_2 else md_bd (fX6_findFault h_2 (4 : Int32) (h_2 1 5)) (fun h_5 => some h_5))) (fun (h_3 : Mm) => md_bd ((if (h_3 1 3) = 0 then md_lt (md_up h_3 (md_dx (h_3 1 6)) 13 ((h_3 (md_dx (h_3 1 6)) 13) ||| ((1 : Int32) <<< (r_1 &&& 31)))) (fun h_8 : Mm => some h_8) else some h_3)) (fun (h_6 : Mm) => some h_6)))
set_option maxRecDepth 100000 in
set_option maxHeartbeats 4000000 in
theorem ctX6_readRegistered (K : Kx) (h : Mm) {a : Mm} (hF : fX6_readRegistered h = some a) : Mt K yX6_readRegistered cX6_readRegistered 2 none 3 66 SHc [rf K 1] h none a := by
  refine Mt.of hF [(0, rf K 1)] (by decide) (Nat.le_of_ble_eq_true rfl) rfl (fun Y C N => ?_)
  have C : Cx K Y (0, 0) cX6_readRegistered RX6 2 3 66 := C
  unfold fX6_readRegistered
  refine mj_aload_n C 0 dX6_readRegistered_0 (i := 0) rfl rfl ?_
  refine mj_vIM C my_X6_readToldIdea mv_X6_106 dX6_readRegistered_1 sh_1 rfl (fun a hF => ctX6_readToldIdea K h   hF) (by decide) (by decide) rfl rfl (Nat.le_of_ble_eq_true rfl) (fun r_1 h_2 => ?_)
  refine mj_istore_n C [(1, .int r_1), (0, rf K 1)] dX6_readRegistered_4 (i := 1) rfl (by decide) rfl ?_
  refine mj_aload_n C 1 dX6_readRegistered_5 (i := 0) rfl rfl ?_
  refine mj_getM C ff_X6_22 dX6_readRegistered_6 sh_1 rfl ?_
  refine mj_getI C ff_X6_130 dX6_readRegistered_9 (cn_o (cnt_dx (h_2 1 6))) rfl ?_
  refine mj_iconst C (v := 1) dX6_readRegistered_12 rfl ?_
  refine mj_iload_n C 0 dX6_readRegistered_13 (i := 1) rfl rfl ?_
  refine mj_ishl C dX6_readRegistered_14 ?_
  refine mj_iand C dX6_readRegistered_15 ?_
  refine mj_phi1 28 (fun (h_3 : Mm) => [(0, rf K 1), (1, .int r_1)]) (fun (h_3 : Mm) => []) (fun (h_3 : Mm) => h_3) (fun P' kj_4 => ?_) (fun h_3 => ?_)
  · refine mj_if_eq C 28 dX6_readRegistered_16 (by decide) ?_ ?_
    · exact mj_sub [1, 0] rfl (mj_some (kj_4 h_2))
    · refine mj_aload_n C 1 dX6_readRegistered_19 (i := 0) rfl rfl ?_
      refine mj_iconst C (v := 4) dX6_readRegistered_20 rfl ?_
      refine mj_aload_n C 1 dX6_readRegistered_21 (i := 0) rfl rfl ?_
      refine mj_getI C ff_X6_109 dX6_readRegistered_22 sh_1 rfl ?_
      refine mj_vM C my_X6_findFault mv_X6_77 dX6_readRegistered_25 sh_1 rfl (fun a hF => ctX6_findFault K h_2 (4 : Int32) (h_2 1 5)  hF) (by decide) (by decide) rfl rfl (Nat.le_of_ble_eq_true rfl) (fun h_5 => ?_)
      exact mj_sub [1, 0] rfl (mj_some (kj_4 h_5))
  · refine mj_aload_n C 0 dX6_readRegistered_28 (i := 0) rfl rfl ?_
    refine mj_getI C ff_X6_35 dX6_readRegistered_29 sh_1 rfl ?_
    refine mj_phi1 50 (fun (h_6 : Mm) => []) (fun (h_6 : Mm) => []) (fun (h_6 : Mm) => h_6) (fun P' kj_7 => ?_) (fun h_6 => ?_)
    · refine mj_if_ne C 50 dX6_readRegistered_32 (by decide) ?_ ?_
      · exact mj_sub [] rfl (mj_some (kj_7 h_3))
      · refine mj_aload_n C 0 dX6_readRegistered_35 (i := 0) rfl rfl ?_
        refine mj_getM C ff_X6_22 dX6_readRegistered_36 sh_1 rfl ?_
        refine mj_dup C dX6_readRegistered_39 rfl ?_
        refine mj_getI C ff_X6_130 dX6_readRegistered_40 (cn_o (cnt_dx (h_3 1 6))) rfl ?_
        refine mj_iconst C (v := 1) dX6_readRegistered_43 rfl ?_
        refine mj_iload_n C 1 dX6_readRegistered_44 (i := 1) rfl rfl ?_
        refine mj_ishl C dX6_readRegistered_45 ?_
        refine mj_ior C dX6_readRegistered_46 ?_
        refine mj_putL C fp_X6_130 dX6_readRegistered_47 (cn_o (cnt_dx (h_3 1 6))) rfl rfl rfl (fun h_8 => ?_)
        exact mj_sub [] rfl (mj_some (kj_7 h_8))
    · exact mj_rV C N dX6_readRegistered_50
noncomputable def fX6_readTraveller (h : Mm) : Option (Mm) := md_b2 (fX6_readNumber h (0 : Int32) (((1 : Int32) <<< ((h (md_dx (h 1 6)) 3) &&& 31)) - (1 : Int32))) (fun r_1 h_2 => md_bd ((if (h_2 1 3) = 0 then md_ck (md_in (h_2 (md_dx (h_2 1 6)) 14) 5) (md_lt (md_up h_2 ((md_dx (h_2 1 6)) + 8) ((h_2 (md_dx (h_2 1 6)) 14)).toNatClampNeg r_1) (fun h_5 : Mm => md_lt (md_up h_5 (md_dx (h_5 1 6)) 14 ((h_5 (md_dx (h_5 1 6)) 14) + (1 : Int32))) (fun h_6 : Mm => some h_6))) else some h_2)) (fun (h_3 : Mm) => some h_3))
set_option maxRecDepth 100000 in
set_option maxHeartbeats 4000000 in
theorem ctX6_readTraveller (K : Kx) (h : Mm) {a : Mm} (hF : fX6_readTraveller h = some a) : Mt K yX6_readTraveller cX6_readTraveller 2 none 2 46 SHc [rf K 1] h none a := by
  refine Mt.of hF [(0, rf K 1)] (by decide) (Nat.le_of_ble_eq_true rfl) rfl (fun Y C N => ?_)
  have C : Cx K Y (0, 0) cX6_readTraveller RX6 2 2 46 := C
  unfold fX6_readTraveller
  refine mj_aload_n C 0 dX6_readTraveller_0 (i := 0) rfl rfl ?_
  refine mj_iconst C (v := 0) dX6_readTraveller_1 rfl ?_
  refine mj_iconst C (v := 1) dX6_readTraveller_2 rfl ?_
  refine mj_aload_n C 0 dX6_readTraveller_3 (i := 0) rfl rfl ?_
  refine mj_getM C ff_X6_22 dX6_readTraveller_4 sh_1 rfl ?_
  refine mj_getI C ff_X6_81 dX6_readTraveller_7 (cn_o (cnt_dx (h 1 6))) rfl ?_
  refine mj_ishl C dX6_readTraveller_10 ?_
  refine mj_iconst C (v := 1) dX6_readTraveller_11 rfl ?_
  refine mj_isub C dX6_readTraveller_12 ?_
  refine mj_vIM C my_X6_readNumber mv_X6_93 dX6_readTraveller_13 sh_1 rfl (fun a hF => ctX6_readNumber K h (0 : Int32) (((1 : Int32) <<< ((h (md_dx (h 1 6)) 3) &&& 31)) - (1 : Int32))  hF) (by decide) (by decide) rfl rfl (Nat.le_of_ble_eq_true rfl) (fun r_1 h_2 => ?_)
  refine mj_istore_n C [(1, .int r_1), (0, rf K 1)] dX6_readTraveller_16 (i := 1) rfl (by decide) rfl ?_
  refine mj_aload_n C 1 dX6_readTraveller_17 (i := 0) rfl rfl ?_
  refine mj_getI C ff_X6_35 dX6_readTraveller_18 sh_1 rfl ?_
  refine mj_phi1 53 (fun (h_3 : Mm) => []) (fun (h_3 : Mm) => []) (fun (h_3 : Mm) => h_3) (fun P' kj_4 => ?_) (fun h_3 => ?_)
  · refine mj_if_ne C 53 dX6_readTraveller_21 (by decide) ?_ ?_
    · exact mj_sub [] rfl (mj_some (kj_4 h_2))
    · refine mj_aload_n C 1 dX6_readTraveller_24 (i := 0) rfl rfl ?_
      refine mj_getM C ff_X6_22 dX6_readTraveller_25 sh_1 rfl ?_
      refine mj_getR C ff_X6_133 dX6_readTraveller_28 (cn_o (cnt_dx (h_2 1 6))) rfl ?_
      refine mj_aload_n C 1 dX6_readTraveller_31 (i := 0) rfl rfl ?_
      refine mj_getM C ff_X6_22 dX6_readTraveller_32 sh_1 rfl ?_
      refine mj_getI C ff_X6_90 dX6_readTraveller_35 (cn_o (cnt_dx (h_2 1 6))) rfl ?_
      refine mj_iload_n C 0 dX6_readTraveller_38 (i := 1) rfl rfl ?_
      refine mj_iast C dX6_readTraveller_39 (cn_15 (cnt_dx (h_2 1 6))) (fun h_5 => ?_)
      refine mj_aload_n C 1 dX6_readTraveller_40 (i := 0) rfl rfl ?_
      refine mj_getM C ff_X6_22 dX6_readTraveller_41 sh_1 rfl ?_
      refine mj_dup C dX6_readTraveller_44 rfl ?_
      refine mj_getI C ff_X6_90 dX6_readTraveller_45 (cn_o (cnt_dx (h_5 1 6))) rfl ?_
      refine mj_iconst C (v := 1) dX6_readTraveller_48 rfl ?_
      refine mj_iadd C dX6_readTraveller_49 ?_
      refine mj_putL C fp_X6_90 dX6_readTraveller_50 (cn_o (cnt_dx (h_5 1 6))) rfl rfl rfl (fun h_6 => ?_)
      exact mj_sub [] rfl (mj_some (kj_4 h_6))
  · exact mj_rV C N dX6_readTraveller_53
noncomputable def fX6_readEnd (h : Mm) : Option (Mm) := md_bd (fX6_skipBlanks h) (fun h_1 => md_bd (fX6_letterHere h_1) (fun r_2 => md_bd ((if r_2 = (59 : Int32) then md_lt (md_up h_1 1 4 ((h_1 1 4) + (1 : Int32))) (fun h_6 : Mm => some h_6) else md_bd (fX6_findFault h_1 (1 : Int32) (h_1 1 4)) (fun h_5 => some h_5))) (fun (h_3 : Mm) => some h_3)))
set_option maxRecDepth 100000 in
set_option maxHeartbeats 4000000 in
theorem ctX6_readEnd (K : Kx) (h : Mm) {a : Mm} (hF : fX6_readEnd h = some a) : Mt K yX6_readEnd cX6_readEnd 1 none 1 22 SHc [rf K 1] h none a := by
  refine Mt.of hF [(0, rf K 1)] (by decide) (Nat.le_of_ble_eq_true rfl) rfl (fun Y C N => ?_)
  have C : Cx K Y (0, 0) cX6_readEnd RX6 1 1 22 := C
  unfold fX6_readEnd
  refine mj_aload_n C 0 dX6_readEnd_0 (i := 0) rfl rfl ?_
  refine mj_vM C my_X6_skipBlanks mv_X6_38 dX6_readEnd_1 sh_1 rfl (fun a hF => ctX6_skipBlanks K h   hF) (by decide) (by decide) rfl rfl (Nat.le_of_ble_eq_true rfl) (fun h_1 => ?_)
  refine mj_aload_n C 0 dX6_readEnd_4 (i := 0) rfl rfl ?_
  refine mj_vI C my_X6_letterHere mv_X6_44 dX6_readEnd_5 sh_1 rfl (fun a hF => ctX6_letterHere K h_1   hF) (by decide) (by decide) rfl rfl (Nat.le_of_ble_eq_true rfl) (fun r_2 => ?_)
  refine mj_bipush C (v := 59) dX6_readEnd_8 rfl ?_
  refine mj_phi1 35 (fun (h_3 : Mm) => []) (fun (h_3 : Mm) => []) (fun (h_3 : Mm) => h_3) (fun P' kj_4 => ?_) (fun h_3 => ?_)
  · refine mj_icmp_ne C 26 dX6_readEnd_10 (by decide) ?_ ?_
    · refine mj_aload_n C 0 dX6_readEnd_26 (i := 0) rfl rfl ?_
      refine mj_iconst C (v := 1) dX6_readEnd_27 rfl ?_
      refine mj_aload_n C 0 dX6_readEnd_28 (i := 0) rfl rfl ?_
      refine mj_getI C ff_X6_32 dX6_readEnd_29 sh_1 rfl ?_
      refine mj_vM C my_X6_findFault mv_X6_77 dX6_readEnd_32 sh_1 rfl (fun a hF => ctX6_findFault K h_1 (1 : Int32) (h_1 1 4)  hF) (by decide) (by decide) rfl rfl (Nat.le_of_ble_eq_true rfl) (fun h_5 => ?_)
      exact mj_sub [] rfl (mj_some (kj_4 h_5))
    · refine mj_aload_n C 0 dX6_readEnd_13 (i := 0) rfl rfl ?_
      refine mj_dup C dX6_readEnd_14 rfl ?_
      refine mj_getI C ff_X6_32 dX6_readEnd_15 sh_1 rfl ?_
      refine mj_iconst C (v := 1) dX6_readEnd_18 rfl ?_
      refine mj_iadd C dX6_readEnd_19 ?_
      refine mj_putL C fp_X6_32 dX6_readEnd_20 sh_1 rfl rfl rfl (fun h_6 => ?_)
      refine mj_goto C 35 dX6_readEnd_23 (by decide) ?_
      exact mj_sub [] rfl (mj_some (kj_4 h_6))
  · exact mj_rV C N dX6_readEnd_35
noncomputable def fX6_readClause (h : Mm) : Option (Mm) := md_bd (fX6_letterHere h) (fun r_1 => md_bd (fX6_checkWord h r_1) (fun h_2 => (if (h_2 1 3) = 0 then md_lt (md_up h_2 1 4 ((h_2 1 4) + (1 : Int32))) (fun h_3 : Mm => md_bd ((if r_1 = 100 then md_bd (fX6_readTalk h_3) (fun h_6 => some h_6) else if r_1 = 103 then md_bd (fX6_readGate h_3) (fun h_7 => some h_7) else if r_1 = 105 then md_bd (fX6_readIdea h_3) (fun h_8 => some h_8) else if r_1 = 106 then md_bd (fX6_readJoining h_3) (fun h_9 => some h_9) else if r_1 = 114 then md_bd (fX6_readRegistered h_3) (fun h_10 => some h_10) else md_bd (fX6_readTraveller h_3) (fun h_11 => some h_11))) (fun (h_4 : Mm) => md_bd (fX6_readEnd h_4) (fun h_12 => some h_12))) else some h_2)))
set_option maxRecDepth 100000 in
set_option maxHeartbeats 4000000 in
theorem ctX6_readClause (K : Kx) (h : Mm) {a : Mm} (hF : fX6_readClause h = some a) : Mt K yX6_readClause cX6_readClause 2 none 4 89 SHc [rf K 1] h none a := by
  refine Mt.of hF [(0, rf K 1)] (by decide) (Nat.le_of_ble_eq_true rfl) rfl (fun Y C N => ?_)
  have C : Cx K Y (0, 0) cX6_readClause RX6 2 4 89 := C
  unfold fX6_readClause
  refine mj_aload_n C 0 dX6_readClause_0 (i := 0) rfl rfl ?_
  refine mj_vI C my_X6_letterHere mv_X6_44 dX6_readClause_1 sh_1 rfl (fun a hF => ctX6_letterHere K h   hF) (by decide) (by decide) rfl rfl (Nat.le_of_ble_eq_true rfl) (fun r_1 => ?_)
  refine mj_istore_n C [(1, .int r_1), (0, rf K 1)] dX6_readClause_4 (i := 1) rfl (by decide) rfl ?_
  refine mj_aload_n C 1 dX6_readClause_5 (i := 0) rfl rfl ?_
  refine mj_iload_n C 0 dX6_readClause_6 (i := 1) rfl rfl ?_
  refine mj_vM C my_X6_checkWord mv_X6_48 dX6_readClause_7 sh_1 rfl (fun a hF => ctX6_checkWord K h r_1  hF) (by decide) (by decide) rfl rfl (Nat.le_of_ble_eq_true rfl) (fun h_2 => ?_)
  refine mj_aload_n C 1 dX6_readClause_10 (i := 0) rfl rfl ?_
  refine mj_getI C ff_X6_35 dX6_readClause_11 sh_1 rfl ?_
  refine mj_if_eq C 18 dX6_readClause_14 (by decide) ?_ ?_
  · refine mj_aload_n C 1 dX6_readClause_18 (i := 0) rfl rfl ?_
    refine mj_dup C dX6_readClause_19 rfl ?_
    refine mj_getI C ff_X6_32 dX6_readClause_20 sh_1 rfl ?_
    refine mj_iconst C (v := 1) dX6_readClause_23 rfl ?_
    refine mj_iadd C dX6_readClause_24 ?_
    refine mj_putL C fp_X6_32 dX6_readClause_25 sh_1 rfl rfl rfl (fun h_3 => ?_)
    refine mj_iload_n C 0 dX6_readClause_28 (i := 1) rfl rfl ?_
    refine mj_phi1 143 (fun (h_4 : Mm) => [(0, rf K 1)]) (fun (h_4 : Mm) => []) (fun (h_4 : Mm) => h_4) (fun P' kj_5 => ?_) (fun h_4 => ?_)
    · refine mj_sw0 ?_
      refine mj_tcase C 100 125 dX6_readClause_29 (by decide) (by decide) rfl (by decide) ?_ ?_
      · refine mj_aload_n C 1 dX6_readClause_125 (i := 0) rfl rfl ?_
        refine mj_vM C my_X6_readTalk mv_X6_61 dX6_readClause_126 sh_1 rfl (fun a hF => ctX6_readTalk K h_3   hF) (by decide) (by decide) rfl rfl (Nat.le_of_ble_eq_true rfl) (fun h_6 => ?_)
        refine mj_goto C 143 dX6_readClause_129 (by decide) ?_
        exact mj_sub [1] rfl (mj_some (kj_5 h_6))
      refine mj_tcase C 103 104 dX6_readClause_29 (by decide) (by decide) rfl (by decide) ?_ ?_
      · refine mj_aload_n C 1 dX6_readClause_104 (i := 0) rfl rfl ?_
        refine mj_vM C my_X6_readGate mv_X6_52 dX6_readClause_105 sh_1 rfl (fun a hF => ctX6_readGate K h_3   hF) (by decide) (by decide) rfl rfl (Nat.le_of_ble_eq_true rfl) (fun h_7 => ?_)
        refine mj_goto C 143 dX6_readClause_108 (by decide) ?_
        exact mj_sub [1] rfl (mj_some (kj_5 h_7))
      refine mj_tcase C 105 111 dX6_readClause_29 (by decide) (by decide) rfl (by decide) ?_ ?_
      · refine mj_aload_n C 1 dX6_readClause_111 (i := 0) rfl rfl ?_
        refine mj_vM C my_X6_readIdea mv_X6_55 dX6_readClause_112 sh_1 rfl (fun a hF => ctX6_readIdea K h_3   hF) (by decide) (by decide) rfl rfl (Nat.le_of_ble_eq_true rfl) (fun h_8 => ?_)
        refine mj_goto C 143 dX6_readClause_115 (by decide) ?_
        exact mj_sub [1] rfl (mj_some (kj_5 h_8))
      refine mj_tcase C 106 118 dX6_readClause_29 (by decide) (by decide) rfl (by decide) ?_ ?_
      · refine mj_aload_n C 1 dX6_readClause_118 (i := 0) rfl rfl ?_
        refine mj_vM C my_X6_readJoining mv_X6_58 dX6_readClause_119 sh_1 rfl (fun a hF => ctX6_readJoining K h_3   hF) (by decide) (by decide) rfl rfl (Nat.le_of_ble_eq_true rfl) (fun h_9 => ?_)
        refine mj_goto C 143 dX6_readClause_122 (by decide) ?_
        exact mj_sub [1] rfl (mj_some (kj_5 h_9))
      refine mj_tcase C 114 132 dX6_readClause_29 (by decide) (by decide) rfl (by decide) ?_ ?_
      · refine mj_aload_n C 1 dX6_readClause_132 (i := 0) rfl rfl ?_
        refine mj_vM C my_X6_readRegistered mv_X6_64 dX6_readClause_133 sh_1 rfl (fun a hF => ctX6_readRegistered K h_3   hF) (by decide) (by decide) rfl rfl (Nat.le_of_ble_eq_true rfl) (fun h_10 => ?_)
        refine mj_goto C 143 dX6_readClause_136 (by decide) ?_
        exact mj_sub [1] rfl (mj_some (kj_5 h_10))
      refine mj_tdflt2 C 139 15 dX6_readClause_29 (by decide) (by decide) (by decide) ?_
      refine mj_aload_n C 1 dX6_readClause_139 (i := 0) rfl rfl ?_
      refine mj_vM C my_X6_readTraveller mv_X6_67 dX6_readClause_140 sh_1 rfl (fun a hF => ctX6_readTraveller K h_3   hF) (by decide) (by decide) rfl rfl (Nat.le_of_ble_eq_true rfl) (fun h_11 => ?_)
      exact mj_sub [1] rfl (mj_some (kj_5 h_11))
    · refine mj_aload_n C 0 dX6_readClause_143 (i := 0) rfl rfl ?_
      refine mj_vM C my_X6_readEnd mv_X6_70 dX6_readClause_144 sh_1 rfl (fun a hF => ctX6_readEnd K h_4   hF) (by decide) (by decide) rfl rfl (Nat.le_of_ble_eq_true rfl) (fun h_12 => ?_)
      exact mj_rV C N dX6_readClause_147
  · exact mj_rV C N dX6_readClause_17
noncomputable def fX6_read_24 : Nat → Mm → Int32 → Option (Mm)
  | 0, _, _ => none
  | n + 1, h, l1 => (if (240 : Int32) < l1 then some h else md_bd (fX6_skipBlanks h) (fun h_5 => (if (h_5 1 1) ≤ (h_5 1 4) then some h_5 else (if (h_5 1 3) = 0 then md_bd (fX6_readClause h_5) (fun h_6 => fX6_read_24 n h_6 (l1 + 1)) else some h_5))))
set_option maxRecDepth 100000 in
set_option maxHeartbeats 4000000 in
theorem lX6_read_24 {K : Kx} {Y : Yx} {cs : Nat × Nat} (C : Cx K Y cs cX6_read RX6 2 5 110) {P : Mm → Prop} : ∀ (n : Nat) (h : Mm) (l1 : Int32), (∀ (hw : Mm), J SHc K Y cs (P hw) 66 [(0, rf K 1)] [] hw) → J SHc K Y cs (mj_O (fX6_read_24 n h l1) P) 24 [(0, rf K 1), (1, .int l1)] [] h := by
  intro n
  induction n with
  | zero => intro h l1 kk0; exact mj_none
  | succ n ih =>
    intro h l1 kk0
    rw [fX6_read_24]
    refine mj_iload_n C 1 dX6_read_24 (i := 1) rfl rfl ?_
    refine mj_sipush C (v := 240) dX6_read_25 rfl ?_
    refine mj_icmp_gt C 66 dX6_read_28 (by decide) ?_ ?_
    · exact mj_sub [0] rfl (mj_some (kk0 h))
    · refine mj_aload_n C 0 dX6_read_31 (i := 0) rfl rfl ?_
      refine mj_vM C my_X6_skipBlanks mv_X6_38 dX6_read_32 sh_1 rfl (fun a hF => ctX6_skipBlanks K h   hF) (by decide) (by decide) rfl rfl (Nat.le_of_ble_eq_true rfl) (fun h_5 => ?_)
      refine mj_aload_n C 0 dX6_read_35 (i := 0) rfl rfl ?_
      refine mj_getI C ff_X6_32 dX6_read_36 sh_1 rfl ?_
      refine mj_aload_n C 0 dX6_read_39 (i := 0) rfl rfl ?_
      refine mj_getI C ff_X6_26 dX6_read_40 sh_1 rfl ?_
      refine mj_icmp_ge C 66 dX6_read_43 (by decide) ?_ ?_
      · exact mj_sub [0] rfl (mj_some (kk0 h_5))
      · refine mj_aload_n C 0 dX6_read_46 (i := 0) rfl rfl ?_
        refine mj_getI C ff_X6_35 dX6_read_47 sh_1 rfl ?_
        refine mj_if_eq C 56 dX6_read_50 (by decide) ?_ ?_
        · refine mj_aload_n C 0 dX6_read_56 (i := 0) rfl rfl ?_
          refine mj_vM C my_X6_readClause mv_X6_41 dX6_read_57 sh_1 rfl (fun a hF => ctX6_readClause K h_5   hF) (by decide) (by decide) rfl rfl (Nat.le_of_ble_eq_true rfl) (fun h_6 => ?_)
          refine mj_iinc C (l1 + 1) 1 [(1, .int (l1 + 1)), (0, rf K 1)] dX6_read_60 rfl rfl (by decide) rfl ?_
          refine mj_goto C 24 dX6_read_63 (by decide) ?_
          exact mj_sub [1, 0] rfl (ih h_6 (l1 + 1) kk0)
        · refine mj_goto C 66 dX6_read_53 (by decide) ?_
          exact mj_sub [0] rfl (mj_some (kk0 h_5))
noncomputable def fX6_read (h : Mm) : Option (Bool × Mm) := md_bd (fX1_clear h (md_dx (h 1 6))) (fun h_1 => md_lt (md_up h_1 1 4 (0 : Int32)) (fun h_2 : Mm => md_lt (md_up h_2 1 3 (0 : Int32)) (fun h_3 : Mm => md_lt (md_up h_3 1 2 (-1 : Int32)) (fun h_4 : Mm => md_bd (fX6_read_24 md_N h_4 (0 : Int32)) (fun (h_7 : Mm) => md_bd ((if (h_7 1 3) = 0 then some true else some false)) (fun (v_8 : Bool) => some (v_8, h_7)))))))
set_option maxRecDepth 100000 in
set_option maxHeartbeats 4000000 in
theorem ctX6_read (K : Kx) (h : Mm) {a : Bool × Mm} (hF : fX6_read h = some a) : Mt K yX6_read cX6_read 2 (some .boolean) 5 110 SHc [rf K 1] h (some (.int (md_bi a.1))) a.2 := by
  refine Mt.of hF [(0, rf K 1)] (by decide) (Nat.le_of_ble_eq_true rfl) rfl (fun Y C N => ?_)
  have C : Cx K Y (0, 0) cX6_read RX6 2 5 110 := C
  unfold fX6_read
  refine mj_aload_n C 0 dX6_read_0 (i := 0) rfl rfl ?_
  refine mj_getM C ff_X6_22 dX6_read_1 sh_1 rfl ?_
  refine mj_vM C my_X1_clear mv_X6_29 dX6_read_4 (cn_o (cnt_dx (h 1 6))) rfl (fun a hF => ctX1_clear K h (md_dx (h 1 6)) (cnt_dx (h 1 6)) hF) (by decide) (by decide) rfl rfl (Nat.le_of_ble_eq_true rfl) (fun h_1 => ?_)
  refine mj_aload_n C 0 dX6_read_7 (i := 0) rfl rfl ?_
  refine mj_iconst C (v := 0) dX6_read_8 rfl ?_
  refine mj_putL C fp_X6_32 dX6_read_9 sh_1 rfl rfl rfl (fun h_2 => ?_)
  refine mj_aload_n C 0 dX6_read_12 (i := 0) rfl rfl ?_
  refine mj_iconst C (v := 0) dX6_read_13 rfl ?_
  refine mj_putL C fp_X6_35 dX6_read_14 sh_1 rfl rfl rfl (fun h_3 => ?_)
  refine mj_aload_n C 0 dX6_read_17 (i := 0) rfl rfl ?_
  refine mj_iconst C (v := -1) dX6_read_18 rfl ?_
  refine mj_putL C fp_X6_15 dX6_read_19 sh_1 rfl rfl rfl (fun h_4 => ?_)
  refine mj_iconst C (v := 0) dX6_read_22 rfl ?_
  refine mj_istore_n C [(1, .int (0 : Int32)), (0, rf K 1)] dX6_read_23 (i := 1) rfl (by decide) rfl ?_
  refine mj_phi1 66 (fun (h_7 : Mm) => [(0, rf K 1)]) (fun (h_7 : Mm) => []) (fun (h_7 : Mm) => h_7) (fun P' kj_10 => mj_sub [1, 0] rfl (lX6_read_24 C md_N h_4 (0 : Int32) kj_10)) (fun h_7 => ?_)
  refine mj_aload_n C 0 dX6_read_66 (i := 0) rfl rfl ?_
  refine mj_getI C ff_X6_35 dX6_read_67 sh_1 rfl ?_
  refine mj_phi1 78 (fun (v_8 : Bool) => []) (fun (v_8 : Bool) => [.int (md_bi v_8)]) (fun (v_8 : Bool) => h_7) (fun P' kj_9 => ?_) (fun v_8 => ?_)
  · refine mj_if_ne C 77 dX6_read_70 (by decide) ?_ ?_
    · refine mj_iconst C (v := 0) dX6_read_77 rfl ?_
      exact mj_sub [] rfl (mj_some (kj_9 false))
    · refine mj_iconst C (v := 1) dX6_read_73 rfl ?_
      refine mj_goto C 78 dX6_read_74 (by decide) ?_
      exact mj_sub [] rfl (mj_some (kj_9 true))
  · exact mj_rZM C N dX6_read_78
