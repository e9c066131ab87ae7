noncomputable def fL_law_18 : Nat → Mm → (Nat → Int32) → Nat → Int32 → Option (Mm)
  | 0, _, _, _, _ => none
  | n + 1, h, xs, L, l3 => (if ((nI L) - (4 : Int32)) < l3 then some h else md_ck (md_in l3 L) ((if ((xs (l3).toNatClampNeg) &&& (63 : Int32)) = 0 then md_ck (md_in (l3 + (1 : Int32)) L) (md_b2 (fX7_feed h (xs ((l3 + (1 : Int32))).toNatClampNeg)) (fun r_1 h_2 => md_ck (md_in (l3 + (1 : Int32)) L) (md_b2 (fX8_feed h_2 (xs ((l3 + (1 : Int32))).toNatClampNeg)) (fun r_3 h_4 => (if r_1 = r_3 then fL_law_18 n h_4 xs L (l3 + 4) else none))))) else if ((xs (l3).toNatClampNeg) &&& (63 : Int32)) = 1 then md_b2 (fX7_thePass h) (fun r_5 h_6 => md_b2 (fX8_thePass h_6) (fun r_7 h_8 => (if r_5 = r_7 then fL_law_18 n h_8 xs L (l3 + 4) else none))) else if ((xs (l3).toNatClampNeg) &&& (63 : Int32)) = 2 then md_bd (fX7_fault h) (fun r_9 => md_bd (fX8_fault h) (fun r_10 => (if r_9 = r_10 then fL_law_18 n h xs L (l3 + 4) else none))) else if ((xs (l3).toNatClampNeg) &&& (63 : Int32)) = 3 then md_ck (md_in (l3 + (1 : Int32)) L) (md_bd (fX7_told h (xs ((l3 + (1 : Int32))).toNatClampNeg)) (fun r_11 => md_ck (md_in (l3 + (1 : Int32)) L) (md_bd (fX8_told h (xs ((l3 + (1 : Int32))).toNatClampNeg)) (fun r_12 => (if r_11 = r_12 then fL_law_18 n h xs L (l3 + 4) else none))))) else if ((xs (l3).toNatClampNeg) &&& (63 : Int32)) = 4 then md_ck (md_in (l3 + (1 : Int32)) L) (md_bd (fX7_size h (xs ((l3 + (1 : Int32))).toNatClampNeg)) (fun r_13 => md_ck (md_in (l3 + (1 : Int32)) L) (md_bd (fX8_size h (xs ((l3 + (1 : Int32))).toNatClampNeg)) (fun r_14 => (if r_13 = r_14 then fL_law_18 n h xs L (l3 + 4) else none))))) else if ((xs (l3).toNatClampNeg) &&& (63 : Int32)) = 5 then md_ck (md_in (l3 + (1 : Int32)) L) (md_ck (md_in (l3 + (2 : Int32)) L) (md_bd (fX7_traveller h (xs ((l3 + (1 : Int32))).toNatClampNeg) (xs ((l3 + (2 : Int32))).toNatClampNeg)) (fun r_15 => md_ck (md_in (l3 + (1 : Int32)) L) (md_ck (md_in (l3 + (2 : Int32)) L) (md_bd (fX8_traveller h (xs ((l3 + (1 : Int32))).toNatClampNeg) (xs ((l3 + (2 : Int32))).toNatClampNeg)) (fun r_16 => (if r_15 = r_16 then fL_law_18 n h xs L (l3 + 4) else none))))))) else if ((xs (l3).toNatClampNeg) &&& (63 : Int32)) = 6 then md_ck (md_in (l3 + (1 : Int32)) L) (md_b2 (fX7_pass h (xs ((l3 + (1 : Int32))).toNatClampNeg)) (fun r_17 h_18 => md_ck (md_in (l3 + (1 : Int32)) L) (md_b2 (fX8_pass h_18 (xs ((l3 + (1 : Int32))).toNatClampNeg)) (fun r_19 h_20 => (if r_17 = r_19 then fL_law_18 n h_20 xs L (l3 + 4) else none))))) else if ((xs (l3).toNatClampNeg) &&& (63 : Int32)) = 7 then md_ck (md_in (l3 + (1 : Int32)) L) (md_ck (md_in (l3 + (2 : Int32)) L) (md_bd ((if (xs ((l3 + (2 : Int32))).toNatClampNeg) = 0 then some false else some true)) (fun (v_21 : Bool) => md_b2 (fX7_goRound h (xs ((l3 + (1 : Int32))).toNatClampNeg) v_21) (fun r_23 h_24 => md_ck (md_in (l3 + (1 : Int32)) L) (md_ck (md_in (l3 + (2 : Int32)) L) (md_bd ((if (xs ((l3 + (2 : Int32))).toNatClampNeg) = 0 then some false else some true)) (fun (v_25 : Bool) => md_b2 (fX8_goRound h_24 (xs ((l3 + (1 : Int32))).toNatClampNeg) v_25) (fun r_27 h_28 => (if r_23 = r_27 then fL_law_18 n h_28 xs L (l3 + 4) else none))))))))) else if ((xs (l3).toNatClampNeg) &&& (63 : Int32)) = 8 then md_ck (md_in (l3 + (1 : Int32)) L) (md_ck (md_in (l3 + (2 : Int32)) L) (md_ck (md_in (l3 + (3 : Int32)) L) (md_b2 (fX7_talk h (xs ((l3 + (1 : Int32))).toNatClampNeg) (xs ((l3 + (2 : Int32))).toNatClampNeg) (xs ((l3 + (3 : Int32))).toNatClampNeg)) (fun r_29 h_30 => md_ck (md_in (l3 + (1 : Int32)) L) (md_ck (md_in (l3 + (2 : Int32)) L) (md_ck (md_in (l3 + (3 : Int32)) L) (md_b2 (fX8_talk h_30 (xs ((l3 + (1 : Int32))).toNatClampNeg) (xs ((l3 + (2 : Int32))).toNatClampNeg) (xs ((l3 + (3 : Int32))).toNatClampNeg)) (fun r_31 h_32 => (if r_29 = r_31 then fL_law_18 n h_32 xs L (l3 + 4) else none))))))))) else if ((xs (l3).toNatClampNeg) &&& (63 : Int32)) = 9 then md_ck (md_in (l3 + (1 : Int32)) L) (md_ck (md_in (l3 + (2 : Int32)) L) (md_b2 (fX7_come h (xs ((l3 + (1 : Int32))).toNatClampNeg) (xs ((l3 + (2 : Int32))).toNatClampNeg)) (fun r_33 h_34 => md_ck (md_in (l3 + (1 : Int32)) L) (md_ck (md_in (l3 + (2 : Int32)) L) (md_b2 (fX8_come h_34 (xs ((l3 + (1 : Int32))).toNatClampNeg) (xs ((l3 + (2 : Int32))).toNatClampNeg)) (fun r_35 h_36 => (if r_33 = r_35 then fL_law_18 n h_36 xs L (l3 + 4) else none))))))) else if ((xs (l3).toNatClampNeg) &&& (63 : Int32)) = 10 then md_ck (md_in (l3 + (1 : Int32)) L) (md_ck (md_in (l3 + (2 : Int32)) L) (md_bd ((if (xs ((l3 + (2 : Int32))).toNatClampNeg) = 0 then some false else some true)) (fun (v_37 : Bool) => md_b2 (fX7_register h (xs ((l3 + (1 : Int32))).toNatClampNeg) v_37) (fun r_39 h_40 => md_ck (md_in (l3 + (1 : Int32)) L) (md_ck (md_in (l3 + (2 : Int32)) L) (md_bd ((if (xs ((l3 + (2 : Int32))).toNatClampNeg) = 0 then some false else some true)) (fun (v_41 : Bool) => md_b2 (fX8_register h_40 (xs ((l3 + (1 : Int32))).toNatClampNeg) v_41) (fun r_43 h_44 => (if r_39 = r_43 then fL_law_18 n h_44 xs L (l3 + 4) else none))))))))) else if ((xs (l3).toNatClampNeg) &&& (63 : Int32)) = 11 then md_ck (md_in (l3 + (1 : Int32)) L) (md_b2 (fX7_drift h (xs ((l3 + (1 : Int32))).toNatClampNeg)) (fun r_45 h_46 => md_ck (md_in (l3 + (1 : Int32)) L) (md_b2 (fX8_drift h_46 (xs ((l3 + (1 : Int32))).toNatClampNeg)) (fun r_47 h_48 => (if r_45 = r_47 then fL_law_18 n h_48 xs L (l3 + 4) else none))))) else if ((xs (l3).toNatClampNeg) &&& (63 : Int32)) = 12 then md_b2 (fX7_undo h) (fun r_49 h_50 => md_b2 (fX8_undo h_50) (fun r_51 h_52 => (if r_49 = r_51 then fL_law_18 n h_52 xs L (l3 + 4) else none))) else if ((xs (l3).toNatClampNeg) &&& (63 : Int32)) = 13 then md_ck (md_in (l3 + (1 : Int32)) L) (md_bd (fX7_follows h (xs ((l3 + (1 : Int32))).toNatClampNeg)) (fun r_53 => md_ck (md_in (l3 + (1 : Int32)) L) (md_bd (fX8_follows h (xs ((l3 + (1 : Int32))).toNatClampNeg)) (fun r_54 => (if r_53 = r_54 then fL_law_18 n h xs L (l3 + 4) else none))))) else if ((xs (l3).toNatClampNeg) &&& (63 : Int32)) = 14 then md_ck (md_in (l3 + (1 : Int32)) L) (md_bd (fX7_owed h (xs ((l3 + (1 : Int32))).toNatClampNeg)) (fun r_55 => md_ck (md_in (l3 + (1 : Int32)) L) (md_bd (fX8_owed h (xs ((l3 + (1 : Int32))).toNatClampNeg)) (fun r_56 => (if r_55 = r_56 then fL_law_18 n h xs L (l3 + 4) else none))))) else if ((xs (l3).toNatClampNeg) &&& (63 : Int32)) = 15 then md_ck (md_in (l3 + (1 : Int32)) L) (md_ck (md_in (l3 + (2 : Int32)) L) (md_bd (fX7_parts h (xs ((l3 + (1 : Int32))).toNatClampNeg) (xs ((l3 + (2 : Int32))).toNatClampNeg)) (fun r_57 => md_ck (md_in (l3 + (1 : Int32)) L) (md_ck (md_in (l3 + (2 : Int32)) L) (md_bd (fX8_parts h (xs ((l3 + (1 : Int32))).toNatClampNeg) (xs ((l3 + (2 : Int32))).toNatClampNeg)) (fun r_58 => (if r_57 = r_58 then fL_law_18 n h xs L (l3 + 4) else none))))))) else if ((xs (l3).toNatClampNeg) &&& (63 : Int32)) = 16 then md_ck (md_in (l3 + (1 : Int32)) L) (md_ck (md_in (l3 + (2 : Int32)) L) (md_ck (md_in (l3 + (3 : Int32)) L) (md_b2 (fX7_talkDown h (xs ((l3 + (1 : Int32))).toNatClampNeg) (xs ((l3 + (2 : Int32))).toNatClampNeg) (xs ((l3 + (3 : Int32))).toNatClampNeg)) (fun r_59 h_60 => md_ck (md_in (l3 + (1 : Int32)) L) (md_ck (md_in (l3 + (2 : Int32)) L) (md_ck (md_in (l3 + (3 : Int32)) L) (md_b2 (fX8_talkDown h_60 (xs ((l3 + (1 : Int32))).toNatClampNeg) (xs ((l3 + (2 : Int32))).toNatClampNeg) (xs ((l3 + (3 : Int32))).toNatClampNeg)) (fun r_61 h_62 => (if r_59 = r_61 then fL_law_18 n h_62 xs L (l3 + 4) else none))))))))) else if ((xs (l3).toNatClampNeg) &&& (63 : Int32)) = 17 then md_ck (md_in (l3 + (1 : Int32)) L) (md_bd (fX7_soonest h (xs ((l3 + (1 : Int32))).toNatClampNeg)) (fun r_63 => md_ck (md_in (l3 + (1 : Int32)) L) (md_bd (fX8_soonest h (xs ((l3 + (1 : Int32))).toNatClampNeg)) (fun r_64 => (if r_63 = r_64 then fL_law_18 n h xs L (l3 + 4) else none))))) else if ((xs (l3).toNatClampNeg) &&& (63 : Int32)) = 18 then md_ck (md_in (l3 + (1 : Int32)) L) (md_bd (fX7_smallest h (xs ((l3 + (1 : Int32))).toNatClampNeg)) (fun r_65 => md_ck (md_in (l3 + (1 : Int32)) L) (md_bd (fX8_smallest h (xs ((l3 + (1 : Int32))).toNatClampNeg)) (fun r_66 => (if r_65 = r_66 then fL_law_18 n h xs L (l3 + 4) else none))))) else if ((xs (l3).toNatClampNeg) &&& (63 : Int32)) = 19 then md_ck (md_in (l3 + (1 : Int32)) L) (md_ck (md_in (l3 + (2 : Int32)) L) (md_bd (fX7_better h (xs ((l3 + (1 : Int32))).toNatClampNeg) (xs ((l3 + (2 : Int32))).toNatClampNeg)) (fun r_67 => md_ck (md_in (l3 + (1 : Int32)) L) (md_ck (md_in (l3 + (2 : Int32)) L) (md_bd (fX8_better h (xs ((l3 + (1 : Int32))).toNatClampNeg) (xs ((l3 + (2 : Int32))).toNatClampNeg)) (fun r_68 => (if r_67 = r_68 then fL_law_18 n h xs L (l3 + 4) else none))))))) else if ((xs (l3).toNatClampNeg) &&& (63 : Int32)) = 20 then md_ck (md_in (l3 + (1 : Int32)) L) (md_ck (md_in (l3 + (2 : Int32)) L) (md_bd (fX7_gains h (xs ((l3 + (1 : Int32))).toNatClampNeg) (xs ((l3 + (2 : Int32))).toNatClampNeg)) (fun r_69 => md_ck (md_in (l3 + (1 : Int32)) L) (md_ck (md_in (l3 + (2 : Int32)) L) (md_bd (fX8_gains h (xs ((l3 + (1 : Int32))).toNatClampNeg) (xs ((l3 + (2 : Int32))).toNatClampNeg)) (fun r_70 => (if r_69 = r_70 then fL_law_18 n h xs L (l3 + 4) else none))))))) else if ((xs (l3).toNatClampNeg) &&& (63 : Int32)) = 21 then md_bd (fX7_free h) (fun r_71 => md_bd (fX8_free h) (fun r_72 => (if r_71 = r_72 then fL_law_18 n h xs L (l3 + 4) else none))) else if ((xs (l3).toNatClampNeg) &&& (63 : Int32)) = 22 then md_ck (md_in (l3 + (1 : Int32)) L) (md_bd (fX7_share h (xs ((l3 + (1 : Int32))).toNatClampNeg)) (fun r_73 => md_ck (md_in (l3 + (1 : Int32)) L) (md_bd (fX8_share h (xs ((l3 + (1 : Int32))).toNatClampNeg)) (fun r_74 => (if r_73 = r_74 then fL_law_18 n h xs L (l3 + 4) else none))))) else if ((xs (l3).toNatClampNeg) &&& (63 : Int32)) = 23 then md_ck (md_in (l3 + (1 : Int32)) L) (md_bd (fX7_glacier h (xs ((l3 + (1 : Int32))).toNatClampNeg)) (fun r_75 => md_ck (md_in (l3 + (1 : Int32)) L) (md_bd (fX8_glacier h (xs ((l3 + (1 : Int32))).toNatClampNeg)) (fun r_76 => (if r_75 = r_76 then fL_law_18 n h xs L (l3 + 4) else none))))) else if ((xs (l3).toNatClampNeg) &&& (63 : Int32)) = 24 then md_ck (md_in (l3 + (1 : Int32)) L) (md_ck (md_in (l3 + (2 : Int32)) L) (md_ck (md_in (l3 + (3 : Int32)) L) (md_bd ((if (xs ((l3 + (3 : Int32))).toNatClampNeg) = 0 then some false else some true)) (fun (v_77 : Bool) => md_b2 (fX7_ask h (xs ((l3 + (1 : Int32))).toNatClampNeg) (xs ((l3 + (2 : Int32))).toNatClampNeg) v_77) (fun r_79 h_80 => md_ck (md_in (l3 + (1 : Int32)) L) (md_ck (md_in (l3 + (2 : Int32)) L) (md_ck (md_in (l3 + (3 : Int32)) L) (md_bd ((if (xs ((l3 + (3 : Int32))).toNatClampNeg) = 0 then some false else some true)) (fun (v_81 : Bool) => md_b2 (fX8_ask h_80 (xs ((l3 + (1 : Int32))).toNatClampNeg) (xs ((l3 + (2 : Int32))).toNatClampNeg) v_81) (fun r_83 h_84 => (if r_79 = r_83 then fL_law_18 n h_84 xs L (l3 + 4) else none))))))))))) else if ((xs (l3).toNatClampNeg) &&& (63 : Int32)) = 25 then md_ck (md_in (l3 + (1 : Int32)) L) (md_b2 (fX7_minds h (xs ((l3 + (1 : Int32))).toNatClampNeg)) (fun r_85 h_86 => md_ck (md_in (l3 + (1 : Int32)) L) (md_bd (fX8_minds h_86 (xs ((l3 + (1 : Int32))).toNatClampNeg)) (fun r_87 => (if r_85 = r_87 then fL_law_18 n h_86 xs L (l3 + 4) else none))))) else if ((xs (l3).toNatClampNeg) &&& (63 : Int32)) = 26 then md_b2 (fX7_askNext h) (fun r_88 h_89 => md_b2 (fX8_askNext h_89) (fun r_90 h_91 => (if r_88 = r_90 then fL_law_18 n h_91 xs L (l3 + 4) else none))) else if ((xs (l3).toNatClampNeg) &&& (63 : Int32)) = 27 then md_ck (md_in (l3 + (1 : Int32)) L) (md_ck (md_in (l3 + (2 : Int32)) L) (md_b2 (fX7_write h (xs ((l3 + (1 : Int32))).toNatClampNeg) (xs ((l3 + (2 : Int32))).toNatClampNeg)) (fun r_92 h_93 => md_ck (md_in (l3 + (1 : Int32)) L) (md_ck (md_in (l3 + (2 : Int32)) L) (md_b2 (fX8_write h_93 (xs ((l3 + (1 : Int32))).toNatClampNeg) (xs ((l3 + (2 : Int32))).toNatClampNeg)) (fun r_94 h_95 => (if r_92 = r_94 then fL_law_18 n h_95 xs L (l3 + 4) else none))))))) else if ((xs (l3).toNatClampNeg) &&& (63 : Int32)) = 28 then md_b2 (fX7_tear h) (fun r_96 h_97 => md_b2 (fX8_tear h_97) (fun r_98 h_99 => (if r_96 = r_98 then fL_law_18 n h_99 xs L (l3 + 4) else none))) else if ((xs (l3).toNatClampNeg) &&& (63 : Int32)) = 29 then md_bd (fX7_judge h) (fun r_100 => md_bd (fX8_judge h) (fun r_101 => (if r_100 = r_101 then fL_law_18 n h xs L (l3 + 4) else none))) else if ((xs (l3).toNatClampNeg) &&& (63 : Int32)) = 30 then md_ck (md_in (l3 + (1 : Int32)) L) (md_b2 (fX7_seed h (xs ((l3 + (1 : Int32))).toNatClampNeg)) (fun r_102 h_103 => md_ck (md_in (l3 + (1 : Int32)) L) (md_b2 (fX8_seed h_103 (xs ((l3 + (1 : Int32))).toNatClampNeg)) (fun r_104 h_105 => (if r_102 = r_104 then fL_law_18 n h_105 xs L (l3 + 4) else none))))) else if ((xs (l3).toNatClampNeg) &&& (63 : Int32)) = 31 then md_ck (md_in (l3 + (1 : Int32)) L) (md_b2 (fX7_keep h (xs ((l3 + (1 : Int32))).toNatClampNeg)) (fun r_106 h_107 => md_ck (md_in (l3 + (1 : Int32)) L) (md_b2 (fX8_keep h_107 (xs ((l3 + (1 : Int32))).toNatClampNeg)) (fun r_108 h_109 => (if r_106 = r_108 then fL_law_18 n h_109 xs L (l3 + 4) else none))))) else if ((xs (l3).toNatClampNeg) &&& (63 : Int32)) = 32 then md_ck (md_in (l3 + (1 : Int32)) L) (md_b2 (fX7_goBack h (xs ((l3 + (1 : Int32))).toNatClampNeg)) (fun r_110 h_111 => md_ck (md_in (l3 + (1 : Int32)) L) (md_b2 (fX8_goBack h_111 (xs ((l3 + (1 : Int32))).toNatClampNeg)) (fun r_112 h_113 => (if r_110 = r_112 then fL_law_18 n h_113 xs L (l3 + 4) else none))))) else fL_law_18 n h xs L (l3 + 4))))
set_option maxRecDepth 100000 in
set_option maxHeartbeats 40000000 in
theorem lL_law_18 {K : Kx} {Y : Yx} {cs : Nat × Nat} (xs : Nat → Int32) (L : Nat) {b0 : Nat} (S : Sx K Y b0 L xs) (C : Cx K Y cs cL_law RL 4 2000 80000) {P : Mm → Prop} : ∀ (n : Nat) (h : Mm) (l3 : Int32), (∀ (hw : Mm), J SHc K Y cs (P hw) 1063 [] [] hw) → J SHc K Y cs (mj_O (fL_law_18 n h xs L l3) P) 18 [(0, .ref b0), (1, rf K 0), (2, rf K 84), (3, .int l3)] [] h := by
  intro n
  induction n with
  | zero => intro h l3 kk0; exact mj_none
  | succ n ih =>
    intro h l3 kk0
    rw [fL_law_18]
    refine mj_iload_n C 3 dL_law_18 (i := 3) rfl rfl ?_
    refine mj_aload_nR C 0 dL_law_19 (i := 0) rfl rfl ?_
    refine mj_slen C S dL_law_20 ?_
    refine mj_iconst C (v := 4) dL_law_21 rfl ?_
    refine mj_isub C dL_law_22 ?_
    refine mj_icmp_gt C 1063 dL_law_23 (by decide) ?_ ?_
    · exact mj_sub [] rfl (mj_some (kk0 h))
    · refine mj_aload_nR C 0 dL_law_26 (i := 0) rfl rfl ?_
      refine mj_iload_n C 3 dL_law_27 (i := 3) rfl rfl ?_
      refine mj_sld C S dL_law_28 ?_
      refine mj_bipush C (v := 63) dL_law_29 rfl ?_
      refine mj_iand C dL_law_31 ?_
      refine mj_sw0 ?_
      refine mj_tcase C 0 180 dL_law_32 (by decide) (by decide) rfl (by decide) ?_ ?_
      · refine mj_aload_n C 1 dL_law_180 (i := 1) rfl rfl ?_
        refine mj_aload_nR C 0 dL_law_181 (i := 0) rfl rfl ?_
        refine mj_iload_n C 3 dL_law_182 (i := 3) rfl rfl ?_
        refine mj_iconst C (v := 1) dL_law_183 rfl ?_
        refine mj_iadd C dL_law_184 ?_
        refine mj_sld C S dL_law_185 ?_
        refine mj_vIM C my_X7_feed mv_L_13 dL_law_186 sh_0 rfl (fun a hF => ctX7_feed K h (xs ((l3 + (1 : Int32))).toNatClampNeg)  hF) (by decide) (by decide) rfl rfl (Nat.le_of_ble_eq_true rfl) (fun r_1 h_2 => ?_)
        refine mj_aload_n C 2 dL_law_189 (i := 2) rfl rfl ?_
        refine mj_aload_nR C 0 dL_law_190 (i := 0) rfl rfl ?_
        refine mj_iload_n C 3 dL_law_191 (i := 3) rfl rfl ?_
        refine mj_iconst C (v := 1) dL_law_192 rfl ?_
        refine mj_iadd C dL_law_193 ?_
        refine mj_sld C S dL_law_194 ?_
        refine mj_vIM C my_X8_feed mv_L_17 dL_law_195 sh_84 rfl (fun a hF => ctX8_feed K h_2 (xs ((l3 + (1 : Int32))).toNatClampNeg)  hF) (by decide) (by decide) rfl rfl (Nat.le_of_ble_eq_true rfl) (fun r_3 h_4 => ?_)
        refine mj_icmp_eq C 1057 dL_law_198 (by decide) ?_ ?_
        · refine mj_iinc C (l3 + 4) 3 [(3, .int (l3 + 4)), (0, .ref b0), (1, rf K 0), (2, rf K 84)] dL_law_1057 rfl rfl (by decide) rfl ?_
          refine mj_goto C 18 dL_law_1060 (by decide) ?_
          exact mj_sub [1, 2, 3, 0] rfl (ih h_4 (l3 + 4) kk0)
        · refine mj_iconst C (v := 0) dL_law_201 rfl ?_
          exact mj_none
      refine mj_tcase C 1 203 dL_law_32 (by decide) (by decide) rfl (by decide) ?_ ?_
      · refine mj_aload_n C 1 dL_law_203 (i := 1) rfl rfl ?_
        refine mj_vIM C my_X7_thePass mv_L_18 dL_law_204 sh_0 rfl (fun a hF => ctX7_thePass K h   hF) (by decide) (by decide) rfl rfl (Nat.le_of_ble_eq_true rfl) (fun r_5 h_6 => ?_)
        refine mj_aload_n C 2 dL_law_207 (i := 2) rfl rfl ?_
        refine mj_vIM C my_X8_thePass mv_L_22 dL_law_208 sh_84 rfl (fun a hF => ctX8_thePass K h_6   hF) (by decide) (by decide) rfl rfl (Nat.le_of_ble_eq_true rfl) (fun r_7 h_8 => ?_)
        refine mj_icmp_eq C 1057 dL_law_211 (by decide) ?_ ?_
        · refine mj_iinc C (l3 + 4) 3 [(3, .int (l3 + 4)), (0, .ref b0), (1, rf K 0), (2, rf K 84)] dL_law_1057 rfl rfl (by decide) rfl ?_
          refine mj_goto C 18 dL_law_1060 (by decide) ?_
          exact mj_sub [1, 2, 3, 0] rfl (ih h_8 (l3 + 4) kk0)
        · refine mj_iconst C (v := 0) dL_law_214 rfl ?_
          exact mj_none
      refine mj_tcase C 2 216 dL_law_32 (by decide) (by decide) rfl (by decide) ?_ ?_
      · refine mj_aload_n C 1 dL_law_216 (i := 1) rfl rfl ?_
        refine mj_vI C my_X7_fault mv_L_23 dL_law_217 sh_0 rfl (fun a hF => ctX7_fault K h   hF) (by decide) (by decide) rfl rfl (Nat.le_of_ble_eq_true rfl) (fun r_9 => ?_)
        refine mj_aload_n C 2 dL_law_220 (i := 2) rfl rfl ?_
        refine mj_vI C my_X8_fault mv_L_26 dL_law_221 sh_84 rfl (fun a hF => ctX8_fault K h   hF) (by decide) (by decide) rfl rfl (Nat.le_of_ble_eq_true rfl) (fun r_10 => ?_)
        refine mj_icmp_eq C 1057 dL_law_224 (by decide) ?_ ?_
        · refine mj_iinc C (l3 + 4) 3 [(3, .int (l3 + 4)), (0, .ref b0), (1, rf K 0), (2, rf K 84)] dL_law_1057 rfl rfl (by decide) rfl ?_
          refine mj_goto C 18 dL_law_1060 (by decide) ?_
          exact mj_sub [1, 2, 3, 0] rfl (ih h (l3 + 4) kk0)
        · refine mj_iconst C (v := 0) dL_law_227 rfl ?_
          exact mj_none
      refine mj_tcase C 3 229 dL_law_32 (by decide) (by decide) rfl (by decide) ?_ ?_
      · refine mj_aload_n C 1 dL_law_229 (i := 1) rfl rfl ?_
        refine mj_aload_nR C 0 dL_law_230 (i := 0) rfl rfl ?_
        refine mj_iload_n C 3 dL_law_231 (i := 3) rfl rfl ?_
        refine mj_iconst C (v := 1) dL_law_232 rfl ?_
        refine mj_iadd C dL_law_233 ?_
        refine mj_sld C S dL_law_234 ?_
        refine mj_vI C my_X7_told mv_L_27 dL_law_235 sh_0 rfl (fun a hF => ctX7_told K h (xs ((l3 + (1 : Int32))).toNatClampNeg)  hF) (by decide) (by decide) rfl rfl (Nat.le_of_ble_eq_true rfl) (fun r_11 => ?_)
        refine mj_aload_n C 2 dL_law_238 (i := 2) rfl rfl ?_
        refine mj_aload_nR C 0 dL_law_239 (i := 0) rfl rfl ?_
        refine mj_iload_n C 3 dL_law_240 (i := 3) rfl rfl ?_
        refine mj_iconst C (v := 1) dL_law_241 rfl ?_
        refine mj_iadd C dL_law_242 ?_
        refine mj_sld C S dL_law_243 ?_
        refine mj_vI C my_X8_told mv_L_30 dL_law_244 sh_84 rfl (fun a hF => ctX8_told K h (xs ((l3 + (1 : Int32))).toNatClampNeg)  hF) (by decide) (by decide) rfl rfl (Nat.le_of_ble_eq_true rfl) (fun r_12 => ?_)
        refine mj_icmp_eq C 1057 dL_law_247 (by decide) ?_ ?_
        · refine mj_iinc C (l3 + 4) 3 [(3, .int (l3 + 4)), (0, .ref b0), (1, rf K 0), (2, rf K 84)] dL_law_1057 rfl rfl (by decide) rfl ?_
          refine mj_goto C 18 dL_law_1060 (by decide) ?_
          exact mj_sub [1, 2, 3, 0] rfl (ih h (l3 + 4) kk0)
        · refine mj_iconst C (v := 0) dL_law_250 rfl ?_
          exact mj_none
      refine mj_tcase C 4 252 dL_law_32 (by decide) (by decide) rfl (by decide) ?_ ?_
      · refine mj_aload_n C 1 dL_law_252 (i := 1) rfl rfl ?_
        refine mj_aload_nR C 0 dL_law_253 (i := 0) rfl rfl ?_
        refine mj_iload_n C 3 dL_law_254 (i := 3) rfl rfl ?_
        refine mj_iconst C (v := 1) dL_law_255 rfl ?_
        refine mj_iadd C dL_law_256 ?_
        refine mj_sld C S dL_law_257 ?_
        refine mj_vI C my_X7_size mv_L_31 dL_law_258 sh_0 rfl (fun a hF => ctX7_size K h (xs ((l3 + (1 : Int32))).toNatClampNeg)  hF) (by decide) (by decide) rfl rfl (Nat.le_of_ble_eq_true rfl) (fun r_13 => ?_)
        refine mj_aload_n C 2 dL_law_261 (i := 2) rfl rfl ?_
        refine mj_aload_nR C 0 dL_law_262 (i := 0) rfl rfl ?_
        refine mj_iload_n C 3 dL_law_263 (i := 3) rfl rfl ?_
        refine mj_iconst C (v := 1) dL_law_264 rfl ?_
        refine mj_iadd C dL_law_265 ?_
        refine mj_sld C S dL_law_266 ?_
        refine mj_vI C my_X8_size mv_L_34 dL_law_267 sh_84 rfl (fun a hF => ctX8_size K h (xs ((l3 + (1 : Int32))).toNatClampNeg)  hF) (by decide) (by decide) rfl rfl (Nat.le_of_ble_eq_true rfl) (fun r_14 => ?_)
        refine mj_icmp_eq C 1057 dL_law_270 (by decide) ?_ ?_
        · refine mj_iinc C (l3 + 4) 3 [(3, .int (l3 + 4)), (0, .ref b0), (1, rf K 0), (2, rf K 84)] dL_law_1057 rfl rfl (by decide) rfl ?_
          refine mj_goto C 18 dL_law_1060 (by decide) ?_
          exact mj_sub [1, 2, 3, 0] rfl (ih h (l3 + 4) kk0)
        · refine mj_iconst C (v := 0) dL_law_273 rfl ?_
          exact mj_none
      refine mj_tcase C 5 275 dL_law_32 (by decide) (by decide) rfl (by decide) ?_ ?_
      · refine mj_aload_n C 1 dL_law_275 (i := 1) rfl rfl ?_
        refine mj_aload_nR C 0 dL_law_276 (i := 0) rfl rfl ?_
        refine mj_iload_n C 3 dL_law_277 (i := 3) rfl rfl ?_
        refine mj_iconst C (v := 1) dL_law_278 rfl ?_
        refine mj_iadd C dL_law_279 ?_
        refine mj_sld C S dL_law_280 ?_
        refine mj_aload_nR C 0 dL_law_281 (i := 0) rfl rfl ?_
        refine mj_iload_n C 3 dL_law_282 (i := 3) rfl rfl ?_
        refine mj_iconst C (v := 2) dL_law_283 rfl ?_
        refine mj_iadd C dL_law_284 ?_
        refine mj_sld C S dL_law_285 ?_
        refine mj_vI C my_X7_traveller mv_L_35 dL_law_286 sh_0 rfl (fun a hF => ctX7_traveller K h (xs ((l3 + (1 : Int32))).toNatClampNeg) (xs ((l3 + (2 : Int32))).toNatClampNeg)  hF) (by decide) (by decide) rfl rfl (Nat.le_of_ble_eq_true rfl) (fun r_15 => ?_)
        refine mj_aload_n C 2 dL_law_289 (i := 2) rfl rfl ?_
        refine mj_aload_nR C 0 dL_law_290 (i := 0) rfl rfl ?_
        refine mj_iload_n C 3 dL_law_291 (i := 3) rfl rfl ?_
        refine mj_iconst C (v := 1) dL_law_292 rfl ?_
        refine mj_iadd C dL_law_293 ?_
        refine mj_sld C S dL_law_294 ?_
        refine mj_aload_nR C 0 dL_law_295 (i := 0) rfl rfl ?_
        refine mj_iload_n C 3 dL_law_296 (i := 3) rfl rfl ?_
        refine mj_iconst C (v := 2) dL_law_297 rfl ?_
        refine mj_iadd C dL_law_298 ?_
        refine mj_sld C S dL_law_299 ?_
        refine mj_vI C my_X8_traveller mv_L_39 dL_law_300 sh_84 rfl (fun a hF => ctX8_traveller K h (xs ((l3 + (1 : Int32))).toNatClampNeg) (xs ((l3 + (2 : Int32))).toNatClampNeg)  hF) (by decide) (by decide) rfl rfl (Nat.le_of_ble_eq_true rfl) (fun r_16 => ?_)
        refine mj_icmp_eq C 1057 dL_law_303 (by decide) ?_ ?_
        · refine mj_iinc C (l3 + 4) 3 [(3, .int (l3 + 4)), (0, .ref b0), (1, rf K 0), (2, rf K 84)] dL_law_1057 rfl rfl (by decide) rfl ?_
          refine mj_goto C 18 dL_law_1060 (by decide) ?_
          exact mj_sub [1, 2, 3, 0] rfl (ih h (l3 + 4) kk0)
        · refine mj_iconst C (v := 0) dL_law_306 rfl ?_
          exact mj_none
      refine mj_tcase C 6 308 dL_law_32 (by decide) (by decide) rfl (by decide) ?_ ?_
      · refine mj_aload_n C 1 dL_law_308 (i := 1) rfl rfl ?_
        refine mj_aload_nR C 0 dL_law_309 (i := 0) rfl rfl ?_
        refine mj_iload_n C 3 dL_law_310 (i := 3) rfl rfl ?_
        refine mj_iconst C (v := 1) dL_law_311 rfl ?_
        refine mj_iadd C dL_law_312 ?_
        refine mj_sld C S dL_law_313 ?_
        refine mj_vIM C my_X7_pass mv_L_40 dL_law_314 sh_0 rfl (fun a hF => ctX7_pass K h (xs ((l3 + (1 : Int32))).toNatClampNeg)  hF) (by decide) (by decide) rfl rfl (Nat.le_of_ble_eq_true rfl) (fun r_17 h_18 => ?_)
        refine mj_aload_n C 2 dL_law_317 (i := 2) rfl rfl ?_
        refine mj_aload_nR C 0 dL_law_318 (i := 0) rfl rfl ?_
        refine mj_iload_n C 3 dL_law_319 (i := 3) rfl rfl ?_
        refine mj_iconst C (v := 1) dL_law_320 rfl ?_
        refine mj_iadd C dL_law_321 ?_
        refine mj_sld C S dL_law_322 ?_
        refine mj_vIM C my_X8_pass mv_L_43 dL_law_323 sh_84 rfl (fun a hF => ctX8_pass K h_18 (xs ((l3 + (1 : Int32))).toNatClampNeg)  hF) (by decide) (by decide) rfl rfl (Nat.le_of_ble_eq_true rfl) (fun r_19 h_20 => ?_)
        refine mj_icmp_eq C 1057 dL_law_326 (by decide) ?_ ?_
        · refine mj_iinc C (l3 + 4) 3 [(3, .int (l3 + 4)), (0, .ref b0), (1, rf K 0), (2, rf K 84)] dL_law_1057 rfl rfl (by decide) rfl ?_
          refine mj_goto C 18 dL_law_1060 (by decide) ?_
          exact mj_sub [1, 2, 3, 0] rfl (ih h_20 (l3 + 4) kk0)
        · refine mj_iconst C (v := 0) dL_law_329 rfl ?_
          exact mj_none
      refine mj_tcase C 7 331 dL_law_32 (by decide) (by decide) rfl (by decide) ?_ ?_
      · refine mj_aload_n C 1 dL_law_331 (i := 1) rfl rfl ?_
        refine mj_aload_nR C 0 dL_law_332 (i := 0) rfl rfl ?_
        refine mj_iload_n C 3 dL_law_333 (i := 3) rfl rfl ?_
        refine mj_iconst C (v := 1) dL_law_334 rfl ?_
        refine mj_iadd C dL_law_335 ?_
        refine mj_sld C S dL_law_336 ?_
        refine mj_aload_nR C 0 dL_law_337 (i := 0) rfl rfl ?_
        refine mj_iload_n C 3 dL_law_338 (i := 3) rfl rfl ?_
        refine mj_iconst C (v := 2) dL_law_339 rfl ?_
        refine mj_iadd C dL_law_340 ?_
        refine mj_sld C S dL_law_341 ?_
        refine mj_phi1 350 (fun (v_21 : Bool) => [(0, .ref b0), (1, rf K 0), (2, rf K 84), (3, .int l3)]) (fun (v_21 : Bool) => [.int (md_bi v_21), .int (xs ((l3 + (1 : Int32))).toNatClampNeg), rf K 0]) (fun (v_21 : Bool) => h) (fun P' kj_22 => ?_) (fun v_21 => ?_)
        · refine mj_if_eq C 349 dL_law_342 (by decide) ?_ ?_
          · refine mj_iconst C (v := 0) dL_law_349 rfl ?_
            exact mj_sub [0, 1, 2, 3] rfl (mj_some (kj_22 false))
          · refine mj_iconst C (v := 1) dL_law_345 rfl ?_
            refine mj_goto C 350 dL_law_346 (by decide) ?_
            exact mj_sub [0, 1, 2, 3] rfl (mj_some (kj_22 true))
        · refine mj_vIM C my_X7_goRound mv_L_44 dL_law_350 sh_0 rfl (fun a hF => ctX7_goRound K h (xs ((l3 + (1 : Int32))).toNatClampNeg) v_21  hF) (by decide) (by decide) rfl rfl (Nat.le_of_ble_eq_true rfl) (fun r_23 h_24 => ?_)
          refine mj_aload_n C 2 dL_law_353 (i := 2) rfl rfl ?_
          refine mj_aload_nR C 0 dL_law_354 (i := 0) rfl rfl ?_
          refine mj_iload_n C 3 dL_law_355 (i := 3) rfl rfl ?_
          refine mj_iconst C (v := 1) dL_law_356 rfl ?_
          refine mj_iadd C dL_law_357 ?_
          refine mj_sld C S dL_law_358 ?_
          refine mj_aload_nR C 0 dL_law_359 (i := 0) rfl rfl ?_
          refine mj_iload_n C 3 dL_law_360 (i := 3) rfl rfl ?_
          refine mj_iconst C (v := 2) dL_law_361 rfl ?_
          refine mj_iadd C dL_law_362 ?_
          refine mj_sld C S dL_law_363 ?_
          refine mj_phi1 372 (fun (v_25 : Bool) => [(0, .ref b0), (1, rf K 0), (2, rf K 84), (3, .int l3)]) (fun (v_25 : Bool) => [.int (md_bi v_25), .int (xs ((l3 + (1 : Int32))).toNatClampNeg), rf K 84, .int r_23]) (fun (v_25 : Bool) => h_24) (fun P' kj_26 => ?_) (fun v_25 => ?_)
          · refine mj_if_eq C 371 dL_law_364 (by decide) ?_ ?_
            · refine mj_iconst C (v := 0) dL_law_371 rfl ?_
              exact mj_sub [0, 1, 2, 3] rfl (mj_some (kj_26 false))
            · refine mj_iconst C (v := 1) dL_law_367 rfl ?_
              refine mj_goto C 372 dL_law_368 (by decide) ?_
              exact mj_sub [0, 1, 2, 3] rfl (mj_some (kj_26 true))
          · refine mj_vIM C my_X8_goRound mv_L_48 dL_law_372 sh_84 rfl (fun a hF => ctX8_goRound K h_24 (xs ((l3 + (1 : Int32))).toNatClampNeg) v_25  hF) (by decide) (by decide) rfl rfl (Nat.le_of_ble_eq_true rfl) (fun r_27 h_28 => ?_)
            refine mj_icmp_eq C 1057 dL_law_375 (by decide) ?_ ?_
            · refine mj_iinc C (l3 + 4) 3 [(3, .int (l3 + 4)), (0, .ref b0), (1, rf K 0), (2, rf K 84)] dL_law_1057 rfl rfl (by decide) rfl ?_
              refine mj_goto C 18 dL_law_1060 (by decide) ?_
              exact mj_sub [1, 2, 3, 0] rfl (ih h_28 (l3 + 4) kk0)
            · refine mj_iconst C (v := 0) dL_law_378 rfl ?_
              exact mj_none
      refine mj_tcase C 8 380 dL_law_32 (by decide) (by decide) rfl (by decide) ?_ ?_
      · refine mj_aload_n C 1 dL_law_380 (i := 1) rfl rfl ?_
        refine mj_aload_nR C 0 dL_law_381 (i := 0) rfl rfl ?_
        refine mj_iload_n C 3 dL_law_382 (i := 3) rfl rfl ?_
        refine mj_iconst C (v := 1) dL_law_383 rfl ?_
        refine mj_iadd C dL_law_384 ?_
        refine mj_sld C S dL_law_385 ?_
        refine mj_aload_nR C 0 dL_law_386 (i := 0) rfl rfl ?_
        refine mj_iload_n C 3 dL_law_387 (i := 3) rfl rfl ?_
        refine mj_iconst C (v := 2) dL_law_388 rfl ?_
        refine mj_iadd C dL_law_389 ?_
        refine mj_sld C S dL_law_390 ?_
        refine mj_aload_nR C 0 dL_law_391 (i := 0) rfl rfl ?_
        refine mj_iload_n C 3 dL_law_392 (i := 3) rfl rfl ?_
        refine mj_iconst C (v := 3) dL_law_393 rfl ?_
        refine mj_iadd C dL_law_394 ?_
        refine mj_sld C S dL_law_395 ?_
        refine mj_vIM C my_X7_talk mv_L_49 dL_law_396 sh_0 rfl (fun a hF => ctX7_talk K h (xs ((l3 + (1 : Int32))).toNatClampNeg) (xs ((l3 + (2 : Int32))).toNatClampNeg) (xs ((l3 + (3 : Int32))).toNatClampNeg)  hF) (by decide) (by decide) rfl rfl (Nat.le_of_ble_eq_true rfl) (fun r_29 h_30 => ?_)
        refine mj_aload_n C 2 dL_law_399 (i := 2) rfl rfl ?_
        refine mj_aload_nR C 0 dL_law_400 (i := 0) rfl rfl ?_
        refine mj_iload_n C 3 dL_law_401 (i := 3) rfl rfl ?_
        refine mj_iconst C (v := 1) dL_law_402 rfl ?_
        refine mj_iadd C dL_law_403 ?_
        refine mj_sld C S dL_law_404 ?_
        refine mj_aload_nR C 0 dL_law_405 (i := 0) rfl rfl ?_
        refine mj_iload_n C 3 dL_law_406 (i := 3) rfl rfl ?_
        refine mj_iconst C (v := 2) dL_law_407 rfl ?_
        refine mj_iadd C dL_law_408 ?_
        refine mj_sld C S dL_law_409 ?_
        refine mj_aload_nR C 0 dL_law_410 (i := 0) rfl rfl ?_
        refine mj_iload_n C 3 dL_law_411 (i := 3) rfl rfl ?_
        refine mj_iconst C (v := 3) dL_law_412 rfl ?_
        refine mj_iadd C dL_law_413 ?_
        refine mj_sld C S dL_law_414 ?_
        refine mj_vIM C my_X8_talk mv_L_53 dL_law_415 sh_84 rfl (fun a hF => ctX8_talk K h_30 (xs ((l3 + (1 : Int32))).toNatClampNeg) (xs ((l3 + (2 : Int32))).toNatClampNeg) (xs ((l3 + (3 : Int32))).toNatClampNeg)  hF) (by decide) (by decide) rfl rfl (Nat.le_of_ble_eq_true rfl) (fun r_31 h_32 => ?_)
        refine mj_icmp_eq C 1057 dL_law_418 (by decide) ?_ ?_
        · refine mj_iinc C (l3 + 4) 3 [(3, .int (l3 + 4)), (0, .ref b0), (1, rf K 0), (2, rf K 84)] dL_law_1057 rfl rfl (by decide) rfl ?_
          refine mj_goto C 18 dL_law_1060 (by decide) ?_
          exact mj_sub [1, 2, 3, 0] rfl (ih h_32 (l3 + 4) kk0)
        · refine mj_iconst C (v := 0) dL_law_421 rfl ?_
          exact mj_none
      refine mj_tcase C 9 423 dL_law_32 (by decide) (by decide) rfl (by decide) ?_ ?_
      · refine mj_aload_n C 1 dL_law_423 (i := 1) rfl rfl ?_
        refine mj_aload_nR C 0 dL_law_424 (i := 0) rfl rfl ?_
        refine mj_iload_n C 3 dL_law_425 (i := 3) rfl rfl ?_
        refine mj_iconst C (v := 1) dL_law_426 rfl ?_
        refine mj_iadd C dL_law_427 ?_
        refine mj_sld C S dL_law_428 ?_
        refine mj_aload_nR C 0 dL_law_429 (i := 0) rfl rfl ?_
        refine mj_iload_n C 3 dL_law_430 (i := 3) rfl rfl ?_
        refine mj_iconst C (v := 2) dL_law_431 rfl ?_
        refine mj_iadd C dL_law_432 ?_
        refine mj_sld C S dL_law_433 ?_
        refine mj_vIM C my_X7_come mv_L_54 dL_law_434 sh_0 rfl (fun a hF => ctX7_come K h (xs ((l3 + (1 : Int32))).toNatClampNeg) (xs ((l3 + (2 : Int32))).toNatClampNeg)  hF) (by decide) (by decide) rfl rfl (Nat.le_of_ble_eq_true rfl) (fun r_33 h_34 => ?_)
        refine mj_aload_n C 2 dL_law_437 (i := 2) rfl rfl ?_
        refine mj_aload_nR C 0 dL_law_438 (i := 0) rfl rfl ?_
        refine mj_iload_n C 3 dL_law_439 (i := 3) rfl rfl ?_
        refine mj_iconst C (v := 1) dL_law_440 rfl ?_
        refine mj_iadd C dL_law_441 ?_
        refine mj_sld C S dL_law_442 ?_
        refine mj_aload_nR C 0 dL_law_443 (i := 0) rfl rfl ?_
        refine mj_iload_n C 3 dL_law_444 (i := 3) rfl rfl ?_
        refine mj_iconst C (v := 2) dL_law_445 rfl ?_
        refine mj_iadd C dL_law_446 ?_
        refine mj_sld C S dL_law_447 ?_
        refine mj_vIM C my_X8_come mv_L_57 dL_law_448 sh_84 rfl (fun a hF => ctX8_come K h_34 (xs ((l3 + (1 : Int32))).toNatClampNeg) (xs ((l3 + (2 : Int32))).toNatClampNeg)  hF) (by decide) (by decide) rfl rfl (Nat.le_of_ble_eq_true rfl) (fun r_35 h_36 => ?_)
        refine mj_icmp_eq C 1057 dL_law_451 (by decide) ?_ ?_
        · refine mj_iinc C (l3 + 4) 3 [(3, .int (l3 + 4)), (0, .ref b0), (1, rf K 0), (2, rf K 84)] dL_law_1057 rfl rfl (by decide) rfl ?_
          refine mj_goto C 18 dL_law_1060 (by decide) ?_
          exact mj_sub [1, 2, 3, 0] rfl (ih h_36 (l3 + 4) kk0)
        · refine mj_iconst C (v := 0) dL_law_454 rfl ?_
          exact mj_none
      refine mj_tcase C 10 456 dL_law_32 (by decide) (by decide) rfl (by decide) ?_ ?_
      · refine mj_aload_n C 1 dL_law_456 (i := 1) rfl rfl ?_
        refine mj_aload_nR C 0 dL_law_457 (i := 0) rfl rfl ?_
        refine mj_iload_n C 3 dL_law_458 (i := 3) rfl rfl ?_
        refine mj_iconst C (v := 1) dL_law_459 rfl ?_
        refine mj_iadd C dL_law_460 ?_
        refine mj_sld C S dL_law_461 ?_
        refine mj_aload_nR C 0 dL_law_462 (i := 0) rfl rfl ?_
        refine mj_iload_n C 3 dL_law_463 (i := 3) rfl rfl ?_
        refine mj_iconst C (v := 2) dL_law_464 rfl ?_
        refine mj_iadd C dL_law_465 ?_
        refine mj_sld C S dL_law_466 ?_
        refine mj_phi1 475 (fun (v_37 : Bool) => [(0, .ref b0), (1, rf K 0), (2, rf K 84), (3, .int l3)]) (fun (v_37 : Bool) => [.int (md_bi v_37), .int (xs ((l3 + (1 : Int32))).toNatClampNeg), rf K 0]) (fun (v_37 : Bool) => h) (fun P' kj_38 => ?_) (fun v_37 => ?_)
        · refine mj_if_eq C 474 dL_law_467 (by decide) ?_ ?_
          · refine mj_iconst C (v := 0) dL_law_474 rfl ?_
            exact mj_sub [0, 1, 2, 3] rfl (mj_some (kj_38 false))
          · refine mj_iconst C (v := 1) dL_law_470 rfl ?_
            refine mj_goto C 475 dL_law_471 (by decide) ?_
            exact mj_sub [0, 1, 2, 3] rfl (mj_some (kj_38 true))
        · refine mj_vIM C my_X7_register mv_L_58 dL_law_475 sh_0 rfl (fun a hF => ctX7_register K h (xs ((l3 + (1 : Int32))).toNatClampNeg) v_37  hF) (by decide) (by decide) rfl rfl (Nat.le_of_ble_eq_true rfl) (fun r_39 h_40 => ?_)
          refine mj_aload_n C 2 dL_law_478 (i := 2) rfl rfl ?_
          refine mj_aload_nR C 0 dL_law_479 (i := 0) rfl rfl ?_
          refine mj_iload_n C 3 dL_law_480 (i := 3) rfl rfl ?_
          refine mj_iconst C (v := 1) dL_law_481 rfl ?_
          refine mj_iadd C dL_law_482 ?_
          refine mj_sld C S dL_law_483 ?_
          refine mj_aload_nR C 0 dL_law_484 (i := 0) rfl rfl ?_
          refine mj_iload_n C 3 dL_law_485 (i := 3) rfl rfl ?_
          refine mj_iconst C (v := 2) dL_law_486 rfl ?_
          refine mj_iadd C dL_law_487 ?_
          refine mj_sld C S dL_law_488 ?_
          refine mj_phi1 497 (fun (v_41 : Bool) => [(0, .ref b0), (1, rf K 0), (2, rf K 84), (3, .int l3)]) (fun (v_41 : Bool) => [.int (md_bi v_41), .int (xs ((l3 + (1 : Int32))).toNatClampNeg), rf K 84, .int r_39]) (fun (v_41 : Bool) => h_40) (fun P' kj_42 => ?_) (fun v_41 => ?_)
          · refine mj_if_eq C 496 dL_law_489 (by decide) ?_ ?_
            · refine mj_iconst C (v := 0) dL_law_496 rfl ?_
              exact mj_sub [0, 1, 2, 3] rfl (mj_some (kj_42 false))
            · refine mj_iconst C (v := 1) dL_law_492 rfl ?_
              refine mj_goto C 497 dL_law_493 (by decide) ?_
              exact mj_sub [0, 1, 2, 3] rfl (mj_some (kj_42 true))
          · refine mj_vIM C my_X8_register mv_L_61 dL_law_497 sh_84 rfl (fun a hF => ctX8_register K h_40 (xs ((l3 + (1 : Int32))).toNatClampNeg) v_41  hF) (by decide) (by decide) rfl rfl (Nat.le_of_ble_eq_true rfl) (fun r_43 h_44 => ?_)
            refine mj_icmp_eq C 1057 dL_law_500 (by decide) ?_ ?_
            · refine mj_iinc C (l3 + 4) 3 [(3, .int (l3 + 4)), (0, .ref b0), (1, rf K 0), (2, rf K 84)] dL_law_1057 rfl rfl (by decide) rfl ?_
              refine mj_goto C 18 dL_law_1060 (by decide) ?_
              exact mj_sub [1, 2, 3, 0] rfl (ih h_44 (l3 + 4) kk0)
            · refine mj_iconst C (v := 0) dL_law_503 rfl ?_
              exact mj_none
      refine mj_tcase C 11 505 dL_law_32 (by decide) (by decide) rfl (by decide) ?_ ?_
      · refine mj_aload_n C 1 dL_law_505 (i := 1) rfl rfl ?_
        refine mj_aload_nR C 0 dL_law_506 (i := 0) rfl rfl ?_
        refine mj_iload_n C 3 dL_law_507 (i := 3) rfl rfl ?_
        refine mj_iconst C (v := 1) dL_law_508 rfl ?_
        refine mj_iadd C dL_law_509 ?_
        refine mj_sld C S dL_law_510 ?_
        refine mj_vIM C my_X7_drift mv_L_62 dL_law_511 sh_0 rfl (fun a hF => ctX7_drift K h (xs ((l3 + (1 : Int32))).toNatClampNeg)  hF) (by decide) (by decide) rfl rfl (Nat.le_of_ble_eq_true rfl) (fun r_45 h_46 => ?_)
        refine mj_aload_n C 2 dL_law_514 (i := 2) rfl rfl ?_
        refine mj_aload_nR C 0 dL_law_515 (i := 0) rfl rfl ?_
        refine mj_iload_n C 3 dL_law_516 (i := 3) rfl rfl ?_
        refine mj_iconst C (v := 1) dL_law_517 rfl ?_
        refine mj_iadd C dL_law_518 ?_
        refine mj_sld C S dL_law_519 ?_
        refine mj_vIM C my_X8_drift mv_L_65 dL_law_520 sh_84 rfl (fun a hF => ctX8_drift K h_46 (xs ((l3 + (1 : Int32))).toNatClampNeg)  hF) (by decide) (by decide) rfl rfl (Nat.le_of_ble_eq_true rfl) (fun r_47 h_48 => ?_)
        refine mj_icmp_eq C 1057 dL_law_523 (by decide) ?_ ?_
        · refine mj_iinc C (l3 + 4) 3 [(3, .int (l3 + 4)), (0, .ref b0), (1, rf K 0), (2, rf K 84)] dL_law_1057 rfl rfl (by decide) rfl ?_
          refine mj_goto C 18 dL_law_1060 (by decide) ?_
          exact mj_sub [1, 2, 3, 0] rfl (ih h_48 (l3 + 4) kk0)
        · refine mj_iconst C (v := 0) dL_law_526 rfl ?_
          exact mj_none
      refine mj_tcase C 12 528 dL_law_32 (by decide) (by decide) rfl (by decide) ?_ ?_
      · refine mj_aload_n C 1 dL_law_528 (i := 1) rfl rfl ?_
        refine mj_vIM C my_X7_undo mv_L_66 dL_law_529 sh_0 rfl (fun a hF => ctX7_undo K h   hF) (by decide) (by decide) rfl rfl (Nat.le_of_ble_eq_true rfl) (fun r_49 h_50 => ?_)
        refine mj_aload_n C 2 dL_law_532 (i := 2) rfl rfl ?_
        refine mj_vIM C my_X8_undo mv_L_69 dL_law_533 sh_84 rfl (fun a hF => ctX8_undo K h_50   hF) (by decide) (by decide) rfl rfl (Nat.le_of_ble_eq_true rfl) (fun r_51 h_52 => ?_)
        refine mj_icmp_eq C 1057 dL_law_536 (by decide) ?_ ?_
        · refine mj_iinc C (l3 + 4) 3 [(3, .int (l3 + 4)), (0, .ref b0), (1, rf K 0), (2, rf K 84)] dL_law_1057 rfl rfl (by decide) rfl ?_
          refine mj_goto C 18 dL_law_1060 (by decide) ?_
          exact mj_sub [1, 2, 3, 0] rfl (ih h_52 (l3 + 4) kk0)
        · refine mj_iconst C (v := 0) dL_law_539 rfl ?_
          exact mj_none
      refine mj_tcase C 13 541 dL_law_32 (by decide) (by decide) rfl (by decide) ?_ ?_
      · refine mj_aload_n C 1 dL_law_541 (i := 1) rfl rfl ?_
        refine mj_aload_nR C 0 dL_law_542 (i := 0) rfl rfl ?_
        refine mj_iload_n C 3 dL_law_543 (i := 3) rfl rfl ?_
        refine mj_iconst C (v := 1) dL_law_544 rfl ?_
        refine mj_iadd C dL_law_545 ?_
        refine mj_sld C S dL_law_546 ?_
        refine mj_vI C my_X7_follows mv_L_70 dL_law_547 sh_0 rfl (fun a hF => ctX7_follows K h (xs ((l3 + (1 : Int32))).toNatClampNeg)  hF) (by decide) (by decide) rfl rfl (Nat.le_of_ble_eq_true rfl) (fun r_53 => ?_)
        refine mj_aload_n C 2 dL_law_550 (i := 2) rfl rfl ?_
        refine mj_aload_nR C 0 dL_law_551 (i := 0) rfl rfl ?_
        refine mj_iload_n C 3 dL_law_552 (i := 3) rfl rfl ?_
        refine mj_iconst C (v := 1) dL_law_553 rfl ?_
        refine mj_iadd C dL_law_554 ?_
        refine mj_sld C S dL_law_555 ?_
        refine mj_vI C my_X8_follows mv_L_73 dL_law_556 sh_84 rfl (fun a hF => ctX8_follows K h (xs ((l3 + (1 : Int32))).toNatClampNeg)  hF) (by decide) (by decide) rfl rfl (Nat.le_of_ble_eq_true rfl) (fun r_54 => ?_)
        refine mj_icmp_eq C 1057 dL_law_559 (by decide) ?_ ?_
        · refine mj_iinc C (l3 + 4) 3 [(3, .int (l3 + 4)), (0, .ref b0), (1, rf K 0), (2, rf K 84)] dL_law_1057 rfl rfl (by decide) rfl ?_
          refine mj_goto C 18 dL_law_1060 (by decide) ?_
          exact mj_sub [1, 2, 3, 0] rfl (ih h (l3 + 4) kk0)
        · refine mj_iconst C (v := 0) dL_law_562 rfl ?_
          exact mj_none
      refine mj_tcase C 14 564 dL_law_32 (by decide) (by decide) rfl (by decide) ?_ ?_
      · refine mj_aload_n C 1 dL_law_564 (i := 1) rfl rfl ?_
        refine mj_aload_nR C 0 dL_law_565 (i := 0) rfl rfl ?_
        refine mj_iload_n C 3 dL_law_566 (i := 3) rfl rfl ?_
        refine mj_iconst C (v := 1) dL_law_567 rfl ?_
        refine mj_iadd C dL_law_568 ?_
        refine mj_sld C S dL_law_569 ?_
        refine mj_vI C my_X7_owed mv_L_74 dL_law_570 sh_0 rfl (fun a hF => ctX7_owed K h (xs ((l3 + (1 : Int32))).toNatClampNeg)  hF) (by decide) (by decide) rfl rfl (Nat.le_of_ble_eq_true rfl) (fun r_55 => ?_)
        refine mj_aload_n C 2 dL_law_573 (i := 2) rfl rfl ?_
        refine mj_aload_nR C 0 dL_law_574 (i := 0) rfl rfl ?_
        refine mj_iload_n C 3 dL_law_575 (i := 3) rfl rfl ?_
        refine mj_iconst C (v := 1) dL_law_576 rfl ?_
        refine mj_iadd C dL_law_577 ?_
        refine mj_sld C S dL_law_578 ?_
        refine mj_vI C my_X8_owed mv_L_77 dL_law_579 sh_84 rfl (fun a hF => ctX8_owed K h (xs ((l3 + (1 : Int32))).toNatClampNeg)  hF) (by decide) (by decide) rfl rfl (Nat.le_of_ble_eq_true rfl) (fun r_56 => ?_)
        refine mj_icmp_eq C 1057 dL_law_582 (by decide) ?_ ?_
        · refine mj_iinc C (l3 + 4) 3 [(3, .int (l3 + 4)), (0, .ref b0), (1, rf K 0), (2, rf K 84)] dL_law_1057 rfl rfl (by decide) rfl ?_
          refine mj_goto C 18 dL_law_1060 (by decide) ?_
          exact mj_sub [1, 2, 3, 0] rfl (ih h (l3 + 4) kk0)
        · refine mj_iconst C (v := 0) dL_law_585 rfl ?_
          exact mj_none
      refine mj_tcase C 15 587 dL_law_32 (by decide) (by decide) rfl (by decide) ?_ ?_
      · refine mj_aload_n C 1 dL_law_587 (i := 1) rfl rfl ?_
        refine mj_aload_nR C 0 dL_law_588 (i := 0) rfl rfl ?_
        refine mj_iload_n C 3 dL_law_589 (i := 3) rfl rfl ?_
        refine mj_iconst C (v := 1) dL_law_590 rfl ?_
        refine mj_iadd C dL_law_591 ?_
        refine mj_sld C S dL_law_592 ?_
        refine mj_aload_nR C 0 dL_law_593 (i := 0) rfl rfl ?_
        refine mj_iload_n C 3 dL_law_594 (i := 3) rfl rfl ?_
        refine mj_iconst C (v := 2) dL_law_595 rfl ?_
        refine mj_iadd C dL_law_596 ?_
        refine mj_sld C S dL_law_597 ?_
        refine mj_vI C my_X7_parts mv_L_78 dL_law_598 sh_0 rfl (fun a hF => ctX7_parts K h (xs ((l3 + (1 : Int32))).toNatClampNeg) (xs ((l3 + (2 : Int32))).toNatClampNeg)  hF) (by decide) (by decide) rfl rfl (Nat.le_of_ble_eq_true rfl) (fun r_57 => ?_)
        refine mj_aload_n C 2 dL_law_601 (i := 2) rfl rfl ?_
        refine mj_aload_nR C 0 dL_law_602 (i := 0) rfl rfl ?_
        refine mj_iload_n C 3 dL_law_603 (i := 3) rfl rfl ?_
        refine mj_iconst C (v := 1) dL_law_604 rfl ?_
        refine mj_iadd C dL_law_605 ?_
        refine mj_sld C S dL_law_606 ?_
        refine mj_aload_nR C 0 dL_law_607 (i := 0) rfl rfl ?_
        refine mj_iload_n C 3 dL_law_608 (i := 3) rfl rfl ?_
        refine mj_iconst C (v := 2) dL_law_609 rfl ?_
        refine mj_iadd C dL_law_610 ?_
        refine mj_sld C S dL_law_611 ?_
        refine mj_vI C my_X8_parts mv_L_81 dL_law_612 sh_84 rfl (fun a hF => ctX8_parts K h (xs ((l3 + (1 : Int32))).toNatClampNeg) (xs ((l3 + (2 : Int32))).toNatClampNeg)  hF) (by decide) (by decide) rfl rfl (Nat.le_of_ble_eq_true rfl) (fun r_58 => ?_)
        refine mj_icmp_eq C 1057 dL_law_615 (by decide) ?_ ?_
        · refine mj_iinc C (l3 + 4) 3 [(3, .int (l3 + 4)), (0, .ref b0), (1, rf K 0), (2, rf K 84)] dL_law_1057 rfl rfl (by decide) rfl ?_
          refine mj_goto C 18 dL_law_1060 (by decide) ?_
          exact mj_sub [1, 2, 3, 0] rfl (ih h (l3 + 4) kk0)
        · refine mj_iconst C (v := 0) dL_law_618 rfl ?_
          exact mj_none
      refine mj_tcase C 16 620 dL_law_32 (by decide) (by decide) rfl (by decide) ?_ ?_
      · refine mj_aload_n C 1 dL_law_620 (i := 1) rfl rfl ?_
        refine mj_aload_nR C 0 dL_law_621 (i := 0) rfl rfl ?_
        refine mj_iload_n C 3 dL_law_622 (i := 3) rfl rfl ?_
        refine mj_iconst C (v := 1) dL_law_623 rfl ?_
        refine mj_iadd C dL_law_624 ?_
        refine mj_sld C S dL_law_625 ?_
        refine mj_aload_nR C 0 dL_law_626 (i := 0) rfl rfl ?_
        refine mj_iload_n C 3 dL_law_627 (i := 3) rfl rfl ?_
        refine mj_iconst C (v := 2) dL_law_628 rfl ?_
        refine mj_iadd C dL_law_629 ?_
        refine mj_sld C S dL_law_630 ?_
        refine mj_aload_nR C 0 dL_law_631 (i := 0) rfl rfl ?_
        refine mj_iload_n C 3 dL_law_632 (i := 3) rfl rfl ?_
        refine mj_iconst C (v := 3) dL_law_633 rfl ?_
        refine mj_iadd C dL_law_634 ?_
        refine mj_sld C S dL_law_635 ?_
        refine mj_vIM C my_X7_talkDown mv_L_82 dL_law_636 sh_0 rfl (fun a hF => ctX7_talkDown K h (xs ((l3 + (1 : Int32))).toNatClampNeg) (xs ((l3 + (2 : Int32))).toNatClampNeg) (xs ((l3 + (3 : Int32))).toNatClampNeg)  hF) (by decide) (by decide) rfl rfl (Nat.le_of_ble_eq_true rfl) (fun r_59 h_60 => ?_)
        refine mj_aload_n C 2 dL_law_639 (i := 2) rfl rfl ?_
        refine mj_aload_nR C 0 dL_law_640 (i := 0) rfl rfl ?_
        refine mj_iload_n C 3 dL_law_641 (i := 3) rfl rfl ?_
        refine mj_iconst C (v := 1) dL_law_642 rfl ?_
        refine mj_iadd C dL_law_643 ?_
        refine mj_sld C S dL_law_644 ?_
        refine mj_aload_nR C 0 dL_law_645 (i := 0) rfl rfl ?_
        refine mj_iload_n C 3 dL_law_646 (i := 3) rfl rfl ?_
        refine mj_iconst C (v := 2) dL_law_647 rfl ?_
        refine mj_iadd C dL_law_648 ?_
        refine mj_sld C S dL_law_649 ?_
        refine mj_aload_nR C 0 dL_law_650 (i := 0) rfl rfl ?_
        refine mj_iload_n C 3 dL_law_651 (i := 3) rfl rfl ?_
        refine mj_iconst C (v := 3) dL_law_652 rfl ?_
        refine mj_iadd C dL_law_653 ?_
        refine mj_sld C S dL_law_654 ?_
        refine mj_vIM C my_X8_talkDown mv_L_85 dL_law_655 sh_84 rfl (fun a hF => ctX8_talkDown K h_60 (xs ((l3 + (1 : Int32))).toNatClampNeg) (xs ((l3 + (2 : Int32))).toNatClampNeg) (xs ((l3 + (3 : Int32))).toNatClampNeg)  hF) (by decide) (by decide) rfl rfl (Nat.le_of_ble_eq_true rfl) (fun r_61 h_62 => ?_)
        refine mj_icmp_eq C 1057 dL_law_658 (by decide) ?_ ?_
        · refine mj_iinc C (l3 + 4) 3 [(3, .int (l3 + 4)), (0, .ref b0), (1, rf K 0), (2, rf K 84)] dL_law_1057 rfl rfl (by decide) rfl ?_
          refine mj_goto C 18 dL_law_1060 (by decide) ?_
          exact mj_sub [1, 2, 3, 0] rfl (ih h_62 (l3 + 4) kk0)
        · refine mj_iconst C (v := 0) dL_law_661 rfl ?_
          exact mj_none
      refine mj_tcase C 17 663 dL_law_32 (by decide) (by decide) rfl (by decide) ?_ ?_
      · refine mj_aload_n C 1 dL_law_663 (i := 1) rfl rfl ?_
        refine mj_aload_nR C 0 dL_law_664 (i := 0) rfl rfl ?_
        refine mj_iload_n C 3 dL_law_665 (i := 3) rfl rfl ?_
        refine mj_iconst C (v := 1) dL_law_666 rfl ?_
        refine mj_iadd C dL_law_667 ?_
        refine mj_sld C S dL_law_668 ?_
        refine mj_vI C my_X7_soonest mv_L_86 dL_law_669 sh_0 rfl (fun a hF => ctX7_soonest K h (xs ((l3 + (1 : Int32))).toNatClampNeg)  hF) (by decide) (by decide) rfl rfl (Nat.le_of_ble_eq_true rfl) (fun r_63 => ?_)
        refine mj_aload_n C 2 dL_law_672 (i := 2) rfl rfl ?_
        refine mj_aload_nR C 0 dL_law_673 (i := 0) rfl rfl ?_
        refine mj_iload_n C 3 dL_law_674 (i := 3) rfl rfl ?_
        refine mj_iconst C (v := 1) dL_law_675 rfl ?_
        refine mj_iadd C dL_law_676 ?_
        refine mj_sld C S dL_law_677 ?_
        refine mj_vI C my_X8_soonest mv_L_89 dL_law_678 sh_84 rfl (fun a hF => ctX8_soonest K h (xs ((l3 + (1 : Int32))).toNatClampNeg)  hF) (by decide) (by decide) rfl rfl (Nat.le_of_ble_eq_true rfl) (fun r_64 => ?_)
        refine mj_icmp_eq C 1057 dL_law_681 (by decide) ?_ ?_
        · refine mj_iinc C (l3 + 4) 3 [(3, .int (l3 + 4)), (0, .ref b0), (1, rf K 0), (2, rf K 84)] dL_law_1057 rfl rfl (by decide) rfl ?_
          refine mj_goto C 18 dL_law_1060 (by decide) ?_
          exact mj_sub [1, 2, 3, 0] rfl (ih h (l3 + 4) kk0)
        · refine mj_iconst C (v := 0) dL_law_684 rfl ?_
          exact mj_none
      refine mj_tcase C 18 686 dL_law_32 (by decide) (by decide) rfl (by decide) ?_ ?_
      · refine mj_aload_n C 1 dL_law_686 (i := 1) rfl rfl ?_
        refine mj_aload_nR C 0 dL_law_687 (i := 0) rfl rfl ?_
        refine mj_iload_n C 3 dL_law_688 (i := 3) rfl rfl ?_
        refine mj_iconst C (v := 1) dL_law_689 rfl ?_
        refine mj_iadd C dL_law_690 ?_
        refine mj_sld C S dL_law_691 ?_
        refine mj_vI C my_X7_smallest mv_L_90 dL_law_692 sh_0 rfl (fun a hF => ctX7_smallest K h (xs ((l3 + (1 : Int32))).toNatClampNeg)  hF) (by decide) (by decide) rfl rfl (Nat.le_of_ble_eq_true rfl) (fun r_65 => ?_)
        refine mj_aload_n C 2 dL_law_695 (i := 2) rfl rfl ?_
        refine mj_aload_nR C 0 dL_law_696 (i := 0) rfl rfl ?_
        refine mj_iload_n C 3 dL_law_697 (i := 3) rfl rfl ?_
        refine mj_iconst C (v := 1) dL_law_698 rfl ?_
        refine mj_iadd C dL_law_699 ?_
        refine mj_sld C S dL_law_700 ?_
        refine mj_vI C my_X8_smallest mv_L_93 dL_law_701 sh_84 rfl (fun a hF => ctX8_smallest K h (xs ((l3 + (1 : Int32))).toNatClampNeg)  hF) (by decide) (by decide) rfl rfl (Nat.le_of_ble_eq_true rfl) (fun r_66 => ?_)
        refine mj_icmp_eq C 1057 dL_law_704 (by decide) ?_ ?_
        · refine mj_iinc C (l3 + 4) 3 [(3, .int (l3 + 4)), (0, .ref b0), (1, rf K 0), (2, rf K 84)] dL_law_1057 rfl rfl (by decide) rfl ?_
          refine mj_goto C 18 dL_law_1060 (by decide) ?_
          exact mj_sub [1, 2, 3, 0] rfl (ih h (l3 + 4) kk0)
        · refine mj_iconst C (v := 0) dL_law_707 rfl ?_
          exact mj_none
      refine mj_tcase C 19 709 dL_law_32 (by decide) (by decide) rfl (by decide) ?_ ?_
      · refine mj_aload_n C 1 dL_law_709 (i := 1) rfl rfl ?_
        refine mj_aload_nR C 0 dL_law_710 (i := 0) rfl rfl ?_
        refine mj_iload_n C 3 dL_law_711 (i := 3) rfl rfl ?_
        refine mj_iconst C (v := 1) dL_law_712 rfl ?_
        refine mj_iadd C dL_law_713 ?_
        refine mj_sld C S dL_law_714 ?_
        refine mj_aload_nR C 0 dL_law_715 (i := 0) rfl rfl ?_
        refine mj_iload_n C 3 dL_law_716 (i := 3) rfl rfl ?_
        refine mj_iconst C (v := 2) dL_law_717 rfl ?_
        refine mj_iadd C dL_law_718 ?_
        refine mj_sld C S dL_law_719 ?_
        refine mj_vI C my_X7_better mv_L_94 dL_law_720 sh_0 rfl (fun a hF => ctX7_better K h (xs ((l3 + (1 : Int32))).toNatClampNeg) (xs ((l3 + (2 : Int32))).toNatClampNeg)  hF) (by decide) (by decide) rfl rfl (Nat.le_of_ble_eq_true rfl) (fun r_67 => ?_)
        refine mj_aload_n C 2 dL_law_723 (i := 2) rfl rfl ?_
        refine mj_aload_nR C 0 dL_law_724 (i := 0) rfl rfl ?_
        refine mj_iload_n C 3 dL_law_725 (i := 3) rfl rfl ?_
        refine mj_iconst C (v := 1) dL_law_726 rfl ?_
        refine mj_iadd C dL_law_727 ?_
        refine mj_sld C S dL_law_728 ?_
        refine mj_aload_nR C 0 dL_law_729 (i := 0) rfl rfl ?_
        refine mj_iload_n C 3 dL_law_730 (i := 3) rfl rfl ?_
        refine mj_iconst C (v := 2) dL_law_731 rfl ?_
        refine mj_iadd C dL_law_732 ?_
        refine mj_sld C S dL_law_733 ?_
        refine mj_vI C my_X8_better mv_L_97 dL_law_734 sh_84 rfl (fun a hF => ctX8_better K h (xs ((l3 + (1 : Int32))).toNatClampNeg) (xs ((l3 + (2 : Int32))).toNatClampNeg)  hF) (by decide) (by decide) rfl rfl (Nat.le_of_ble_eq_true rfl) (fun r_68 => ?_)
        refine mj_icmp_eq C 1057 dL_law_737 (by decide) ?_ ?_
        · refine mj_iinc C (l3 + 4) 3 [(3, .int (l3 + 4)), (0, .ref b0), (1, rf K 0), (2, rf K 84)] dL_law_1057 rfl rfl (by decide) rfl ?_
          refine mj_goto C 18 dL_law_1060 (by decide) ?_
          exact mj_sub [1, 2, 3, 0] rfl (ih h (l3 + 4) kk0)
        · refine mj_iconst C (v := 0) dL_law_740 rfl ?_
          exact mj_none
      refine mj_tcase C 20 742 dL_law_32 (by decide) (by decide) rfl (by decide) ?_ ?_
      · refine mj_aload_n C 1 dL_law_742 (i := 1) rfl rfl ?_
        refine mj_aload_nR C 0 dL_law_743 (i := 0) rfl rfl ?_
        refine mj_iload_n C 3 dL_law_744 (i := 3) rfl rfl ?_
        refine mj_iconst C (v := 1) dL_law_745 rfl ?_
        refine mj_iadd C dL_law_746 ?_
        refine mj_sld C S dL_law_747 ?_
        refine mj_aload_nR C 0 dL_law_748 (i := 0) rfl rfl ?_
        refine mj_iload_n C 3 dL_law_749 (i := 3) rfl rfl ?_
        refine mj_iconst C (v := 2) dL_law_750 rfl ?_
        refine mj_iadd C dL_law_751 ?_
        refine mj_sld C S dL_law_752 ?_
        refine mj_vI C my_X7_gains mv_L_98 dL_law_753 sh_0 rfl (fun a hF => ctX7_gains K h (xs ((l3 + (1 : Int32))).toNatClampNeg) (xs ((l3 + (2 : Int32))).toNatClampNeg)  hF) (by decide) (by decide) rfl rfl (Nat.le_of_ble_eq_true rfl) (fun r_69 => ?_)
        refine mj_aload_n C 2 dL_law_756 (i := 2) rfl rfl ?_
        refine mj_aload_nR C 0 dL_law_757 (i := 0) rfl rfl ?_
        refine mj_iload_n C 3 dL_law_758 (i := 3) rfl rfl ?_
        refine mj_iconst C (v := 1) dL_law_759 rfl ?_
        refine mj_iadd C dL_law_760 ?_
        refine mj_sld C S dL_law_761 ?_
        refine mj_aload_nR C 0 dL_law_762 (i := 0) rfl rfl ?_
        refine mj_iload_n C 3 dL_law_763 (i := 3) rfl rfl ?_
        refine mj_iconst C (v := 2) dL_law_764 rfl ?_
        refine mj_iadd C dL_law_765 ?_
        refine mj_sld C S dL_law_766 ?_
        refine mj_vI C my_X8_gains mv_L_101 dL_law_767 sh_84 rfl (fun a hF => ctX8_gains K h (xs ((l3 + (1 : Int32))).toNatClampNeg) (xs ((l3 + (2 : Int32))).toNatClampNeg)  hF) (by decide) (by decide) rfl rfl (Nat.le_of_ble_eq_true rfl) (fun r_70 => ?_)
        refine mj_icmp_eq C 1057 dL_law_770 (by decide) ?_ ?_
        · refine mj_iinc C (l3 + 4) 3 [(3, .int (l3 + 4)), (0, .ref b0), (1, rf K 0), (2, rf K 84)] dL_law_1057 rfl rfl (by decide) rfl ?_
          refine mj_goto C 18 dL_law_1060 (by decide) ?_
          exact mj_sub [1, 2, 3, 0] rfl (ih h (l3 + 4) kk0)
        · refine mj_iconst C (v := 0) dL_law_773 rfl ?_
          exact mj_none
      refine mj_tcase C 21 775 dL_law_32 (by decide) (by decide) rfl (by decide) ?_ ?_
      · refine mj_aload_n C 1 dL_law_775 (i := 1) rfl rfl ?_
        refine mj_vI C my_X7_free mv_L_102 dL_law_776 sh_0 rfl (fun a hF => ctX7_free K h   hF) (by decide) (by decide) rfl rfl (Nat.le_of_ble_eq_true rfl) (fun r_71 => ?_)
        refine mj_aload_n C 2 dL_law_779 (i := 2) rfl rfl ?_
        refine mj_vI C my_X8_free mv_L_105 dL_law_780 sh_84 rfl (fun a hF => ctX8_free K h   hF) (by decide) (by decide) rfl rfl (Nat.le_of_ble_eq_true rfl) (fun r_72 => ?_)
        refine mj_icmp_eq C 1057 dL_law_783 (by decide) ?_ ?_
        · refine mj_iinc C (l3 + 4) 3 [(3, .int (l3 + 4)), (0, .ref b0), (1, rf K 0), (2, rf K 84)] dL_law_1057 rfl rfl (by decide) rfl ?_
          refine mj_goto C 18 dL_law_1060 (by decide) ?_
          exact mj_sub [1, 2, 3, 0] rfl (ih h (l3 + 4) kk0)
        · refine mj_iconst C (v := 0) dL_law_786 rfl ?_
          exact mj_none
      refine mj_tcase C 22 788 dL_law_32 (by decide) (by decide) rfl (by decide) ?_ ?_
      · refine mj_aload_n C 1 dL_law_788 (i := 1) rfl rfl ?_
        refine mj_aload_nR C 0 dL_law_789 (i := 0) rfl rfl ?_
        refine mj_iload_n C 3 dL_law_790 (i := 3) rfl rfl ?_
        refine mj_iconst C (v := 1) dL_law_791 rfl ?_
        refine mj_iadd C dL_law_792 ?_
        refine mj_sld C S dL_law_793 ?_
        refine mj_vI C my_X7_share mv_L_106 dL_law_794 sh_0 rfl (fun a hF => ctX7_share K h (xs ((l3 + (1 : Int32))).toNatClampNeg)  hF) (by decide) (by decide) rfl rfl (Nat.le_of_ble_eq_true rfl) (fun r_73 => ?_)
        refine mj_aload_n C 2 dL_law_797 (i := 2) rfl rfl ?_
        refine mj_aload_nR C 0 dL_law_798 (i := 0) rfl rfl ?_
        refine mj_iload_n C 3 dL_law_799 (i := 3) rfl rfl ?_
        refine mj_iconst C (v := 1) dL_law_800 rfl ?_
        refine mj_iadd C dL_law_801 ?_
        refine mj_sld C S dL_law_802 ?_
        refine mj_vI C my_X8_share mv_L_109 dL_law_803 sh_84 rfl (fun a hF => ctX8_share K h (xs ((l3 + (1 : Int32))).toNatClampNeg)  hF) (by decide) (by decide) rfl rfl (Nat.le_of_ble_eq_true rfl) (fun r_74 => ?_)
        refine mj_icmp_eq C 1057 dL_law_806 (by decide) ?_ ?_
        · refine mj_iinc C (l3 + 4) 3 [(3, .int (l3 + 4)), (0, .ref b0), (1, rf K 0), (2, rf K 84)] dL_law_1057 rfl rfl (by decide) rfl ?_
          refine mj_goto C 18 dL_law_1060 (by decide) ?_
          exact mj_sub [1, 2, 3, 0] rfl (ih h (l3 + 4) kk0)
        · refine mj_iconst C (v := 0) dL_law_809 rfl ?_
          exact mj_none
      refine mj_tcase C 23 811 dL_law_32 (by decide) (by decide) rfl (by decide) ?_ ?_
      · refine mj_aload_n C 1 dL_law_811 (i := 1) rfl rfl ?_
        refine mj_aload_nR C 0 dL_law_812 (i := 0) rfl rfl ?_
        refine mj_iload_n C 3 dL_law_813 (i := 3) rfl rfl ?_
        refine mj_iconst C (v := 1) dL_law_814 rfl ?_
        refine mj_iadd C dL_law_815 ?_
        refine mj_sld C S dL_law_816 ?_
        refine mj_vI C my_X7_glacier mv_L_110 dL_law_817 sh_0 rfl (fun a hF => ctX7_glacier K h (xs ((l3 + (1 : Int32))).toNatClampNeg)  hF) (by decide) (by decide) rfl rfl (Nat.le_of_ble_eq_true rfl) (fun r_75 => ?_)
        refine mj_aload_n C 2 dL_law_820 (i := 2) rfl rfl ?_
        refine mj_aload_nR C 0 dL_law_821 (i := 0) rfl rfl ?_
        refine mj_iload_n C 3 dL_law_822 (i := 3) rfl rfl ?_
        refine mj_iconst C (v := 1) dL_law_823 rfl ?_
        refine mj_iadd C dL_law_824 ?_
        refine mj_sld C S dL_law_825 ?_
        refine mj_vI C my_X8_glacier mv_L_113 dL_law_826 sh_84 rfl (fun a hF => ctX8_glacier K h (xs ((l3 + (1 : Int32))).toNatClampNeg)  hF) (by decide) (by decide) rfl rfl (Nat.le_of_ble_eq_true rfl) (fun r_76 => ?_)
        refine mj_icmp_eq C 1057 dL_law_829 (by decide) ?_ ?_
        · refine mj_iinc C (l3 + 4) 3 [(3, .int (l3 + 4)), (0, .ref b0), (1, rf K 0), (2, rf K 84)] dL_law_1057 rfl rfl (by decide) rfl ?_
          refine mj_goto C 18 dL_law_1060 (by decide) ?_
          exact mj_sub [1, 2, 3, 0] rfl (ih h (l3 + 4) kk0)
        · refine mj_iconst C (v := 0) dL_law_832 rfl ?_
          exact mj_none
      refine mj_tcase C 24 834 dL_law_32 (by decide) (by decide) rfl (by decide) ?_ ?_
      · refine mj_aload_n C 1 dL_law_834 (i := 1) rfl rfl ?_
        refine mj_aload_nR C 0 dL_law_835 (i := 0) rfl rfl ?_
        refine mj_iload_n C 3 dL_law_836 (i := 3) rfl rfl ?_
        refine mj_iconst C (v := 1) dL_law_837 rfl ?_
        refine mj_iadd C dL_law_838 ?_
        refine mj_sld C S dL_law_839 ?_
        refine mj_aload_nR C 0 dL_law_840 (i := 0) rfl rfl ?_
        refine mj_iload_n C 3 dL_law_841 (i := 3) rfl rfl ?_
        refine mj_iconst C (v := 2) dL_law_842 rfl ?_
        refine mj_iadd C dL_law_843 ?_
        refine mj_sld C S dL_law_844 ?_
        refine mj_aload_nR C 0 dL_law_845 (i := 0) rfl rfl ?_
        refine mj_iload_n C 3 dL_law_846 (i := 3) rfl rfl ?_
        refine mj_iconst C (v := 3) dL_law_847 rfl ?_
        refine mj_iadd C dL_law_848 ?_
        refine mj_sld C S dL_law_849 ?_
        refine mj_phi1 858 (fun (v_77 : Bool) => [(0, .ref b0), (1, rf K 0), (2, rf K 84), (3, .int l3)]) (fun (v_77 : Bool) => [.int (md_bi v_77), .int (xs ((l3 + (2 : Int32))).toNatClampNeg), .int (xs ((l3 + (1 : Int32))).toNatClampNeg), rf K 0]) (fun (v_77 : Bool) => h) (fun P' kj_78 => ?_) (fun v_77 => ?_)
        · refine mj_if_eq C 857 dL_law_850 (by decide) ?_ ?_
          · refine mj_iconst C (v := 0) dL_law_857 rfl ?_
            exact mj_sub [0, 1, 2, 3] rfl (mj_some (kj_78 false))
          · refine mj_iconst C (v := 1) dL_law_853 rfl ?_
            refine mj_goto C 858 dL_law_854 (by decide) ?_
            exact mj_sub [0, 1, 2, 3] rfl (mj_some (kj_78 true))
        · refine mj_vIM C my_X7_ask mv_L_114 dL_law_858 sh_0 rfl (fun a hF => ctX7_ask K h (xs ((l3 + (1 : Int32))).toNatClampNeg) (xs ((l3 + (2 : Int32))).toNatClampNeg) v_77  hF) (by decide) (by decide) rfl rfl (Nat.le_of_ble_eq_true rfl) (fun r_79 h_80 => ?_)
          refine mj_aload_n C 2 dL_law_861 (i := 2) rfl rfl ?_
          refine mj_aload_nR C 0 dL_law_862 (i := 0) rfl rfl ?_
          refine mj_iload_n C 3 dL_law_863 (i := 3) rfl rfl ?_
          refine mj_iconst C (v := 1) dL_law_864 rfl ?_
          refine mj_iadd C dL_law_865 ?_
          refine mj_sld C S dL_law_866 ?_
          refine mj_aload_nR C 0 dL_law_867 (i := 0) rfl rfl ?_
          refine mj_iload_n C 3 dL_law_868 (i := 3) rfl rfl ?_
          refine mj_iconst C (v := 2) dL_law_869 rfl ?_
          refine mj_iadd C dL_law_870 ?_
          refine mj_sld C S dL_law_871 ?_
          refine mj_aload_nR C 0 dL_law_872 (i := 0) rfl rfl ?_
          refine mj_iload_n C 3 dL_law_873 (i := 3) rfl rfl ?_
          refine mj_iconst C (v := 3) dL_law_874 rfl ?_
          refine mj_iadd C dL_law_875 ?_
          refine mj_sld C S dL_law_876 ?_
          refine mj_phi1 885 (fun (v_81 : Bool) => [(0, .ref b0), (1, rf K 0), (2, rf K 84), (3, .int l3)]) (fun (v_81 : Bool) => [.int (md_bi v_81), .int (xs ((l3 + (2 : Int32))).toNatClampNeg), .int (xs ((l3 + (1 : Int32))).toNatClampNeg), rf K 84, .int r_79]) (fun (v_81 : Bool) => h_80) (fun P' kj_82 => ?_) (fun v_81 => ?_)
          · refine mj_if_eq C 884 dL_law_877 (by decide) ?_ ?_
            · refine mj_iconst C (v := 0) dL_law_884 rfl ?_
              exact mj_sub [0, 1, 2, 3] rfl (mj_some (kj_82 false))
            · refine mj_iconst C (v := 1) dL_law_880 rfl ?_
              refine mj_goto C 885 dL_law_881 (by decide) ?_
              exact mj_sub [0, 1, 2, 3] rfl (mj_some (kj_82 true))
          · refine mj_vIM C my_X8_ask mv_L_118 dL_law_885 sh_84 rfl (fun a hF => ctX8_ask K h_80 (xs ((l3 + (1 : Int32))).toNatClampNeg) (xs ((l3 + (2 : Int32))).toNatClampNeg) v_81  hF) (by decide) (by decide) rfl rfl (Nat.le_of_ble_eq_true rfl) (fun r_83 h_84 => ?_)
            refine mj_icmp_eq C 1057 dL_law_888 (by decide) ?_ ?_
            · refine mj_iinc C (l3 + 4) 3 [(3, .int (l3 + 4)), (0, .ref b0), (1, rf K 0), (2, rf K 84)] dL_law_1057 rfl rfl (by decide) rfl ?_
              refine mj_goto C 18 dL_law_1060 (by decide) ?_
              exact mj_sub [1, 2, 3, 0] rfl (ih h_84 (l3 + 4) kk0)
            · refine mj_iconst C (v := 0) dL_law_891 rfl ?_
              exact mj_none
      refine mj_tcase C 25 893 dL_law_32 (by decide) (by decide) rfl (by decide) ?_ ?_
      · refine mj_aload_n C 1 dL_law_893 (i := 1) rfl rfl ?_
        refine mj_aload_nR C 0 dL_law_894 (i := 0) rfl rfl ?_
        refine mj_iload_n C 3 dL_law_895 (i := 3) rfl rfl ?_
        refine mj_iconst C (v := 1) dL_law_896 rfl ?_
        refine mj_iadd C dL_law_897 ?_
        refine mj_sld C S dL_law_898 ?_
        refine mj_vIM C my_X7_minds mv_L_119 dL_law_899 sh_0 rfl (fun a hF => ctX7_minds K h (xs ((l3 + (1 : Int32))).toNatClampNeg)  hF) (by decide) (by decide) rfl rfl (Nat.le_of_ble_eq_true rfl) (fun r_85 h_86 => ?_)
        refine mj_aload_n C 2 dL_law_902 (i := 2) rfl rfl ?_
        refine mj_aload_nR C 0 dL_law_903 (i := 0) rfl rfl ?_
        refine mj_iload_n C 3 dL_law_904 (i := 3) rfl rfl ?_
        refine mj_iconst C (v := 1) dL_law_905 rfl ?_
        refine mj_iadd C dL_law_906 ?_
        refine mj_sld C S dL_law_907 ?_
        refine mj_vI C my_X8_minds mv_L_122 dL_law_908 sh_84 rfl (fun a hF => ctX8_minds K h_86 (xs ((l3 + (1 : Int32))).toNatClampNeg)  hF) (by decide) (by decide) rfl rfl (Nat.le_of_ble_eq_true rfl) (fun r_87 => ?_)
        refine mj_icmp_eq C 1057 dL_law_911 (by decide) ?_ ?_
        · refine mj_iinc C (l3 + 4) 3 [(3, .int (l3 + 4)), (0, .ref b0), (1, rf K 0), (2, rf K 84)] dL_law_1057 rfl rfl (by decide) rfl ?_
          refine mj_goto C 18 dL_law_1060 (by decide) ?_
          exact mj_sub [1, 2, 3, 0] rfl (ih h_86 (l3 + 4) kk0)
        · refine mj_iconst C (v := 0) dL_law_914 rfl ?_
          exact mj_none
      refine mj_tcase C 26 916 dL_law_32 (by decide) (by decide) rfl (by decide) ?_ ?_
      · refine mj_aload_n C 1 dL_law_916 (i := 1) rfl rfl ?_
        refine mj_vIM C my_X7_askNext mv_L_123 dL_law_917 sh_0 rfl (fun a hF => ctX7_askNext K h   hF) (by decide) (by decide) rfl rfl (Nat.le_of_ble_eq_true rfl) (fun r_88 h_89 => ?_)
        refine mj_aload_n C 2 dL_law_920 (i := 2) rfl rfl ?_
        refine mj_vIM C my_X8_askNext mv_L_126 dL_law_921 sh_84 rfl (fun a hF => ctX8_askNext K h_89   hF) (by decide) (by decide) rfl rfl (Nat.le_of_ble_eq_true rfl) (fun r_90 h_91 => ?_)
        refine mj_icmp_eq C 1057 dL_law_924 (by decide) ?_ ?_
        · refine mj_iinc C (l3 + 4) 3 [(3, .int (l3 + 4)), (0, .ref b0), (1, rf K 0), (2, rf K 84)] dL_law_1057 rfl rfl (by decide) rfl ?_
          refine mj_goto C 18 dL_law_1060 (by decide) ?_
          exact mj_sub [1, 2, 3, 0] rfl (ih h_91 (l3 + 4) kk0)
        · refine mj_iconst C (v := 0) dL_law_927 rfl ?_
          exact mj_none
      refine mj_tcase C 27 929 dL_law_32 (by decide) (by decide) rfl (by decide) ?_ ?_
      · refine mj_aload_n C 1 dL_law_929 (i := 1) rfl rfl ?_
        refine mj_aload_nR C 0 dL_law_930 (i := 0) rfl rfl ?_
        refine mj_iload_n C 3 dL_law_931 (i := 3) rfl rfl ?_
        refine mj_iconst C (v := 1) dL_law_932 rfl ?_
        refine mj_iadd C dL_law_933 ?_
        refine mj_sld C S dL_law_934 ?_
        refine mj_aload_nR C 0 dL_law_935 (i := 0) rfl rfl ?_
        refine mj_iload_n C 3 dL_law_936 (i := 3) rfl rfl ?_
        refine mj_iconst C (v := 2) dL_law_937 rfl ?_
        refine mj_iadd C dL_law_938 ?_
        refine mj_sld C S dL_law_939 ?_
        refine mj_vIM C my_X7_write mv_L_127 dL_law_940 sh_0 rfl (fun a hF => ctX7_write K h (xs ((l3 + (1 : Int32))).toNatClampNeg) (xs ((l3 + (2 : Int32))).toNatClampNeg)  hF) (by decide) (by decide) rfl rfl (Nat.le_of_ble_eq_true rfl) (fun r_92 h_93 => ?_)
        refine mj_aload_n C 2 dL_law_943 (i := 2) rfl rfl ?_
        refine mj_aload_nR C 0 dL_law_944 (i := 0) rfl rfl ?_
        refine mj_iload_n C 3 dL_law_945 (i := 3) rfl rfl ?_
        refine mj_iconst C (v := 1) dL_law_946 rfl ?_
        refine mj_iadd C dL_law_947 ?_
        refine mj_sld C S dL_law_948 ?_
        refine mj_aload_nR C 0 dL_law_949 (i := 0) rfl rfl ?_
        refine mj_iload_n C 3 dL_law_950 (i := 3) rfl rfl ?_
        refine mj_iconst C (v := 2) dL_law_951 rfl ?_
        refine mj_iadd C dL_law_952 ?_
        refine mj_sld C S dL_law_953 ?_
        refine mj_vIM C my_X8_write mv_L_130 dL_law_954 sh_84 rfl (fun a hF => ctX8_write K h_93 (xs ((l3 + (1 : Int32))).toNatClampNeg) (xs ((l3 + (2 : Int32))).toNatClampNeg)  hF) (by decide) (by decide) rfl rfl (Nat.le_of_ble_eq_true rfl) (fun r_94 h_95 => ?_)
        refine mj_icmp_eq C 1057 dL_law_957 (by decide) ?_ ?_
        · refine mj_iinc C (l3 + 4) 3 [(3, .int (l3 + 4)), (0, .ref b0), (1, rf K 0), (2, rf K 84)] dL_law_1057 rfl rfl (by decide) rfl ?_
          refine mj_goto C 18 dL_law_1060 (by decide) ?_
          exact mj_sub [1, 2, 3, 0] rfl (ih h_95 (l3 + 4) kk0)
        · refine mj_iconst C (v := 0) dL_law_960 rfl ?_
          exact mj_none
      refine mj_tcase C 28 962 dL_law_32 (by decide) (by decide) rfl (by decide) ?_ ?_
      · refine mj_aload_n C 1 dL_law_962 (i := 1) rfl rfl ?_
        refine mj_vIM C my_X7_tear mv_L_131 dL_law_963 sh_0 rfl (fun a hF => ctX7_tear K h   hF) (by decide) (by decide) rfl rfl (Nat.le_of_ble_eq_true rfl) (fun r_96 h_97 => ?_)
        refine mj_aload_n C 2 dL_law_966 (i := 2) rfl rfl ?_
        refine mj_vIM C my_X8_tear mv_L_134 dL_law_967 sh_84 rfl (fun a hF => ctX8_tear K h_97   hF) (by decide) (by decide) rfl rfl (Nat.le_of_ble_eq_true rfl) (fun r_98 h_99 => ?_)
        refine mj_icmp_eq C 1057 dL_law_970 (by decide) ?_ ?_
        · refine mj_iinc C (l3 + 4) 3 [(3, .int (l3 + 4)), (0, .ref b0), (1, rf K 0), (2, rf K 84)] dL_law_1057 rfl rfl (by decide) rfl ?_
          refine mj_goto C 18 dL_law_1060 (by decide) ?_
          exact mj_sub [1, 2, 3, 0] rfl (ih h_99 (l3 + 4) kk0)
        · refine mj_iconst C (v := 0) dL_law_973 rfl ?_
          exact mj_none
      refine mj_tcase C 29 975 dL_law_32 (by decide) (by decide) rfl (by decide) ?_ ?_
      · refine mj_aload_n C 1 dL_law_975 (i := 1) rfl rfl ?_
        refine mj_vI C my_X7_judge mv_L_135 dL_law_976 sh_0 rfl (fun a hF => ctX7_judge K h   hF) (by decide) (by decide) rfl rfl (Nat.le_of_ble_eq_true rfl) (fun r_100 => ?_)
        refine mj_aload_n C 2 dL_law_979 (i := 2) rfl rfl ?_
        refine mj_vI C my_X8_judge mv_L_138 dL_law_980 sh_84 rfl (fun a hF => ctX8_judge K h   hF) (by decide) (by decide) rfl rfl (Nat.le_of_ble_eq_true rfl) (fun r_101 => ?_)
        refine mj_icmp_eq C 1057 dL_law_983 (by decide) ?_ ?_
        · refine mj_iinc C (l3 + 4) 3 [(3, .int (l3 + 4)), (0, .ref b0), (1, rf K 0), (2, rf K 84)] dL_law_1057 rfl rfl (by decide) rfl ?_
          refine mj_goto C 18 dL_law_1060 (by decide) ?_
          exact mj_sub [1, 2, 3, 0] rfl (ih h (l3 + 4) kk0)
        · refine mj_iconst C (v := 0) dL_law_986 rfl ?_
          exact mj_none
      refine mj_tcase C 30 988 dL_law_32 (by decide) (by decide) rfl (by decide) ?_ ?_
      · refine mj_aload_n C 1 dL_law_988 (i := 1) rfl rfl ?_
        refine mj_aload_nR C 0 dL_law_989 (i := 0) rfl rfl ?_
        refine mj_iload_n C 3 dL_law_990 (i := 3) rfl rfl ?_
        refine mj_iconst C (v := 1) dL_law_991 rfl ?_
        refine mj_iadd C dL_law_992 ?_
        refine mj_sld C S dL_law_993 ?_
        refine mj_vIM C my_X7_seed mv_L_139 dL_law_994 sh_0 rfl (fun a hF => ctX7_seed K h (xs ((l3 + (1 : Int32))).toNatClampNeg)  hF) (by decide) (by decide) rfl rfl (Nat.le_of_ble_eq_true rfl) (fun r_102 h_103 => ?_)
        refine mj_aload_n C 2 dL_law_997 (i := 2) rfl rfl ?_
        refine mj_aload_nR C 0 dL_law_998 (i := 0) rfl rfl ?_
        refine mj_iload_n C 3 dL_law_999 (i := 3) rfl rfl ?_
        refine mj_iconst C (v := 1) dL_law_1000 rfl ?_
        refine mj_iadd C dL_law_1001 ?_
        refine mj_sld C S dL_law_1002 ?_
        refine mj_vIM C my_X8_seed mv_L_142 dL_law_1003 sh_84 rfl (fun a hF => ctX8_seed K h_103 (xs ((l3 + (1 : Int32))).toNatClampNeg)  hF) (by decide) (by decide) rfl rfl (Nat.le_of_ble_eq_true rfl) (fun r_104 h_105 => ?_)
        refine mj_icmp_eq C 1057 dL_law_1006 (by decide) ?_ ?_
        · refine mj_iinc C (l3 + 4) 3 [(3, .int (l3 + 4)), (0, .ref b0), (1, rf K 0), (2, rf K 84)] dL_law_1057 rfl rfl (by decide) rfl ?_
          refine mj_goto C 18 dL_law_1060 (by decide) ?_
          exact mj_sub [1, 2, 3, 0] rfl (ih h_105 (l3 + 4) kk0)
        · refine mj_iconst C (v := 0) dL_law_1009 rfl ?_
          exact mj_none
      refine mj_tcase C 31 1011 dL_law_32 (by decide) (by decide) rfl (by decide) ?_ ?_
      · refine mj_aload_n C 1 dL_law_1011 (i := 1) rfl rfl ?_
        refine mj_aload_nR C 0 dL_law_1012 (i := 0) rfl rfl ?_
        refine mj_iload_n C 3 dL_law_1013 (i := 3) rfl rfl ?_
        refine mj_iconst C (v := 1) dL_law_1014 rfl ?_
        refine mj_iadd C dL_law_1015 ?_
        refine mj_sld C S dL_law_1016 ?_
        refine mj_vIM C my_X7_keep mv_L_143 dL_law_1017 sh_0 rfl (fun a hF => ctX7_keep K h (xs ((l3 + (1 : Int32))).toNatClampNeg)  hF) (by decide) (by decide) rfl rfl (Nat.le_of_ble_eq_true rfl) (fun r_106 h_107 => ?_)
        refine mj_aload_n C 2 dL_law_1020 (i := 2) rfl rfl ?_
        refine mj_aload_nR C 0 dL_law_1021 (i := 0) rfl rfl ?_
        refine mj_iload_n C 3 dL_law_1022 (i := 3) rfl rfl ?_
        refine mj_iconst C (v := 1) dL_law_1023 rfl ?_
        refine mj_iadd C dL_law_1024 ?_
        refine mj_sld C S dL_law_1025 ?_
        refine mj_vIM C my_X8_keep mv_L_146 dL_law_1026 sh_84 rfl (fun a hF => ctX8_keep K h_107 (xs ((l3 + (1 : Int32))).toNatClampNeg)  hF) (by decide) (by decide) rfl rfl (Nat.le_of_ble_eq_true rfl) (fun r_108 h_109 => ?_)
        refine mj_icmp_eq C 1057 dL_law_1029 (by decide) ?_ ?_
        · refine mj_iinc C (l3 + 4) 3 [(3, .int (l3 + 4)), (0, .ref b0), (1, rf K 0), (2, rf K 84)] dL_law_1057 rfl rfl (by decide) rfl ?_
          refine mj_goto C 18 dL_law_1060 (by decide) ?_
          exact mj_sub [1, 2, 3, 0] rfl (ih h_109 (l3 + 4) kk0)
        · refine mj_iconst C (v := 0) dL_law_1032 rfl ?_
          exact mj_none
      refine mj_tcase C 32 1034 dL_law_32 (by decide) (by decide) rfl (by decide) ?_ ?_
      · refine mj_aload_n C 1 dL_law_1034 (i := 1) rfl rfl ?_
        refine mj_aload_nR C 0 dL_law_1035 (i := 0) rfl rfl ?_
        refine mj_iload_n C 3 dL_law_1036 (i := 3) rfl rfl ?_
        refine mj_iconst C (v := 1) dL_law_1037 rfl ?_
        refine mj_iadd C dL_law_1038 ?_
        refine mj_sld C S dL_law_1039 ?_
        refine mj_vIM C my_X7_goBack mv_L_147 dL_law_1040 sh_0 rfl (fun a hF => ctX7_goBack K h (xs ((l3 + (1 : Int32))).toNatClampNeg)  hF) (by decide) (by decide) rfl rfl (Nat.le_of_ble_eq_true rfl) (fun r_110 h_111 => ?_)
        refine mj_aload_n C 2 dL_law_1043 (i := 2) rfl rfl ?_
        refine mj_aload_nR C 0 dL_law_1044 (i := 0) rfl rfl ?_
        refine mj_iload_n C 3 dL_law_1045 (i := 3) rfl rfl ?_
        refine mj_iconst C (v := 1) dL_law_1046 rfl ?_
        refine mj_iadd C dL_law_1047 ?_
        refine mj_sld C S dL_law_1048 ?_
        refine mj_vIM C my_X8_goBack mv_L_150 dL_law_1049 sh_84 rfl (fun a hF => ctX8_goBack K h_111 (xs ((l3 + (1 : Int32))).toNatClampNeg)  hF) (by decide) (by decide) rfl rfl (Nat.le_of_ble_eq_true rfl) (fun r_112 h_113 => ?_)
        refine mj_icmp_eq C 1057 dL_law_1052 (by decide) ?_ ?_
        · refine mj_iinc C (l3 + 4) 3 [(3, .int (l3 + 4)), (0, .ref b0), (1, rf K 0), (2, rf K 84)] dL_law_1057 rfl rfl (by decide) rfl ?_
          refine mj_goto C 18 dL_law_1060 (by decide) ?_
          exact mj_sub [1, 2, 3, 0] rfl (ih h_113 (l3 + 4) kk0)
        · refine mj_iconst C (v := 0) dL_law_1055 rfl ?_
          exact mj_none
      refine mj_tdflt2 C 1057 33 dL_law_32 (by decide) (by decide) (by decide) ?_
      refine mj_iinc C (l3 + 4) 3 [(3, .int (l3 + 4)), (0, .ref b0), (1, rf K 0), (2, rf K 84)] dL_law_1057 rfl rfl (by decide) rfl ?_
      refine mj_goto C 18 dL_law_1060 (by decide) ?_
      exact mj_sub [1, 2, 3, 0] rfl (ih h (l3 + 4) kk0)
