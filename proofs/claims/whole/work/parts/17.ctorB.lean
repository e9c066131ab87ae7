set_option maxRecDepth 100000 in
set_option maxHeartbeats 4000000 in
theorem cn_X6 (K : Kx) (pre : List Sh) (n : Nat) (hn0 : pre.length = n) (hfx : n = 1) (h : Mm) (hz : ∀ k, n ≤ k → h k = fun _ => 0) : Mn K yX6_init cX6_init 1 2 32 11 586 (pre ++ [.inl (6, [(3, 0), (0, 0), (0, 0), (0, 0), (0, 0), (0, 0), (3, 0)])]) (n + 0) h (pre ++ [.inl (6, [(1, 1 + 1), (0, 0), (0, 0), (0, 0), (0, 0), (0, 0), (2, 0)]), .inr (0, 240, 0, 0), .inl (1, [(0, 0), (0, 0), (0, 0), (0, 0), (1, 1 + 3), (0, 0), (1, 1 + 4), (1, 1 + 5), (1, 1 + 6), (0, 0), (1, 1 + 7), (1, 1 + 8), (1, 1 + 9), (0, 0), (0, 0), (1, 1 + 10), (1, 1 + 11)]), .inr (0, 8, 0, 0), .inr (0, 10, 0, 0), .inr (0, 10, 0, 0), .inr (0, 10, 0, 0), .inr (0, 10, 0, 0), .inr (0, 10, 0, 0), .inr (0, 10, 0, 0), .inr (0, 5, 0, 0), .inr (0, 256, 0, 0)]) (md_up (md_up h (1 + 0) 2 (-1)) (1 + 0) 6 (md_ex (1 + 2))) := by
  subst hfx
  have hn := hn0
  refine Mn.of (by decide) rfl (by decide) (fun Y C N I E => ?_)
  have C : Cx K Y (0, 0) cX6_init RX6 1 2 32 := C
  refine mj_aload_n C 0 dX6_init_0 (i := 0) rfl rfl ?_
  refine mj_obj C ol_X6_3 ob_i ob_c (by decide) (Nat.le_of_ble_eq_true rfl) dX6_init_1 ?_
  refine mj_aload_n C 0 dX6_init_4 (i := 0) rfl rfl ?_
  refine mj_sipush C (v := 240) dX6_init_5 rfl ?_
  refine mj_newI (SH' := pre ++ [.inl (6, [(3, 0), (0, 0), (0, 0), (0, 0), (0, 0), (0, 0), (3, 0)]), .inr (0, 240, 0, 0)]) C N 240 (1 + 1) (ap_len hn rfl) (ap_app rfl) (hz _ (by omega)) (by decide) (by decide) (by decide) ar_I (by decide) (by decide) dX6_init_8 (1, 240) rfl (fun C N => ?_)
  refine mj_putF (SH' := pre ++ [.inl (6, [(1, 1 + 1), (0, 0), (0, 0), (0, 0), (0, 0), (0, 0), (3, 0)]), .inr (0, 240, 0, 0)]) C N I fn_X6_9 dX6_init_10 (ap_get hn rfl) (Nat.le_of_ble_eq_true rfl) rfl (ap_set hn rfl) (fun _ => rfl) (fun _ => rfl) (fun N => ?_)
  refine mj_aload_n C 0 dX6_init_13 (i := 0) rfl rfl ?_
  refine mj_iconst C (v := -1) dX6_init_14 rfl ?_
  refine mj_put0 C fp_X6_15 dX6_init_15 (ap_get hn rfl) rfl rfl rfl ?_
  refine mj_aload_n C 0 dX6_init_18 (i := 0) rfl rfl ?_
  refine mj_new (SH' := pre ++ [.inl (6, [(1, 1 + 1), (0, 0), (0, 0), (0, 0), (0, 0), (0, 0), (3, 0)]), .inr (0, 240, 0, 0), .inl (1, [(0, 0), (0, 0), (0, 0), (0, 0), (3, 0), (0, 0), (3, 0), (3, 0), (3, 0), (0, 0), (3, 0), (3, 0), (3, 0), (0, 0), (0, 0), (3, 0), (3, 0)])]) C N tyX1 [(0, 0), (0, 0), (0, 0), (0, 0), (3, 0), (0, 0), (3, 0), (3, 0), (3, 0), (0, 0), (3, 0), (3, 0), (3, 0), (0, 0), (0, 0), (3, 0), (3, 0)] [.int 0, .int 0, .int 0, .int 0, .null, .int 0, .null, .null, .null, .int 0, .null, .null, .null, .int 0, .int 0, .null, .null] (1 + 2) (ap_len hn rfl) (ap_app rfl) rfl tyX1_ok okX1 cl_X6_19 ins_X1 nh_X1.2.2 (hzu (by omega) (hz _ (by omega))) rfl df_X1 (by decide) (by decide) dX6_init_19 (2, 257) rfl (fun C N => ?_)
  refine mj_dup C dX6_init_22 rfl ?_
  refine mj_ctN (SH' := pre ++ [.inl (6, [(1, 1 + 1), (0, 0), (0, 0), (0, 0), (0, 0), (0, 0), (3, 0)]), .inr (0, 240, 0, 0), .inl (1, [(0, 0), (0, 0), (0, 0), (0, 0), (1, 1 + 3), (0, 0), (1, 1 + 4), (1, 1 + 5), (1, 1 + 6), (0, 0), (1, 1 + 7), (1, 1 + 8), (1, 1 + 9), (0, 0), (0, 0), (1, 1 + 10), (1, 1 + 11)]), .inr (0, 8, 0, 0), .inr (0, 10, 0, 0), .inr (0, 10, 0, 0), .inr (0, 10, 0, 0), .inr (0, 10, 0, 0), .inr (0, 10, 0, 0), .inr (0, 10, 0, 0), .inr (0, 5, 0, 0), .inr (0, 256, 0, 0)]) C N my_X1_init mi_X1 (List.mem_of_getElem? (i := 1) rfl) rfl (h' := (md_up h (1 + 0) 2 (-1))) (cn_X1 K (pre ++ [.inl (6, [(1, 1 + 1), (0, 0), (0, 0), (0, 0), (0, 0), (0, 0), (3, 0)]), .inr (0, 240, 0, 0)]) (1 + 2) (ap_len hn rfl) (md_up h (1 + 0) 2 (-1)) (fun k hk => (hzu (by omega) (hz _ (by omega))))).as (ap_len2 rfl) (by decide) (by decide) (by decide) (by decide) (Nat.le_of_ble_eq_true rfl) dX6_init_23 (11, 586) rfl (fun C N => ?_)
  refine mj_putE (SH' := pre ++ [.inl (6, [(1, 1 + 1), (0, 0), (0, 0), (0, 0), (0, 0), (0, 0), (2, 0)]), .inr (0, 240, 0, 0), .inl (1, [(0, 0), (0, 0), (0, 0), (0, 0), (1, 1 + 3), (0, 0), (1, 1 + 4), (1, 1 + 5), (1, 1 + 6), (0, 0), (1, 1 + 7), (1, 1 + 8), (1, 1 + 9), (0, 0), (0, 0), (1, 1 + 10), (1, 1 + 11)]), .inr (0, 8, 0, 0), .inr (0, 10, 0, 0), .inr (0, 10, 0, 0), .inr (0, 10, 0, 0), .inr (0, 10, 0, 0), .inr (0, 10, 0, 0), .inr (0, 10, 0, 0), .inr (0, 5, 0, 0), .inr (0, 256, 0, 0)]) C N fp_X6_22 dX6_init_26 (ap_get hn rfl) (Nat.le_of_ble_eq_true rfl) rfl (ap_set hn rfl) (by decide) (fun _ => rfl) (fun _ => rfl) (fun N => ?_)
  exact mj_rN C N E dX6_init_29
theorem pT_s (n i : Nat) : pT n (i + 1) = pT n i ++ [.inl (4, [(1, n + 2 * i + 1), (0, 0), (0, 0), (0, 0), (0, 0)]), .inr (0, 5, 0, 0)] := by
  simp [pT, List.range_succ, List.flatMap_append]
theorem pT_l (n i : Nat) : (pT n i).length = 2 * i := by
  induction i with
  | zero => rfl
  | succ i ih => rw [pT_s, List.length_append, ih]; simp; omega
def pS (n i : Nat) : List Sh := [.inl (3, [(1, n + 1), (0, 0), (0, 0)]), .inr (2, 20, n + 2, i)] ++ pT (n + 2) i
theorem pS_l (n i : Nat) : (pS n i).length = 2 + 2 * i := by
  rw [pS, List.length_append, pT_l]; rfl
set_option maxRecDepth 100000 in
set_option maxHeartbeats 4000000 in
/-- the ring: at the loop's head with i posts made -/
theorem pst_loop {K : Kx} {Y : Yx} {pre : List Sh} {n : Nat} (hn : pre.length = n) {h : Mm} (hz : ∀ k, n ≤ k → h k = fun _ => 0) (E : EnN (pre ++ pS n 20) K Y h 41 220) :
    ∀ (d i : Nat), i + d = 20 → ∀ cs : Nat × Nat, cs = (1 + 2 * i, 20 + 10 * i) → Cx K Y cs cX3_init RX3 2 2 32 → Nx K Y (pre ++ pS n i) cs 41 220 → J (pre ++ pS n i) K Y cs True 15 [(1, .int (nI i)), (0, rf K (n + 0))] [] h := by
  intro d
  induction d with
  | zero =>
    intro i hi cs ecs C N
    have hi : i = 20 := by omega
    subst hi; subst ecs
    refine mj_iload_n C 0 dX3_init_15 (i := 1) rfl rfl ?_
    refine mj_bipush C (v := 20) dX3_init_16 rfl ?_
    refine mj_ge0 C 40 dX3_init_18 (by decide) (by decide) ?_
    exact mj_rN C N E dX3_init_40
  | succ d ih =>
    intro i hi cs ecs C N
    have hlt : i < 20 := by omega
    refine mj_iload_n C 0 dX3_init_15 (i := 1) rfl rfl ?_
    refine mj_bipush C (v := 20) dX3_init_16 rfl ?_
    refine mj_ge1 C 40 dX3_init_18 (by decide) (nI_ge hlt (by decide)) ?_
    refine mj_aload_n C 1 dX3_init_21 (i := 0) rfl rfl ?_
    refine mj_getR C ff_X3_11 dX3_init_22 (ap_get hn rfl) rfl ?_
    refine mj_iload_n C 0 dX3_init_25 (i := 1) rfl rfl ?_
    refine mj_new (SH' := pre ++ (pS n i ++ [.inl (4, [(3, 0), (0, 0), (0, 0), (0, 0), (0, 0)])])) C N tyX4 [(3, 0), (0, 0), (0, 0), (0, 0), (0, 0)] [.null, .int 0, .int 0, .int 0, .int 0] (n + (2 + 2 * i)) (ap_len hn (pS_l n i)) (List.append_assoc _ _ _) rfl tyX4_ok okX4 cl_X3_9 ins_X4 nh_X4.2.2 (hz _ (by omega)) rfl df_X4 (by rw [ecs]; simp only; omega) (by rw [ecs]; simp only; omega) dX3_init_26 _ rfl (fun C N => ?_)
    refine mj_dup C dX3_init_29 rfl ?_
    have hM := (cn_X4 K (pre ++ pS n i) (n + (2 + 2 * i)) (ap_len hn (pS_l n i)) h (fun k hk => hz k (by omega))).as
    refine mj_ctN (SH' := pre ++ (pS n i ++ [.inl (4, [(1, n + (2 + 2 * i) + 1), (0, 0), (0, 0), (0, 0), (0, 0)]), .inr (0, 5, 0, 0)])) C N my_X4_init mi_X4 (List.mem_of_getElem? (i := 3) rfl) rfl (h' := h) hM (ap_len2 (by simp only [List.length_append]; rfl)) (by decide) (by decide) (by rw [ecs]; simp only; omega) (by rw [ecs]; simp only; omega) (Nat.le_of_ble_eq_true rfl) dX3_init_30 _ rfl (fun C N => ?_)
    have e1 : (pS n i ++ ([.inl (4, [(1, n + (2 + 2 * i) + 1), (0, 0), (0, 0), (0, 0), (0, 0)]), .inr (0, 5, 0, 0)] : List Sh)).set 1 (.inr (2, 20, n + 2, i + 1)) = pS n (i + 1) := by
      rw [pS, pS, pT_s, show n + (2 + 2 * i) + 1 = n + 2 + 2 * i + 1 by omega]
      rfl
    refine mj_aast (SH' := pre ++ pS n (i + 1)) (q := n + 2) (n := 20) (z := i) (ks := [(1, n + (2 + 2 * i) + 1), (0, 0), (0, 0), (0, 0), (0, 0)]) C N dX3_init_33 (ap_get hn rfl) (ap_get hn ?_) (by omega) (nI_clamp (by omega)) ?_ (ap_set hn e1) (fun N => ?_)
    · rw [List.getElem?_append_right (by rw [pS_l]; exact Nat.le_refl _), pS_l, Nat.sub_self]; rfl
    · simp only [md_in, Bool.and_eq_true, Bool.not_eq_true', decide_eq_false_iff_not, decide_eq_true_eq]
      exact ⟨nI_pos (by omega), by rw [nI_clamp (by omega)]; exact hlt⟩
    refine mj_iinc C (nI (i + 1)) 0 [(1, .int (nI (i + 1))), (0, rf K (n + 0))] dX3_init_34 rfl (nI_1 i) (by decide) rfl ?_
    refine mj_goto C 15 dX3_init_37 (by decide) ?_
    exact ih (i + 1) (by omega) _ (by rw [ecs]; simp only [Prod.mk.injEq]; omega) C N
set_option maxRecDepth 100000 in
set_option maxHeartbeats 4000000 in
theorem cn_X3 (K : Kx) (pre : List Sh) (n : Nat) (hn : pre.length = n) (h : Mm) (hz : ∀ k, n ≤ k → h k = fun _ => 0) : Mn K yX3_init cX3_init 2 2 32 41 220 (pre ++ [.inl (3, [(3, 0), (0, 0), (0, 0)])]) (n + 0) h (pre ++ pS n 20) h := by
  refine Mn.of (by decide) rfl (by decide) (fun Y C N I E => ?_)
  have C : Cx K Y (0, 0) cX3_init RX3 2 2 32 := C
  refine mj_aload_n C 0 dX3_init_0 (i := 0) rfl rfl ?_
  refine mj_obj C ol_X3_3 ob_i ob_c (by decide) (Nat.le_of_ble_eq_true rfl) dX3_init_1 ?_
  refine mj_aload_n C 0 dX3_init_4 (i := 0) rfl rfl ?_
  refine mj_bipush C (v := 20) dX3_init_5 rfl ?_
  refine mj_newP (SH' := pre ++ [.inl (3, [(3, 0), (0, 0), (0, 0)]), .inr (2, 20, n + 2, 0)]) C N 20 (n + 1) (n + 2) (ap_len hn rfl) (ap_app rfl) (by decide) (by decide) (by decide) cl_X3_9 (by decide) (by decide) dX3_init_7 (1, 20) rfl (fun C N => ?_)
  refine mj_putF (SH' := pre ++ pS n 0) C N I fn_X3_11 dX3_init_10 (ap_get hn rfl) (Nat.le_of_ble_eq_true rfl) rfl (ap_set hn rfl) (fun _ => rfl) (fun _ => rfl) (fun N => ?_)
  refine mj_iconst C (v := 0) dX3_init_13 rfl ?_
  refine mj_istore_n C [(1, .int (nI 0)), (0, rf K (n + 0))] dX3_init_14 (i := 1) rfl (by decide) rfl ?_
  exact pst_loop hn hz E 20 0 rfl (1, 20) rfl C N
set_option maxRecDepth 100000 in
set_option maxHeartbeats 4000000 in
theorem cn_X2 (K : Kx) (pre : List Sh) (n : Nat) (hn : pre.length = n) (h : Mm) (hz : ∀ k, n ≤ k → h k = fun _ => 0) : Mn K yX2_init cX2_init 2 2 32 7 26 (pre ++ [.inl (2, [(3, 0), (3, 0), (3, 0)])]) (n + 0) h (pre ++ [.inl (2, [(1, n + 1), (1, n + 2), (1, n + 3)]), .inr (2, 2, n + 4, 2), .inr (0, 2, 0, 0), .inr (1, 2, 0, 0), .inl (4, [(1, n + 5), (0, 0), (0, 0), (0, 0), (0, 0)]), .inr (0, 5, 0, 0), .inl (4, [(1, n + 7), (0, 0), (0, 0), (0, 0), (0, 0)]), .inr (0, 5, 0, 0)]) h := by
  refine Mn.of (by decide) rfl (by decide) (fun Y C N I E => ?_)
  have C : Cx K Y (0, 0) cX2_init RX2 2 2 32 := C
  refine mj_aload_n C 0 dX2_init_0 (i := 0) rfl rfl ?_
  refine mj_obj C ol_X2_3 ob_i ob_c (by decide) (Nat.le_of_ble_eq_true rfl) dX2_init_1 ?_
  refine mj_aload_n C 0 dX2_init_4 (i := 0) rfl rfl ?_
  refine mj_iconst C (v := 2) dX2_init_5 rfl ?_
  refine mj_newP (SH' := pre ++ [.inl (2, [(3, 0), (3, 0), (3, 0)]), .inr (2, 2, n + 4, 0)]) C N 2 (n + 1) (n + 4) (ap_len hn rfl) (ap_app rfl) (by decide) (by decide) (by decide) cl_X2_9 (by decide) (by decide) dX2_init_6 (1, 2) rfl (fun C N => ?_)
  refine mj_putF (SH' := pre ++ [.inl (2, [(1, n + 1), (3, 0), (3, 0)]), .inr (2, 2, n + 4, 0)]) C N I fn_X2_11 dX2_init_9 (ap_get hn rfl) (Nat.le_of_ble_eq_true rfl) rfl (ap_set hn rfl) (fun _ => rfl) (fun _ => rfl) (fun N => ?_)
  refine mj_aload_n C 0 dX2_init_12 (i := 0) rfl rfl ?_
  refine mj_iconst C (v := 2) dX2_init_13 rfl ?_
  refine mj_newI (SH' := pre ++ [.inl (2, [(1, n + 1), (3, 0), (3, 0)]), .inr (2, 2, n + 4, 0), .inr (0, 2, 0, 0)]) C N 2 (n + 2) (ap_len hn rfl) (ap_app rfl) (hz _ (by omega)) (by decide) (by decide) (by decide) ar_I (by decide) (by decide) dX2_init_14 (2, 4) rfl (fun C N => ?_)
  refine mj_putF (SH' := pre ++ [.inl (2, [(1, n + 1), (1, n + 2), (3, 0)]), .inr (2, 2, n + 4, 0), .inr (0, 2, 0, 0)]) C N I fn_X2_17 dX2_init_16 (ap_get hn rfl) (Nat.le_of_ble_eq_true rfl) rfl (ap_set hn rfl) (fun _ => rfl) (fun _ => rfl) (fun N => ?_)
  refine mj_aload_n C 0 dX2_init_19 (i := 0) rfl rfl ?_
  refine mj_iconst C (v := 2) dX2_init_20 rfl ?_
  refine mj_newZ (SH' := pre ++ [.inl (2, [(1, n + 1), (1, n + 2), (3, 0)]), .inr (2, 2, n + 4, 0), .inr (0, 2, 0, 0), .inr (1, 2, 0, 0)]) C N 2 (n + 3) (ap_len hn rfl) (ap_app rfl) (hz _ (by omega)) (by decide) (by decide) (by decide) ar_Z (by decide) (by decide) dX2_init_21 (3, 6) rfl (fun C N => ?_)
  refine mj_putF (SH' := pre ++ [.inl (2, [(1, n + 1), (1, n + 2), (1, n + 3)]), .inr (2, 2, n + 4, 0), .inr (0, 2, 0, 0), .inr (1, 2, 0, 0)]) C N I fn_X2_21 dX2_init_23 (ap_get hn rfl) (Nat.le_of_ble_eq_true rfl) rfl (ap_set hn rfl) (fun _ => rfl) (fun _ => rfl) (fun N => ?_)
  refine mj_iconst C (v := 0) dX2_init_26 rfl ?_
  refine mj_istore_n C [(1, .int 0), (0, rf K (n + 0))] dX2_init_27 (i := 1) rfl (by decide) rfl ?_
  refine mj_iload_n C 0 dX2_init_28 (i := 1) rfl rfl ?_
  refine mj_iconst C (v := 2) dX2_init_29 rfl ?_
  refine mj_ge1 C 52 dX2_init_30 (by decide) (by decide) ?_
  refine mj_aload_n C 1 dX2_init_33 (i := 0) rfl rfl ?_
  refine mj_getR C ff_X2_11 dX2_init_34 (ap_get hn rfl) rfl ?_
  refine mj_iload_n C 0 dX2_init_37 (i := 1) rfl rfl ?_
  refine mj_new (SH' := pre ++ [.inl (2, [(1, n + 1), (1, n + 2), (1, n + 3)]), .inr (2, 2, n + 4, 0), .inr (0, 2, 0, 0), .inr (1, 2, 0, 0), .inl (4, [(3, 0), (0, 0), (0, 0), (0, 0), (0, 0)])]) C N tyX4 [(3, 0), (0, 0), (0, 0), (0, 0), (0, 0)] [.null, .int 0, .int 0, .int 0, .int 0] (n + 4) (ap_len hn rfl) (ap_app rfl) rfl tyX4_ok okX4 cl_X2_9 ins_X4 nh_X4.2.2 (hz _ (by omega)) rfl df_X4 (by decide) (by decide) dX2_init_38 (4, 11) rfl (fun C N => ?_)
  refine mj_dup C dX2_init_41 rfl ?_
  refine mj_ctN (SH' := pre ++ [.inl (2, [(1, n + 1), (1, n + 2), (1, n + 3)]), .inr (2, 2, n + 4, 0), .inr (0, 2, 0, 0), .inr (1, 2, 0, 0), .inl (4, [(1, n + 5), (0, 0), (0, 0), (0, 0), (0, 0)]), .inr (0, 5, 0, 0)]) C N my_X4_init mi_X4 (List.mem_of_getElem? (i := 4) rfl) rfl (h' := h) (cn_X4 K (pre ++ [.inl (2, [(1, n + 1), (1, n + 2), (1, n + 3)]), .inr (2, 2, n + 4, 0), .inr (0, 2, 0, 0), .inr (1, 2, 0, 0)]) (n + 4) (ap_len hn rfl) h (fun k hk => (hz _ (by omega)))).as (ap_len2 rfl) (by decide) (by decide) (by decide) (by decide) (Nat.le_of_ble_eq_true rfl) dX2_init_42 (5, 16) rfl (fun C N => ?_)
  refine mj_aast (SH' := pre ++ [.inl (2, [(1, n + 1), (1, n + 2), (1, n + 3)]), .inr (2, 2, n + 4, 1), .inr (0, 2, 0, 0), .inr (1, 2, 0, 0), .inl (4, [(1, n + 5), (0, 0), (0, 0), (0, 0), (0, 0)]), .inr (0, 5, 0, 0)]) C N dX2_init_45 (ap_get hn rfl) (ap_get hn rfl) (by omega) (by decide) (by decide) (ap_set hn rfl) (fun N => ?_)
  refine mj_iinc C 1 0 [(1, .int 1), (0, rf K (n + 0))] dX2_init_46 rfl rfl (by decide) rfl ?_
  refine mj_goto C 28 dX2_init_49 (by decide) ?_
  refine mj_iload_n C 0 dX2_init_28 (i := 1) rfl rfl ?_
  refine mj_iconst C (v := 2) dX2_init_29 rfl ?_
  refine mj_ge1 C 52 dX2_init_30 (by decide) (by decide) ?_
  refine mj_aload_n C 1 dX2_init_33 (i := 0) rfl rfl ?_
  refine mj_getR C ff_X2_11 dX2_init_34 (ap_get hn rfl) rfl ?_
  refine mj_iload_n C 0 dX2_init_37 (i := 1) rfl rfl ?_
  refine mj_new (SH' := pre ++ [.inl (2, [(1, n + 1), (1, n + 2), (1, n + 3)]), .inr (2, 2, n + 4, 1), .inr (0, 2, 0, 0), .inr (1, 2, 0, 0), .inl (4, [(1, n + 5), (0, 0), (0, 0), (0, 0), (0, 0)]), .inr (0, 5, 0, 0), .inl (4, [(3, 0), (0, 0), (0, 0), (0, 0), (0, 0)])]) C N tyX4 [(3, 0), (0, 0), (0, 0), (0, 0), (0, 0)] [.null, .int 0, .int 0, .int 0, .int 0] (n + 6) (ap_len hn rfl) (ap_app rfl) rfl tyX4_ok okX4 cl_X2_9 ins_X4 nh_X4.2.2 (hz _ (by omega)) rfl df_X4 (by decide) (by decide) dX2_init_38 (6, 21) rfl (fun C N => ?_)
  refine mj_dup C dX2_init_41 rfl ?_
  refine mj_ctN (SH' := pre ++ [.inl (2, [(1, n + 1), (1, n + 2), (1, n + 3)]), .inr (2, 2, n + 4, 1), .inr (0, 2, 0, 0), .inr (1, 2, 0, 0), .inl (4, [(1, n + 5), (0, 0), (0, 0), (0, 0), (0, 0)]), .inr (0, 5, 0, 0), .inl (4, [(1, n + 7), (0, 0), (0, 0), (0, 0), (0, 0)]), .inr (0, 5, 0, 0)]) C N my_X4_init mi_X4 (List.mem_of_getElem? (i := 4) rfl) rfl (h' := h) (cn_X4 K (pre ++ [.inl (2, [(1, n + 1), (1, n + 2), (1, n + 3)]), .inr (2, 2, n + 4, 1), .inr (0, 2, 0, 0), .inr (1, 2, 0, 0), .inl (4, [(1, n + 5), (0, 0), (0, 0), (0, 0), (0, 0)]), .inr (0, 5, 0, 0)]) (n + 6) (ap_len hn rfl) h (fun k hk => (hz _ (by omega)))).as (ap_len2 rfl) (by decide) (by decide) (by decide) (by decide) (Nat.le_of_ble_eq_true rfl) dX2_init_42 (7, 26) rfl (fun C N => ?_)
  refine mj_aast (SH' := pre ++ [.inl (2, [(1, n + 1), (1, n + 2), (1, n + 3)]), .inr (2, 2, n + 4, 2), .inr (0, 2, 0, 0), .inr (1, 2, 0, 0), .inl (4, [(1, n + 5), (0, 0), (0, 0), (0, 0), (0, 0)]), .inr (0, 5, 0, 0), .inl (4, [(1, n + 7), (0, 0), (0, 0), (0, 0), (0, 0)]), .inr (0, 5, 0, 0)]) C N dX2_init_45 (ap_get hn rfl) (ap_get hn rfl) (by omega) (by decide) (by decide) (ap_set hn rfl) (fun N => ?_)
  refine mj_iinc C 2 0 [(1, .int 2), (0, rf K (n + 0))] dX2_init_46 rfl rfl (by decide) rfl ?_
  refine mj_goto C 28 dX2_init_49 (by decide) ?_
  refine mj_iload_n C 0 dX2_init_28 (i := 1) rfl rfl ?_
  refine mj_iconst C (v := 2) dX2_init_29 rfl ?_
  refine mj_ge0 C 52 dX2_init_30 (by decide) (by decide) ?_
  exact mj_rN C N E dX2_init_52
