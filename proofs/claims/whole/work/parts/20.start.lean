/-! THE CLAIM OUT OF ONE WALK OF THE LAW'S BODY. Your part is whole_start (and what it stands on); all else here is the same for every law, but numbers. -/
def R_law : String := "MindDutyLaw"
def lw_P (b : Addr) (xs : List Int32) (args : Array Value) (s : State) : Prop := args = #[.ref b] ∧ s.IntsAt b xs ∧ xs.length ≤ 256 ∧ (Jvm.Cond.and given_1 narrow_1).before args s = true
def lw_Q (_ : Array Value) (s : State) (o : Outcome) (t : State) : Prop := o = .returned (some (.int 1)) ∧ Framed s o t [] 600000 7302250
def lw_Z (below : List Frame) (a : Array Value) (s : State) : State → Prop := fun t => ∃ o, t.status = .running ∧ Ended t below o ∧ lw_Q a s o t
/-- the law's own end, with 1 on the stack, nothing written that was there before, its room as the claim has it -/
theorem lw_ret {p : Program} {l : Launch} {e : Env} {s : State} {m : MethodId} {below : List Frame} {meth : Method} {c : Code} {b : Nat} (hx : p.tables.exec = Jvm.exec) (hb : c.code = code) (hr : meth.sig.returnType = ret) (hlocks : meth.locks = false) {pc : Nat} {H : Heap} {ls : Array Slot} (hdg : decode code pc = .ok (.ireturn, 1)) : W p l e room_1 s m #[Value.ref b] below meth c H [] 600000 7302250 (lw_Z below #[Value.ref b] s) (F0 m pc ls [.int 1]) := by
  intro T hT X
  obtain ⟨fs, hret, hrun, hended, hW, hframe⟩ := X.leave (v := some (.int 1)) (hlocks := hlocks) (fun h => by rw [hr] at h; cases h)
  have hmeth' : T.vm.method? m = some meth := X.method'
  refine ⟨T.setFrames fs, ?_, .returned (some (.int 1)), hrun, hended, rfl, ⟨_, rfl⟩, hW, hframe⟩
  jvm_step X.here [X.here.top, hx, hb, hdg, hmeth', hr, ret, narrow_b1]
  (try refine ⟨rfl, ?_⟩); (try refine ⟨rfl, ?_⟩)
  first | (intro acts; rw [hret _ acts rfl rfl rfl]) | rw [hret _ _ rfl rfl rfl]
  exact Steps.refl _
/-- what holds at the law's entry: the machine, the code, the tables' words (any of lw_tbl by 'hts w (by decide +kernel)'), the script of L ints xs at the cell b, what the Statement gives of the start (any of its parts by flat_of_before) -/
def lw_At (p : Program) (s : State) (m : MethodId) (meth : Method) (c : Code) (b L : Nat) (xs : Nat → Int32) : Prop :=
  p.tables.exec = Jvm.exec ∧ c.code = code ∧ meth.sig.returnType = ret ∧ c.maxLocals = 4 ∧ s.vm.findClass R_law = some m.cls ∧ (∀ w ∈ lw_tbl, w.before #[Value.ref b] s = true) ∧ va_X b L xs s s.heap ∧ b < s.heap.size ∧ meth.locks = false ∧ (Jvm.Cond.and given_1 narrow_1).before #[Value.ref b] s = true
theorem mz_map (K : Kx) (q : Nat) (ks : List (Nat × Nat)) : ks.mapIdx (fun j d => fv K (fun _ _ => 0) q j d) = ks.map (fun d => fv K (fun _ _ => 0) 0 0 d) := by
  apply List.ext_getElem?
  intro i
  simp only [List.getElem?_mapIdx, List.getElem?_map]
  cases ks[i]? with
  | none => rfl
  | some d => rfl
/-- the memory behind the two constructors -/
def md_h1 : Mm := md_up (md_up (md_up (fun _ _ => 0) 1 2 (-1)) 1 6 (md_ex 3)) 0 7 (md_ex 74)
def md_h2 : Mm := md_up (md_up md_h1 84 17 (-1)) 84 0 0
theorem md_h1z : ∀ k, 84 ≤ k → md_h1 k = fun _ => 0 := fun k hk => hzu (by omega) (hzu (by omega) (hzu (by omega) rfl))
theorem nw_in : ∀ q ∈ nwl, Cond.methodLinkNest q.1 q.2.1 q.2.2 RX7 ∈ lw_tbl := by
  intro q hq
  simp only [nwl, List.mem_cons, List.not_mem_nil, or_false] at hq
  rcases hq with rfl | rfl | rfl | rfl | rfl | rfl | rfl | rfl
  · exact List.mem_append_right _ (List.mem_append_left _ (List.mem_of_getElem? (i := 22) rfl))
  · exact List.mem_append_right _ (List.mem_append_left _ (List.mem_of_getElem? (i := 28) rfl))
  · exact List.mem_append_right _ (List.mem_append_left _ (List.mem_of_getElem? (i := 141) rfl))
  · exact List.mem_append_right _ (List.mem_append_left _ (List.mem_of_getElem? (i := 173) rfl))
  · exact List.mem_append_right _ (List.mem_append_left _ (List.mem_of_getElem? (i := 192) rfl))
  · exact List.mem_append_right _ (List.mem_append_left _ (List.mem_of_getElem? (i := 209) rfl))
  · exact List.mem_append_right _ (List.mem_append_right _ (List.mem_append_left _ (List.mem_of_getElem? (i := 4) rfl)))
  · exact List.mem_append_right _ (List.mem_append_right _ (List.mem_append_left _ (List.mem_of_getElem? (i := 20) rfl)))
theorem ao_in : Cond.arrayOver (.object RX4) ∈ lw_tbl := List.mem_append_right _ (List.mem_append_left _ (List.mem_of_getElem? (i := 172) rfl))
set_option maxRecDepth 100000 in
set_option maxHeartbeats 4000000 in
/-- the law from its entry, over what the pure functions say of its loop -/
theorem whole_open (hlaw : ∀ (L : Nat) (xs : Nat → Int32), L ≤ 256 → ∃ h', fL_law_18 md_N md_h2 xs L 0 = some h') {p : Program} {e : Env} {s : State} {m : MethodId} {below : List Frame} {meth : Method} {c : Code} (l : Launch) {b L : Nat} {xs : Nat → Int32} (hL : L ≤ 256) (C0 : lw_At p s m meth c b L xs) : W p l e room_1 s m #[Value.ref b] below meth c s.heap [] 0 0 (lw_Z below #[Value.ref b] s) (entryFrame m ([Value.ref b] : List Value).toArray 4) := by
  obtain ⟨hx, hb, hr, hml, hown, hts, hX, hbl, hlocks, hgv⟩ := id C0
  obtain ⟨c0, iS0, hKn0⟩ := u_known (C := RX0) (T := TX0) (N := 3) (n := 3) hts inX0 (hts _ (lw_ok_in ins_X0))
  obtain ⟨c1, iS1, hKn1⟩ := u_known (C := RX1) (T := TX1) (N := 17) (n := 17) hts inX1 (hts _ (lw_ok_in ins_X1))
  obtain ⟨c2, iS2, hKn2⟩ := u_known (C := RX2) (T := TX2) (N := 3) (n := 3) hts inX2 (hts _ (lw_ok_in ins_X2))
  obtain ⟨c3, iS3, hKn3⟩ := u_known (C := RX3) (T := TX3) (N := 3) (n := 3) hts inX3 (hts _ (lw_ok_in ins_X3))
  obtain ⟨c4, iS4, hKn4⟩ := u_known (C := RX4) (T := TX4) (N := 5) (n := 5) hts inX4 (hts _ (lw_ok_in ins_X4))
  obtain ⟨c5, iS5, hKn5⟩ := u_known (C := RX5) (T := TX5) (N := 8) (n := 8) hts inX5 (hts _ (lw_ok_in ins_X5))
  obtain ⟨c6, iS6, hKn6⟩ := u_known (C := RX6) (T := TX6) (N := 7) (n := 7) hts inX6 (hts _ (lw_ok_in ins_X6))
  obtain ⟨c7, iS7, hKn7⟩ := u_known (C := RX7) (T := TX7) (N := 9) (n := 9) hts inX7 (hts _ (lw_ok_in ins_X7))
  obtain ⟨c8, iS8, hKn8⟩ := u_known (C := RX8) (T := TX8) (N := 48) (n := 48) hts inX8 (hts _ (lw_ok_in ins_X8))
  obtain ⟨dC, dI, hKc⟩ : ∃ (dC : Nat → ClassId) (dI : Nat → Nat → Nat), ∀ (k : Nat) (q : vw_C), vwCl[k]? = some q → u_Kn s q.1 q.2.1 q.2.2 (dC k) (dI k) := by
    refine ⟨fun k => match k with
      | 0 => c0
      | 1 => c1
      | 2 => c2
      | 3 => c3
      | 4 => c4
      | 5 => c5
      | 6 => c6
      | 7 => c7
      | _ => c8, fun k => match k with
      | 0 => iS0
      | 1 => iS1
      | 2 => iS2
      | 3 => iS3
      | 4 => iS4
      | 5 => iS5
      | 6 => iS6
      | 7 => iS7
      | _ => iS8, ?_⟩
    intro k q hq
    match k, hq with
    | 0, hq => cases hq; exact hKn0
    | 1, hq => cases hq; exact hKn1
    | 2, hq => cases hq; exact hKn2
    | 3, hq => cases hq; exact hKn3
    | 4, hq => cases hq; exact hKn4
    | 5, hq => cases hq; exact hKn5
    | 6, hq => cases hq; exact hKn6
    | 7, hq => cases hq; exact hKn7
    | 8, hq => cases hq; exact hKn8
    | k + 9, hq => simp [vwCl] at hq
  obtain ⟨cI, kI, pI, i1, i2, i3⟩ := Cond.arrayClass_spec (hts _ (lw_ok_in ar_I))
  obtain ⟨cZ, kZ, pZ, z1, z2, z3⟩ := Cond.arrayClass_spec (hts _ (lw_ok_in ar_Z))
  obtain ⟨pP, cP, kP, p1, p2, p3, p4, p5⟩ := Cond.arrayOver_spec (hts _ ao_in)
  obtain ⟨K, eK⟩ : ∃ K : Kx, K = (l, (dC, dI), (cI, cZ, cP), s.heap.size) := ⟨_, rfl⟩
  have hK : va_K K.2.1 vwCl (kt K) s := by
    subst eK
    refine ⟨hKc, fun k q hq => ?_⟩
    match k, hq with
    | 0, hq => cases hq; exact ⟨fun n z => ⟨fun k h => (by cases h), kI, i2, pI, i3⟩, i1⟩
    | 1, hq => cases hq; exact ⟨fun n z => ⟨fun k h => (by cases h), kZ, z2, pZ, z3⟩, z1⟩
    | 2, hq => cases hq; exact ⟨fun n z => ⟨fun k h => (by cases h), kP, p3, pP, p4⟩, kP, pP, p3, p4, p1, p5⟩
    | k + 3, hq => simp [kt] at hq
  have hkb : kb K = s.heap.size := by rw [eK]; rfl
  have hKl : K.1 = l := by rw [eK]
  obtain ⟨Y, eY⟩ : ∃ Y : Yx, Y = (p, e, room_1, s, m, #[Value.ref b], below, meth, c, lw_Z below #[Value.ref b] s, 4) := ⟨_, rfl⟩
  have C : Cx K Y (0, 0) cL_law RL 4 2000 80000 := by
    subst eY
    exact ⟨hx, hb, hml, hown, fun w hw => hts w (lw_ok_in hw), hK, Nat.zero_le _, Nat.zero_le _, by decide, by decide, rfl⟩
  have N : Nx K Y [] (0, 0) 600000 7302250 := by
    subst eY
    exact ⟨⟨fun q hq => va_Nw.of rfl (hts _ (nw_in q hq)), va_AO.of (hts _ ao_in)⟩, by rw [hkb]; exact Nat.le_refl _, by rw [hkb]; rfl, by decide, by decide⟩
  have S : Sx K Y b L xs := by
    subst eY
    exact ⟨hX, hbl, by rw [hkb]; exact hbl⟩
  have key : J [] K Y (0, 0) True 0 [(0, .ref b)] [] (fun _ _ => 0) := by
    refine mj_new (SH' := [] ++ [.inl (7, [(3, 0), (3, 0), (3, 0), (3, 0), (3, 0), (3, 0), (3, 0), (3, 0), (0, 0)])]) C N tyX7 [(3, 0), (3, 0), (3, 0), (3, 0), (3, 0), (3, 0), (3, 0), (3, 0), (0, 0)] [.null, .null, .null, .null, .null, .null, .null, .null, .int 0] 0 rfl rfl rfl tyX7_ok okX7 cl_L_7 ins_X7 nh_X7.2.2 rfl rfl df_X7 (by decide) (by decide) dL_law_0 (1, 9) rfl (fun C N => ?_)
    refine mj_dup C dL_law_3 rfl ?_
    refine mj_ctP (SH' := SHc.take 84) C N my_X7_init mi_X7 il_L_9 rfl (h' := md_h1) (cn_X7 K [] 0 rfl rfl (fun _ _ => 0) (fun _ _ => rfl)) rfl (by decide) (by decide) (by decide) (by decide) (Nat.le_of_ble_eq_true rfl) dL_law_4 (84, 1285) rfl (fun C N => ?_)
    refine mj_astore_n C [(1, rf K 0), (0, .ref b)] dL_law_7 (i := 1) rfl (by decide) rfl ?_
    refine mj_new (SH' := SHc.take 84 ++ [.inl (8, [(0, 0), (0, 0), (0, 0), (3, 0), (0, 0), (3, 0), (3, 0), (3, 0), (0, 0), (3, 0), (3, 0), (3, 0), (0, 0), (3, 0), (0, 0), (3, 0), (0, 0), (0, 0), (0, 0), (0, 0), (0, 0), (3, 0), (0, 0), (3, 0), (0, 0), (3, 0), (3, 0), (3, 0), (0, 0), (3, 0), (3, 0), (3, 0), (0, 0), (0, 0), (3, 0), (0, 0), (3, 0), (3, 0), (0, 0), (3, 0), (3, 0), (3, 0), (3, 0), (0, 0), (3, 0), (3, 0), (3, 0), (3, 0)])]) C N tyX8 [(0, 0), (0, 0), (0, 0), (3, 0), (0, 0), (3, 0), (3, 0), (3, 0), (0, 0), (3, 0), (3, 0), (3, 0), (0, 0), (3, 0), (0, 0), (3, 0), (0, 0), (0, 0), (0, 0), (0, 0), (0, 0), (3, 0), (0, 0), (3, 0), (0, 0), (3, 0), (3, 0), (3, 0), (0, 0), (3, 0), (3, 0), (3, 0), (0, 0), (0, 0), (3, 0), (0, 0), (3, 0), (3, 0), (0, 0), (3, 0), (3, 0), (3, 0), (3, 0), (0, 0), (3, 0), (3, 0), (3, 0), (3, 0)] [.int 0, .int 0, .int 0, .null, .int 0, .null, .null, .null, .int 0, .null, .null, .null, .int 0, .null, .int 0, .null, .int 0, .int 0, .int 0, .int 0, .int 0, .null, .int 0, .null, .int 0, .null, .null, .null, .int 0, .null, .null, .null, .int 0, .int 0, .null, .int 0, .null, .null, .int 0, .null, .null, .null, .null, .int 0, .null, .null, .null, .null] 84 rfl rfl rfl tyX8_ok okX8 cl_L_10 ins_X8 nh_X8.2.2 (md_h1z 84 (Nat.le_refl _)) ((mz_map K 84 _).trans rfl) df_X8 (by decide) (by decide) dL_law_8 (85, 1333) rfl (fun C N => ?_)
    refine mj_dup C dL_law_11 rfl ?_
    refine mj_ctP (SH' := SHc) C N my_X8_init mi_X8 il_L_12 rfl (h' := md_h2) (cn_X8 K (SHc.take 84) 84 rfl rfl md_h1 md_h1z) rfl (by decide) (by decide) (by decide) (by decide) (Nat.le_of_ble_eq_true rfl) dL_law_12 (113, 1991) rfl (fun C N => ?_)
    refine mj_astore_n C [(2, rf K 84), (1, rf K 0), (0, .ref b)] dL_law_15 (i := 2) rfl (by decide) rfl ?_
    refine mj_iconst C (v := 0) dL_law_16 rfl ?_
    refine mj_istore_n C [(3, .int 0), (2, rf K 84), (1, rf K 0), (0, .ref b)] dL_law_17 (i := 3) rfl (by decide) rfl ?_
    obtain ⟨h', hh⟩ := hlaw L xs hL
    refine mj_X (X' := mj_O (fL_law_18 md_N md_h2 xs L 0) (fun _ => True)) (fun _ => ⟨h', hh, trivial⟩) ?_
    refine mj_sub [3, 2, 1, 0] rfl (lL_law_18 xs L S C md_N md_h2 0 (fun hw => ?_))
    refine mj_iconst C (v := 1) dL_law_1063 rfl ?_
    subst eY
    intro _ H locs la hP hS hl
    refine va_forget (fun q hq => by rw [← hkb]; exact hS.2.2 q hq) ?_
    refine W.widen (k := 600000) (n := 7302250) (by decide) (by decide) ?_
    exact lw_ret hx hb hr hlocks dL_law_1064
  subst eY
  have hl := lv_entry ([.ref b]) (n := 4) (Nat.le_of_ble_eq_true rfl)
  rw [lg_entry_eq]
  have k0 := key trivial s.heap [] _ (fun k q h => by simp [wl] at h) va_S.rf hl
  rw [hKl] at k0
  exact k0
