/-! constructors: the world grows -/
def nwl : List (String × Nat × MethodName) := [(RX7, 9, yX6_init), (RX6, 21, yX1_init), (RX7, 18, yX4_init), (RX3, 17, yX4_init), (RX2, 25, yX4_init), (RX7, 39, yX5_init), (RX7, 46, yX0_init), (RX7, 57, yX1_init)]
def NW (U : State) : Prop := (∀ q ∈ nwl, va_Nw (.methodLinkNest q.1 q.2.1 q.2.2 RX7) U) ∧ va_AO RX4 U
theorem NW.warm {s U : State} (hW : s.WarmedH U.vm) (h : NW s) : NW U := ⟨fun q hq => (h.1 q hq).warmM hW, h.2.moved hW.alike⟩
theorem NW.same {u U : State} (h : u.vm = U.vm) (hN : NW u) : NW U := ⟨fun q hq => (hN.1 q hq).same rfl h, va_AO.moved (by rw [h]; exact Vm.Alike.refl U.vm) hN.2⟩
theorem wl_app (SH : List Sh) (x : Sh) (K : Kx) (h : Mm) : wl (SH ++ [x]) K h = wl SH K h ++ [(kb K + SH.length, ce K h SH.length x)] := by
  simp [wl, List.mapIdx_append]
theorem wl_setS {SH SH' : List Sh} {K : Kx} {h : Mm} {k : Nat} {sh : Sh} {x : va_E} (hs : SH.set k sh = SH') (hx : ce K h k sh = x) : (wl SH K h).set k (kb K + k, x) = wl SH' K h := by
  subst hs
  apply List.ext_getElem?
  intro i
  by_cases hi : i = k
  · subst hi
    by_cases hl : i < SH.length
    · rw [List.getElem?_set_self (by rw [wl_len]; exact hl), wl_at (List.getElem?_set_self hl), hx]
    · rw [List.getElem?_eq_none (by simp [wl_len]; omega), List.getElem?_eq_none (by simp [wl_len]; omega)]
  · rw [List.getElem?_set_ne (Ne.symm hi)]
    simp only [wl, List.getElem?_mapIdx]
    rw [List.getElem?_set_ne (Ne.symm hi)]
theorem q_is {SH : List Sh} {K : Kx} {h : Mm} {q : Nat} {x : va_E} {D : va_G} {cl : List vw_C} {H1 : Heap} (hP1 : va_P D cl (wl SH K h ++ [(q, x)]) H1) (hD1 : va_D (fun q => kb K ≤ q) (wl SH K h ++ [(q, x)])) (hz : H1.size ≤ kb K + SH.length + 1) : q = kb K + SH.length := by
  have e : (wl SH K h ++ [(q, x)])[SH.length]? = some (q, x) := by
    rw [List.getElem?_append_right (by rw [wl_len]; exact Nat.le_refl _), wl_len, Nat.sub_self]; rfl
  have h1 : q < H1.size := (hP1 _ _ e).lt
  have h2 : kb K ≤ q := hD1.2 _ _ e
  rcases Nat.lt_or_ge q (kb K + SH.length) with h3 | h3
  · exfalso
    have hk : q - kb K < SH.length := by omega
    have e2 : (wl SH K h ++ [(q, x)])[q - kb K]? = some (kb K + (q - kb K), ce K h (q - kb K) SH[q - kb K]) := by
      rw [List.getElem?_append_left (by rw [wl_len]; exact hk)]
      exact wl_at (List.getElem?_eq_getElem hk)
    have := hD1.1 _ _ _ _ e2 e (by show kb K + (q - kb K) = q; omega)
    omega
  · omega
theorem W_size {p : Program} {l : Launch} {e : Env} {R : Room} {s : State} {m : MethodId} {args : Array Value} {below : List Frame} {meth : Method} {c : Code} {H : Heap} {locs : List Loc} {cells slots : Nat} {Q : State → Prop} {g : JFrame} (k : H.size ≤ s.heap.size + cells → W p l e R s m args below meth c H locs cells slots Q g) : W p l e R s m args below meth c H locs cells slots Q g := fun T hT X => k (by rw [← hT]; exact X.heapSize) T hT X
theorem wl_szlo {SH : List Sh} {K : Kx} {h : Mm} {D : va_G} {cl : List vw_C} {H : Heap} (hP : va_P D cl (wl SH K h) H) (h0 : kb K ≤ H.size) : kb K + SH.length ≤ H.size := by
  rcases Nat.eq_zero_or_pos SH.length with h1 | h1
  · omega
  · have hk : SH.length - 1 < SH.length := by omega
    have := (hP _ _ (wl_at (List.getElem?_eq_getElem hk))).lt
    simp only at this
    omega
/-- what a method that makes cells stands on: nest links, the book of cells, its room -/
def Nx (K : Kx) (Y : Yx) (SH : List Sh) (cs : Nat × Nat) (mc ms : Nat) : Prop := match Y with
  | (p, e, R, s, m, args, below, meth, c, Q, nL) => NW s ∧ kb K ≤ s.heap.size ∧ s.heap.size + cs.1 = kb K + SH.length ∧ mc ≤ R.cells ∧ ms ≤ R.slots
def Ix (Y : Yx) : Prop := match Y with
  | (p, e, R, s, m, args, below, meth, c, Q, nL) => meth.name = "<init>"
def QjN (SH : List Sh) (K : Kx) (h : Mm) : Array Value → State → Outcome → State → Prop := fun _ st o t => o = .returned none ∧ va_P K.2.1 vwCl (wl SH K h) t.heap ∧ t.heap.size = kb K + SH.length ∧ va_F (fun q => kb K ≤ q) st t
def EnN (SH : List Sh) (K : Kx) (Y : Yx) (h : Mm) (mc ms : Nat) : Prop := match Y with
  | (p, e, R, s, m, args, below, meth, c, Q, nL) => Q = MQ below (QjN SH K h) args s mc ms (fun q => kb K ≤ q) ∧ meth.sig.returnType = none ∧ meth.locks = false
def Mn (K : Kx) (y : MethodName) (bs : ByteArray) (mL f lo mc ms : Nat) (SH : List Sh) (k : Nat) (h : Mm) (SH' : List Sh) (h' : Mm) : Prop :=
  Met K.1 y (.code y bs mL none :: lw_ok) ({ frames := f, cells := mc, slots := ms, locals := lo }) (va_Pc [rf K k] (fun U => va_P K.2.1 vwCl (wl SH K h) U.heap ∧ va_K K.2.1 vwCl (kt K) U ∧ U.heap.size = kb K + SH.length ∧ NW U)) (QjN SH' K h') mc ms (fun q => kb K ≤ q)
theorem Mn.of {K : Kx} {y : MethodName} {bs : ByteArray} {mL f lo mc ms k : Nat} {SH SH' : List Sh} {h h' : Mm} (hy : plainName y.cls = true) (hi : y.name = "<init>") (hm : 1 ≤ mL)
    (body : ∀ Y : Yx, Cx K Y (0, 0) bs y.cls mL f lo → Nx K Y SH (0, 0) mc ms → Ix Y → EnN SH' K Y h' mc ms → J SH K Y (0, 0) True 0 [(0, rf K k)] [] h) : Mn K y bs mL f lo mc ms SH k h SH' h' := by
  refine Met.ofW (cc := bs) (maxL := mL) (ret := none) hy rfl ?_
  intro p e s m args below meth c s₁ B hml hv
  obtain ⟨rfl, hP, hK, hsz, hN⟩ := hv
  have hts := atoms_spec (ws := .code y bs mL none :: lw_ok) B.pre
  have hown : s.vm.findClass y.cls = some m.cls := findClass_of_methodNamed B.named
  have k0 := body (p, e, (headSpec (.code y bs mL none :: lw_ok) { frames := f, cells := mc, slots := ms, locals := lo }).room, s, m, [rf K k].toArray, below, meth, c, MQ below (QjN SH' K h') [rf K k].toArray s mc ms (fun q => kb K ≤ q), mL) ⟨B.exec, B.bytes, hml, hown, fun w hw => hts w (List.mem_cons_of_mem _ hw), hK, Nat.zero_le _, Nat.zero_le _, Nat.le_refl _, Nat.le_refl _, rfl⟩ ⟨hN, by rw [hsz]; exact Nat.le_add_right _ _, hsz, Nat.le_refl _, Nat.le_refl _⟩ (show meth.name = "<init>" from ((name_of_methodNamed B.named B.method).1).trans hi) ⟨rfl, B.returns, B.notSynchronized⟩ trivial
  have hl := lv_entry [rf K k] (n := mL) hm
  rw [lg_entry_eq]
  exact k0 s.heap [] _ hP va_S.rf hl
theorem ap_get {pre T : List Sh} {n j : Nat} {x : Sh} (hn : pre.length = n) (h : T[j]? = some x) : (pre ++ T)[n + j]? = some x := by
  subst hn
  rw [List.getElem?_append_right (by omega), Nat.add_sub_cancel_left]; exact h
theorem ap_set {pre T T' : List Sh} {n j : Nat} {x : Sh} (hn : pre.length = n) (h : T.set j x = T') : (pre ++ T).set (n + j) x = pre ++ T' := by
  subst hn; subst h
  rw [List.set_append_right _ _ (by omega), Nat.add_sub_cancel_left]
theorem ap_app {pre T T' : List Sh} {x : Sh} (h : T ++ [x] = T') : (pre ++ T) ++ [x] = pre ++ T' := by
  subst h; rw [List.append_assoc]
theorem ap_len {pre T : List Sh} {n j : Nat} (hn : pre.length = n) (h : T.length = j) : (pre ++ T).length = n + j := by
  subst hn; subst h; rw [List.length_append]
section MJN
variable {SH SH' : List Sh} {K : Kx} {Y : Yx} {cs : Nat × Nat} {X : Prop} {pc : Nat} {ls : List (Nat × Value)} {st : List Value} {h : Mm} {cc : ByteArray} {own : String} {mL f lo mc ms : Nat}
theorem mj_new (C : Cx K Y cs cc own mL f lo) (Nn : Nx K Y SH cs mc ms) {idx ci N : Nat} {cn : String} {T : u_T} (ty : Nat → FieldType) (ks : List (Nat × Nat)) (fs : List Value) (q : Nat) (hq : SH.length = q) (happ : SH ++ [.inl (ci, ks)] = SH') (h1 : vwCl[ci]? = some (cn, T, N)) (hty : ∀ k, k < N → parseFieldDescriptor (T k).2.2.1 = some (ty k)) (hin : ∀ w ∈ u_ws cn T N, w ∈ lw_ok) (hcl : Cond.classLink own idx cn ∈ lw_ok) (hins : Cond.instantiable cn N ∈ lw_ok) (hini : Cond.initialized cn ∈ lw_ok)
    (hz : h q = fun _ => 0) (hfs : ks.mapIdx (fun j d => fv K (fun _ _ => 0) q j d) = fs) (hdef : ∀ j, j < N → defaultValue (ty j) = vp_V fs j) (hm : cs.1 + 1 ≤ mc) (hs : cs.2 + N ≤ ms) (hd : decode cc pc = .ok (.new idx, 3))
    (cs' : Nat × Nat) (hcs' : (cs.1 + 1, cs.2 + N) = cs') (kk : Cx K Y cs' cc own mL f lo → Nx K Y SH' cs' mc ms → J SH' K Y cs' X (pc + 3) ls (rf K q :: st) h) : J SH K Y cs X pc ls st h := by
  subst hq; subst happ; subst hcs'
  obtain ⟨p, e, R, s, m, args, below, meth, c, Q, nL⟩ := Y
  obtain ⟨hx, hb, hml, hown, hts, hK, hce, hcs, hfr, hlo, hnl⟩ := C
  obtain ⟨n1, n2, n3, n4, n5⟩ := Nn
  intro hX H locs la hP hS hL
  refine va_new hx hb hts hin ty hty hown (hts _ hcl) (hts _ hins) (hts _ hini) hK hP (wl_D SH K h) hS (fun q hq => Nat.le_trans n2 hq) h1 (fs := fs) hdef (by omega) (by omega) hd (fun q H1 hP1 hD1 hS1 => ?_)
  refine W_size (fun hz1 => ?_)
  have e := q_is hP1 hD1 (by omega)
  subst e
  have ew : ce K h SH.length (.inl (ci, ks)) = .inr (ci, fs) := by
    rw [← hfs]
    simp only [ce, fv, hz]
  have e2 := wl_app SH (.inl (ci, ks)) K h
  rw [ew] at e2
  rw [← e2] at hP1
  exact kk ⟨hx, hb, hml, hown, hts, hK, by simp only; omega, by simp only; omega, hfr, hlo, hnl⟩ ⟨n1, n2, by simp only [List.length_append, List.length_cons, List.length_nil]; omega, n4, n5⟩ hX H1 locs la hP1 hS1 hL
theorem mj_newI (C : Cx K Y cs cc own mL f lo) (Nn : Nx K Y SH cs mc ms) {v : Int32} (n q : Nat) (hq : SH.length = q) (happ : SH ++ [.inr (0, n, 0, 0)] = SH') (hz : h q = fun _ => 0) (hv : ¬ v < 0) (hv2 : v.toNatClampNeg = n) (hbytes : n * 4 ≤ 536870912) (hw : Cond.arrayClass .int ∈ lw_ok) (hm : cs.1 + 1 ≤ mc) (hs : cs.2 + n ≤ ms) (hd : decode cc pc = .ok (.newarray .int, 2))
    (cs' : Nat × Nat) (hcs' : (cs.1 + 1, cs.2 + n) = cs') (kk : Cx K Y cs' cc own mL f lo → Nx K Y SH' cs' mc ms → J SH' K Y cs' X (pc + 2) ls (rf K q :: st) h) : J SH K Y cs X pc ls (.int v :: st) h := by
  subst hq; subst happ; subst hcs'
  obtain ⟨p, e, R, s, m, args, below, meth, c, Q, nL⟩ := Y
  obtain ⟨hx, hb, hml, hown, hts, hK, hce, hcs, hfr, hlo, hnl⟩ := C
  obtain ⟨n1, n2, n3, n4, n5⟩ := Nn
  intro hX H locs la hP hS hL
  refine va_newa (atype := .int) hx hb (hts _ hw) (ty := .int) rfl hK hP (wl_D SH K h) hS (fun q hq => Nat.le_trans n2 hq) (N' := n) (a0 := (n, .inl (fun _ => 0))) (fun _ => rfl) hv hv2 hbytes (by omega) (by omega) hd (fun q cA H1 hK1 hP1 hD1 hS1 => ?_)
  have ec : cA = K.2.2.1.1 := Option.some.inj ((hK1.2 3 (cA, .int) rfl).2.symm.trans (hK.2 0 (K.2.2.1.1, .int) rfl).2)
  subst ec
  refine W_size (fun hz1 => ?_)
  have e := q_is hP1 hD1 (by omega)
  subst e
  have e2 := wl_app SH (.inr (0, n, 0, 0)) K h
  rw [show ce K h SH.length (.inr (0, n, 0, 0)) = .inl (K.2.2.1.1, n, .inl (fun _ => 0)) by simp only [ce, hz]] at e2
  rw [← e2] at hP1
  exact kk ⟨hx, hb, hml, hown, hts, hK, by simp only; omega, by simp only; omega, hfr, hlo, hnl⟩ ⟨n1, n2, by simp only [List.length_append, List.length_cons, List.length_nil]; omega, n4, n5⟩ hX H1 locs la hP1 hS1 hL
theorem mj_newZ (C : Cx K Y cs cc own mL f lo) (Nn : Nx K Y SH cs mc ms) {v : Int32} (n q : Nat) (hq : SH.length = q) (happ : SH ++ [.inr (1, n, 0, 0)] = SH') (hz : h q = fun _ => 0) (hv : ¬ v < 0) (hv2 : v.toNatClampNeg = n) (hbytes : n * 1 ≤ 536870912) (hw : Cond.arrayClass .boolean ∈ lw_ok) (hm : cs.1 + 1 ≤ mc) (hs : cs.2 + n ≤ ms) (hd : decode cc pc = .ok (.newarray .boolean, 2))
    (cs' : Nat × Nat) (hcs' : (cs.1 + 1, cs.2 + n) = cs') (kk : Cx K Y cs' cc own mL f lo → Nx K Y SH' cs' mc ms → J SH' K Y cs' X (pc + 2) ls (rf K q :: st) h) : J SH K Y cs X pc ls (.int v :: st) h := by
  subst hq; subst happ; subst hcs'
  obtain ⟨p, e, R, s, m, args, below, meth, c, Q, nL⟩ := Y
  obtain ⟨hx, hb, hml, hown, hts, hK, hce, hcs, hfr, hlo, hnl⟩ := C
  obtain ⟨n1, n2, n3, n4, n5⟩ := Nn
  intro hX H locs la hP hS hL
  refine va_newa (atype := .boolean) hx hb (hts _ hw) (ty := .boolean) rfl hK hP (wl_D SH K h) hS (fun q hq => Nat.le_trans n2 hq) (N' := n) (a0 := (n, .inl (fun _ => 0))) (fun _ => rfl) hv hv2 hbytes (by omega) (by omega) hd (fun q cA H1 hK1 hP1 hD1 hS1 => ?_)
  have ec : cA = K.2.2.1.2.1 := Option.some.inj ((hK1.2 3 (cA, .boolean) rfl).2.symm.trans (hK.2 1 (K.2.2.1.2.1, .boolean) rfl).2)
  subst ec
  refine W_size (fun hz1 => ?_)
  have e := q_is hP1 hD1 (by omega)
  subst e
  have e2 := wl_app SH (.inr (1, n, 0, 0)) K h
  rw [show ce K h SH.length (.inr (1, n, 0, 0)) = .inl (K.2.2.1.2.1, n, .inl (fun _ => 0)) by simp only [ce, hz]] at e2
  rw [← e2] at hP1
  exact kk ⟨hx, hb, hml, hown, hts, hK, by simp only; omega, by simp only; omega, hfr, hlo, hnl⟩ ⟨n1, n2, by simp only [List.length_append, List.length_cons, List.length_nil]; omega, n4, n5⟩ hX H1 locs la hP1 hS1 hL
theorem mj_newP (C : Cx K Y cs cc own mL f lo) (Nn : Nx K Y SH cs mc ms) {v : Int32} {idx : Nat} (n q q1 : Nat) (hq : SH.length = q) (happ : SH ++ [.inr (2, n, q1, 0)] = SH') (hv : ¬ v < 0) (hv2 : v.toNatClampNeg = n) (hbytes : n * 4 ≤ 536870912) (hcl : Cond.classLink own idx RX4 ∈ lw_ok) (hm : cs.1 + 1 ≤ mc) (hs : cs.2 + n ≤ ms) (hd : decode cc pc = .ok (.anewarray idx, 3))
    (cs' : Nat × Nat) (hcs' : (cs.1 + 1, cs.2 + n) = cs') (kk : Cx K Y cs' cc own mL f lo → Nx K Y SH' cs' mc ms → J SH' K Y cs' X (pc + 3) ls (rf K q :: st) h) : J SH K Y cs X pc ls (.int v :: st) h := by
  subst hq; subst happ; subst hcs'
  obtain ⟨p, e, R, s, m, args, below, meth, c, Q, nL⟩ := Y
  obtain ⟨hx, hb, hml, hown, hts, hK, hce, hcs, hfr, hlo, hnl⟩ := C
  obtain ⟨n1, n2, n3, n4, n5⟩ := Nn
  intro hX H locs la hP hS hL
  refine va_newq hx hb hown (hts _ hcl) n1.2 hK hP (wl_D SH K h) hS (fun q hq => Nat.le_trans n2 hq) (N' := n) hv hv2 hbytes (by omega) (by omega) hd (fun q cA H1 hK1 hP1 hD1 hS1 => ?_)
  have ec : cA = K.2.2.1.2.2 := by
    obtain ⟨_, _, _, _, _, g1⟩ := (hK1.2 3 (cA, .object RX4) rfl).2
    obtain ⟨_, _, _, _, _, g2⟩ := (hK.2 2 (K.2.2.1.2.2, .object RX4) rfl).2
    exact Option.some.inj (g1.symm.trans g2)
  subst ec
  refine W_size (fun hz1 => ?_)
  have e := q_is hP1 hD1 (by omega)
  subst e
  have e2 := wl_app SH (.inr (2, n, q1, 0)) K h
  rw [show ce K h SH.length (.inr (2, n, q1, 0)) = .inl (K.2.2.1.2.2, n, .inr (.inr (.inr (.inr (fun _ => none))))) by simp [ce]] at e2
  rw [← e2] at hP1
  exact kk ⟨hx, hb, hml, hown, hts, hK, by simp only; omega, by simp only; omega, hfr, hlo, hnl⟩ ⟨n1, n2, by simp only [List.length_append, List.length_cons, List.length_nil]; omega, n4, n5⟩ hX H1 locs la hP1 hS1 hL
/-- a final reference is set, once -/
def FFn (own : String) (idx ci j : Nat) (ty : FieldType) : Prop := ∃ (cn : String) (T : u_T) (N : Nat) (ty0 : Nat → FieldType), vwCl[ci]? = some (cn, T, N) ∧ j < N ∧ (∀ w ∈ u_ws cn T N, w ∈ lw_ok) ∧ Cond.fieldLink own idx (T j).1 (T j).2.1 (T j).2.2.1 ∈ lw_ok ∧ (∀ k, k < N → parseFieldDescriptor (T k).2.2.1 = some (ty0 k)) ∧ (∀ a, a < N → ∀ b, b < N → a ≠ b → (T a).2.1 ≠ (T b).2.1) ∧ (T j).2.2.2 = true ∧ (T j).1 = own ∧ parseFieldDescriptor (T j).2.2.1 = some ty
theorem ce_put {K : Kx} {h : Mm} {k j ci : Nat} {d : Nat × Nat} {v : Value} {ks : List (Nat × Nat)} (hv : fv K h k j d = v) : ce K h k (.inl (ci, ks.set j d)) = .inr (ci, (ks.mapIdx (fun j d => fv K h k j d)).set j v) := by
  simp only [ce, Sum.inr.injEq, Prod.mk.injEq, true_and]
  apply List.ext_getElem?
  intro i
  by_cases hi : i = j
  · subst hi
    by_cases hl : i < ks.length
    · simp only [List.getElem?_mapIdx, List.getElem?_set_self hl, Option.map_some, hv]
      rw [List.getElem?_set_self (by simpa using hl)]
    · rw [List.getElem?_eq_none (by simp; omega), List.getElem?_eq_none (by simp; omega)]
  · rw [List.getElem?_set_ne (Ne.symm hi)]
    simp only [List.getElem?_mapIdx]
    rw [List.getElem?_set_ne (Ne.symm hi)]
theorem mj_putF (C : Cx K Y cs cc own mL f lo) (Nn : Nx K Y SH cs mc ms) (I : Ix Y) {idx ci j k q : Nat} {ks ks' : List (Nat × Nat)} {ty : FieldType} (F : FFn own idx ci j ty) (hd : decode cc pc = .ok (.putfield idx, 3)) (hs : SH[k]? = some (.inl (ci, ks))) (hj : j < ks.length) (hk : ks.set j (1, q) = ks') (hset : SH.set k (.inl (ci, ks')) = SH') (hn : ∀ a, narrow ty (.ref a) = .ref a) (hf : ∀ a, fits ty (.ref a) = true) (kk : Nx K Y SH' cs mc ms → J SH' K Y cs X (pc + 3) ls st h) : J SH K Y cs X pc ls (rf K q :: rf K k :: st) h := by
  subst hk
  obtain ⟨p, e, R, s, m, args, below, meth, c, Q, nL⟩ := Y
  obtain ⟨hx, hb, hml, hown, hts, hK, hce, hcs, hfr, hlo, hnl⟩ := C
  obtain ⟨n1, n2, n3, n4, n5⟩ := Nn
  intro hX H locs la hP hS hL
  obtain ⟨cn, T, N, ty0, f1, f2, f3, f4, f5, f6, f7, f9, f8⟩ := F
  refine va_putF hx hb hts f3 ty0 f5 f6 hown hK hP (wl_D SH K h) hS k (wl_at hs) f1 j f2 (hts _ f4) (fun _ h9 => h9) f7 I f9 f8 (hn _) (hf _) (by simpa using hj) hd (fun H1 locs1 hP1 hD1 hS1 => ?_)
  rw [wl_setS hset (ce_put (v := rf K q) rfl)] at hP1
  exact kk ⟨n1, n2, by rw [← hset, List.length_set]; exact n3, n4, n5⟩ hX H1 locs1 la hP1 hS1 hL
/-- a reference that may change is set, for the first time -/
theorem mj_putE (C : Cx K Y cs cc own mL f lo) (Nn : Nx K Y SH cs mc ms) {idx ci j k q : Nat} {ks ks' : List (Nat × Nat)} {ty : FieldType} (F : FFp own idx ci j ty) (hd : decode cc pc = .ok (.putfield idx, 3)) (hs : SH[k]? = some (.inl (ci, ks))) (hj : j < ks.length) (hk : ks.set j (2, 0) = ks') (hset : SH.set k (.inl (ci, ks')) = SH') (hq : md_dx (md_ex q) = q) (hn : ∀ a, narrow ty (.ref a) = .ref a) (hf : ∀ a, fits ty (.ref a) = true) (kk : Nx K Y SH' cs mc ms → J SH' K Y cs X (pc + 3) ls st (md_up h k j (md_ex q))) : J SH K Y cs X pc ls (rf K q :: rf K k :: st) h := by
  subst hk
  obtain ⟨p, e, R, s, m, args, below, meth, c, Q, nL⟩ := Y
  obtain ⟨hx, hb, hml, hown, hts, hK, hce, hcs, hfr, hlo, hnl⟩ := C
  obtain ⟨n1, n2, n3, n4, n5⟩ := Nn
  intro hX H locs la hP hS hL
  obtain ⟨cn, T, N, ty0, f1, f2, f3, f4, f5, f6, f7, f8⟩ := F
  refine va_put hx hb hts f3 ty0 f5 f6 hown hK hP (wl_D SH K h) hS k (wl_at hs) f1 j f2 (hts _ f4) (fun _ h9 => h9) f7 f8 (hn _) (hf _) (by simpa using hj) hd (fun H1 locs1 hP1 hD1 hS1 => ?_)
  have e1 : wl SH K (md_up h k j (md_ex q)) = (wl SH K h).set k (kb K + k, ce K (md_up h k j (md_ex q)) k (.inl (ci, ks))) := (wl_set hs rfl).symm
  have e2 : (wl SH K (md_up h k j (md_ex q))).set k (kb K + k, ce K (md_up h k j (md_ex q)) k (.inl (ci, ks.set j (2, 0)))) = wl SH' K (md_up h k j (md_ex q)) := wl_setS hset rfl
  rw [e1, List.set_set] at e2
  have e3 : ce K (md_up h k j (md_ex q)) k (.inl (ci, ks.set j (2, 0))) = .inr (ci, (ks.mapIdx (fun j d => fv K h k j d)).set j (rf K q)) := by
    rw [ce_put (v := rf K q) (by simp [fv, up_s, upd, hq])]
    simp only [Sum.inr.injEq, Prod.mk.injEq, true_and]
    apply List.ext_getElem?
    intro i
    by_cases hi : i = j
    · subst hi
      rw [List.getElem?_set_self (by simpa using hj), List.getElem?_set_self (by simpa using hj)]
    · rw [List.getElem?_set_ne (Ne.symm hi), List.getElem?_set_ne (Ne.symm hi)]
      simp only [List.getElem?_mapIdx]
      cases ks[i]? with
      | none => rfl
      | some d => simp [fv, up_s, upd, hi]
  rw [e3] at e2
  have hP2 : va_P K.2.1 vwCl ((wl SH K h).set k (kb K + k, .inr (ci, (ks.mapIdx (fun j d => fv K h k j d)).set j (rf K q)))) H1 := hP1
  rw [e2] at hP2
  exact kk ⟨n1, n2, by rw [← hset, List.length_set]; exact n3, n4, n5⟩ hX H1 locs1 la hP2 hS1 hL
theorem mj_put0 (C : Cx K Y cs cc own mL f lo) {idx ci j k z : Nat} {ks : List (Nat × Nat)} {v : Int32} {ty : FieldType} (F : FFp own idx ci j ty) (hd : decode cc pc = .ok (.putfield idx, 3)) (hs : SH[k]? = some (.inl (ci, ks))) (hk : ks[j]? = some (0, z)) (hn : narrow ty (.int v) = .int v) (hf : fits ty (.int v) = true) (kk : J SH K Y cs X (pc + 3) ls st (md_up h k j v)) : J SH K Y cs X pc ls (.int v :: rf K k :: st) h := by
  obtain ⟨p, e, R, s, m, args, below, meth, c, Q, nL⟩ := Y
  obtain ⟨hx, hb, hml, hown, hts, hK, hce, hcs, hfr, hlo, hnl⟩ := C
  intro hX H locs la hP hS hL
  obtain ⟨cn, T, N, ty0, f1, f2, f3, f4, f5, f6, f7, f8⟩ := F
  refine va_put hx hb hts f3 ty0 f5 f6 hown hK hP (wl_D SH K h) hS k (wl_at hs) f1 j f2 (hts _ f4) (fun _ h9 => h9) f7 f8 hn hf (by simp; exact (List.getElem?_eq_some_iff.mp hk).1) hd (fun H1 locs1 hP1 hD1 hS1 => ?_)
  rw [wl_set (j := j) (v := v) hs (ce_int hk)] at hP1
  exact kk hX H1 locs1 la hP1 hS1 hL
theorem mj_aast (C : Cx K Y cs cc own mL f lo) (Nn : Nx K Y SH cs mc ms) {k n q z x : Nat} {i : Int32} {ks : List (Nat × Nat)} (hd : decode cc pc = .ok (.aastore, 1)) (hs : SH[k]? = some (.inr (2, n, q, z))) (hs2 : SH[x]? = some (.inl (4, ks))) (hx : x = q + 2 * z) (hi : i.toNatClampNeg = z) (hin : md_in i n = true) (hset : SH.set k (.inr (2, n, q, z + 1)) = SH') (kk : Nx K Y SH' cs mc ms → J SH' K Y cs X (pc + 1) ls st h) : J SH K Y cs X pc ls (rf K x :: .int i :: rf K k :: st) h := by
  obtain ⟨p, e, R, s, m, args, below, meth, c, Q, nL⟩ := Y
  obtain ⟨hx0, hb, hml, hown, hts, hK, hce, hcs, hfr, hlo, hnl⟩ := C
  obtain ⟨n1, n2, n3, n4, n5⟩ := Nn
  intro hX H locs la hP hS hL
  refine va_astq hx0 hb hK hP (wl_D SH K h) hS k 2 x 4 (r := (RX4, TX4, 5)) (wl_at hs) rfl (wl_at hs2) rfl (md_in_vp hin) hd (fun H1 locs1 hP1 hD1 hS1 => ?_)
  rw [wl_setS hset (x := .inl (K.2.2.1.2.2, n, .inr (.inr (.inr (.inr (va_up (fun j => if j < z then some (kb K + (q + 2 * j)) else none) i.toNatClampNeg (some (kb K + x)))))))) (by
    simp only [ce, Sum.inl.injEq, Prod.mk.injEq, Sum.inr.injEq, true_and]
    funext j
    rw [hi, hx]
    by_cases hj : j = z
    · subst hj; simp [va_up]
    · simp only [va_up, if_neg hj]
      by_cases hl : j < z
      · rw [if_pos hl, if_pos (by omega)]
      · rw [if_neg hl, if_neg (by omega)])] at hP1
  exact kk ⟨n1, n2, by rw [← hset, List.length_set]; exact n3, n4, n5⟩ hX H1 locs1 la hP1 hS1 hL
theorem mj_obj (C : Cx K Y cs cc own mL f lo) {idx k : Nat} (w1 : Cond.methodLink own idx objectInit ∈ lw_ok) (w2 : Cond.instanceMethod objectInit ∈ lw_ok) (w3 : Cond.code objectInit ⟨#[0xb1]⟩ 1 none ∈ lw_ok) (hf : 1 ≤ f) (hl : (st.map fun v => v.category).sum + 12 ≤ lo) (hd : decode cc pc = .ok (.invokespecial idx, 3)) (kk : J SH K Y cs X (pc + 3) ls st h) : J SH K Y cs X pc ls (rf K k :: st) h := by
  obtain ⟨p, e, R, s, m, args, below, meth, c, Q, nL⟩ := Y
  obtain ⟨hx, hb, hml, hown, hts, hK, hce, hcs, hfr, hlo, hnl⟩ := C
  intro hX H locs la hP hS hL
  exact W.objInit hx hb hown (hts _ w1) (hts _ w2) (hts _ w3) rfl (by rw [hml]; exact hL.1) rfl hd (Nat.le_trans hf hfr) (Nat.le_trans (by show 2 * 0 + _ + 12 ≤ lo; omega) hlo) (kk hX H locs la hP hS hL)
theorem mj_goesN {rv : Mm} {p : Program} {e : Env} {R : Room} {s : State} {m : MethodId} {args : Array Value} {below : List Frame} {meth : Method} {c : Code} {Q : State → Prop} {nL mc' ms' : Nat} {H : Heap} {locs : List Loc} {la : Array Slot} {av : Array Value} {st0 : List Value} (hX : X) (hS : va_S (fun q => kb K ≤ q) s.heap H locs) (hL : lv_has la nL ls)
    (hr : va_Run p K.1 e R s m args below meth c H locs cs.1 cs.2 mc' ms' (F0 m pc la st0) st (QjN SH' K rv av) (fun q => kb K ≤ q))
    (kk : J SH' K (p, e, R, s, m, args, below, meth, c, Q, nL) (cs.1 + mc', cs.2 + ms') X (pc + 3) ls st rv) : W p K.1 e R s m args below meth c H locs cs.1 cs.2 Q (F0 m pc la st0) := by
  intro T hT X0
  obtain ⟨v, st₀, t, T', L, h0, X', hL2, e1, e2, ⟨hq1, hq2, hqs, hq3⟩, stp⟩ := hr T hT X0
  cases hq1
  rw [← e1] at hq2
  have hS' : va_S (fun q => kb K ≤ q) s.heap T'.heap (locs ++ L) := by
    obtain ⟨z1, z2⟩ := hq3
    rw [h0] at z1 z2
    rw [e1]
    refine ⟨Nat.le_trans hS.1 z1, fun q h1 h2 => (z2 q (Nat.lt_of_lt_of_le h1 hS.1) h2).trans (hS.2.1 q h1 h2), fun q hq => ?_⟩
    rcases List.mem_append.mp hq with h3 | h3
    · exact hS.2.2 q h3
    · exact hL2 q h3
  obtain ⟨t2, a1, b1⟩ := kk hX T'.heap (locs ++ L) la hq2 hS' hL T' rfl X'
  exact ⟨t2, stp t2 a1, b1⟩
theorem mj_ctN (C : Cx K Y cs cc own mL f lo) (Nn : Nx K Y SH cs mc ms) {idx k mL' f' lo' mc' ms' : Nat} {y : MethodName} {bs : ByteArray} {h' : Mm} (M1 : MY y bs mL' none 0) (M2 : Cond.instanceMethod y ∈ lw_ok) (M3 : (own, idx, y) ∈ nwl) (hy : y.name = "<init>") (hM : Mn K y bs mL' f' lo' mc' ms' SH k h SH' h') (hlen : SH'.length = SH.length + mc') (hf1 : f' + 1 ≤ f) (hl1 : 8 + (mL' + 11) + lo' ≤ lo) (hm : cs.1 + mc' ≤ mc) (hs : cs.2 + ms' ≤ ms) (hW : (st.map fun v => v.category).sum ≤ 8) (hd : decode cc pc = .ok (.invokespecial idx, 3))
    (cs' : Nat × Nat) (hcs' : (cs.1 + mc', cs.2 + ms') = cs') (kk : Cx K Y cs' cc own mL f lo → Nx K Y SH' cs' mc ms → J SH' K Y cs' X (pc + 3) ls st h') : J SH K Y cs X pc ls (rf K k :: st) h := by
  subst hcs'
  obtain ⟨p, e, R, s, m, args, below, meth, c, Q, nL⟩ := Y
  obtain ⟨hx, hb, hml, hown, hts, hK, hce, hcs, hfr, hlo, hnl⟩ := C
  obtain ⟨n1, n2, n3, n4, n5⟩ := Nn
  intro hX H locs la hP hS hL
  refine W_size (fun hz => ?_)
  have hlo2 := wl_szlo hP (Nat.le_trans n2 hS.1)
  have hG : GoodIn lw_ok (.code y bs mL' none :: lw_ok) := lw_goodIn _ (fun w hw => by
    rcases List.mem_cons.mp hw with rfl | hw
    · exact M1.1
    · exact hw)
  refine mj_goesN hX hS hL (va_runIN (As := []) (rest := st) (b := kb K + k) (host := RX7) ⟨hx, hb, hml, hown, hts⟩ hM ⟨va_cnB 0 hts hG rfl rfl rfl (n1.1 _ M3) (hts _ M1.2.2.2.2) ⟨M1.2.1, M1.2.2.1, M1.2.2.2.1⟩ ⟨Nat.le_trans hf1 hfr, Nat.le_trans hl1 hlo⟩, hy, hts _ M2⟩ ⟨fun a U g mk q => ?_, fun U hU hW => ?_⟩ rfl rfl hL.1 rfl (lv_room hW) hd ⟨by omega, by omega⟩) (kk ⟨hx, hb, hml, hown, hts, hK, by simp only; omega, by simp only; omega, hfr, hlo, hnl⟩ ⟨n1, n2, by simp only; omega, n4, n5⟩)
  · obtain ⟨q0, qP, qK, qs, qN⟩ := q
    exact ⟨q0, qP, va_K.moved (u := U) (U := U.calling g mk a) (Vm.Alike.refl U.vm) qK, qs, NW.same rfl qN⟩
  · exact ⟨rfl, by rw [hU]; exact hP, va_K.moved hW.alike hK, by rw [hU]; omega, n1.warm hW⟩
theorem mj_ctP (C : Cx K Y cs cc own mL f lo) (Nn : Nx K Y SH cs mc ms) {idx k mL' f' lo' mc' ms' : Nat} {y : MethodName} {bs : ByteArray} {h' : Mm} (M1 : MY y bs mL' none 0) (M2 : Cond.instanceMethod y ∈ lw_ok) (M3 : Cond.methodLink own idx y ∈ lw_ok) (hy : y.name = "<init>") (hM : Mn K y bs mL' f' lo' mc' ms' SH k h SH' h') (hlen : SH'.length = SH.length + mc') (hf1 : f' + 1 ≤ f) (hl1 : 8 + (mL' + 11) + lo' ≤ lo) (hm : cs.1 + mc' ≤ mc) (hs : cs.2 + ms' ≤ ms) (hW : (st.map fun v => v.category).sum ≤ 8) (hd : decode cc pc = .ok (.invokespecial idx, 3))
    (cs' : Nat × Nat) (hcs' : (cs.1 + mc', cs.2 + ms') = cs') (kk : Cx K Y cs' cc own mL f lo → Nx K Y SH' cs' mc ms → J SH' K Y cs' X (pc + 3) ls st h') : J SH K Y cs X pc ls (rf K k :: st) h := by
  subst hcs'
  obtain ⟨p, e, R, s, m, args, below, meth, c, Q, nL⟩ := Y
  obtain ⟨hx, hb, hml, hown, hts, hK, hce, hcs, hfr, hlo, hnl⟩ := C
  obtain ⟨n1, n2, n3, n4, n5⟩ := Nn
  intro hX H locs la hP hS hL
  refine W_size (fun hz => ?_)
  have hlo2 := wl_szlo hP (Nat.le_trans n2 hS.1)
  have hG : GoodIn lw_ok (.code y bs mL' none :: lw_ok) := lw_goodIn _ (fun w hw => by
    rcases List.mem_cons.mp hw with rfl | hw
    · exact M1.1
    · exact hw)
  refine mj_goesN hX hS hL (va_runI (As := []) (rest := st) (b := kb K + k) ⟨hx, hb, hml, hown, hts⟩ hM (cwI 0 hts hG rfl rfl rfl (hts _ M1.2.2.2.2) (hts _ M3) (hts _ M2) hy ⟨M1.2.1, M1.2.2.1, M1.2.2.2.1⟩ ⟨Nat.le_trans hf1 hfr, Nat.le_trans hl1 hlo⟩) ⟨fun a U g mk q => ?_, fun U hU hW => ?_⟩ rfl rfl hL.1 rfl (lv_room hW) hd ⟨by omega, by omega⟩) (kk ⟨hx, hb, hml, hown, hts, hK, by simp only; omega, by simp only; omega, hfr, hlo, hnl⟩ ⟨n1, n2, by simp only; omega, n4, n5⟩)
  · obtain ⟨q0, qP, qK, qs, qN⟩ := q
    exact ⟨q0, qP, va_K.moved (u := U) (U := U.calling g mk a) (Vm.Alike.refl U.vm) qK, qs, NW.same rfl qN⟩
  · exact ⟨rfl, by rw [hU]; exact hP, va_K.moved hW.alike hK, by rw [hU]; omega, n1.warm hW⟩
theorem mj_rN (C : Cx K Y (mc, ms) cc own mL f lo) (Nn : Nx K Y SH (mc, ms) mc ms) (N : EnN SH K Y h mc ms) (hd : decode cc pc = .ok (.return_, 1)) : J SH K Y (mc, ms) X pc ls [] h := by
  obtain ⟨p, e, R, s, m, args, below, meth, c, Q, nL⟩ := Y
  obtain ⟨hx, hb, hml, hown, hts, hK, hce, hcs, hfr, hlo, hnl⟩ := C
  obtain ⟨n1, n2, n3, n4, n5⟩ := Nn
  obtain ⟨rfl, hrt, hlk⟩ := N
  intro hX H locs la hP hS hL
  refine W_size (fun hz => ?_)
  have hlo2 := wl_szlo hP (Nat.le_trans n2 hS.1)
  simp only at hz n3
  exact W.vret hx hb hrt (fun t ht hW => ⟨rfl, by rw [ht]; exact hP, by rw [ht]; omega, hS.F ht⟩) hS.2.2 hd hlk
end MJN
theorem hzu {h : Mm} {k a j : Nat} {v : Int32} {z : Nat → Int32} (ha : a ≠ k) (h1 : h a = z) : md_up h k j v a = z := by rw [up_n h j v ha]; exact h1
theorem Mn.as {K : Kx} {y : MethodName} {bs : ByteArray} {mL f lo mc ms k : Nat} {pre A B B' : List Sh} {h h' : Mm} (m : Mn K y bs mL f lo mc ms ((pre ++ A) ++ B) k h ((pre ++ A) ++ B') h') : Mn K y bs mL f lo mc ms (pre ++ (A ++ B)) k h (pre ++ (A ++ B')) h' := by
  rw [List.append_assoc, List.append_assoc] at m
  exact m
def pT (n i : Nat) : List Sh := (List.range i).flatMap (fun j => [.inl (4, [(1, n + 2 * j + 1), (0, 0), (0, 0), (0, 0), (0, 0)]), .inr (0, 5, 0, 0)])
theorem ap_len2 {pre T T' : List Sh} {c : Nat} (h : T'.length = T.length + c) : (pre ++ T').length = (pre ++ T).length + c := by
  rw [List.length_append, List.length_append, h, Nat.add_assoc]
