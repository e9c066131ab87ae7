/-! the sealed layer: a plain memory, one judgement, a rule an instruction -/
/-- the tables' words that stay as they are -/
def lw_ok : List Cond := lw_tbl.filter goodWord
theorem lw_ok_of {w : Cond} (i : Nat) (h : lw_tbl[i]? = some w) (g : goodWord w = true) : w ∈ lw_ok := List.mem_filter.mpr ⟨List.mem_of_getElem? h, g⟩
theorem lw_ok_in {w : Cond} (h : w ∈ lw_ok) : w ∈ lw_tbl := (List.mem_filter.mp h).1
abbrev Mm : Type := Nat → Nat → Int32
/-- a cell's shape: an object (class, a mark a field: 0 a number, 1 that cell for ever, 2 one of the two countries, 3 null); an array (0 ints, 1 booleans, 2 posts; length; first cell; how many are set) -/
abbrev Sh : Type := (Nat × List (Nat × Nat)) ⊕ (Nat × Nat × Nat × Nat)
abbrev Kx : Type := Launch × va_G × (ClassId × ClassId × ClassId) × Nat
abbrev Yx : Type := Program × Env × Room × State × MethodId × Array Value × List Frame × Method × Code × (State → Prop) × Nat
def md_up (h : Mm) (k j : Nat) (v : Int32) : Mm := fun a => if a = k then upd (h k) j v else h a
def md_dx (v : Int32) : Nat := if v = 0 then 3 else 74
def md_ex (c : Nat) : Int32 := if c = 3 then 0 else 1
def md_in (i : Int32) (n : Nat) : Bool := !(decide (i < 0)) && decide (i.toNatClampNeg < n)
def md_bi (v : Bool) : Int32 := if v = true then 1 else 0
def md_bd {α β : Type} (F : Option α) (k : α → Option β) : Option β := F.bind k
def md_b2 {α γ β : Type} (F : Option (α × γ)) (k : α → γ → Option β) : Option β := F.bind (fun q => k q.1 q.2)
def md_b3 {α γ δ β : Type} (F : Option (α × γ × δ)) (k : α → γ → δ → Option β) : Option β := F.bind (fun q => k q.1 q.2.1 q.2.2)
def md_b4 {α γ δ ε β : Type} (F : Option (α × γ × δ × ε)) (k : α → γ → δ → ε → Option β) : Option β := F.bind (fun q => k q.1 q.2.1 q.2.2.1 q.2.2.2)
def md_b5 {α γ δ ε ζ β : Type} (F : Option (α × γ × δ × ε × ζ)) (k : α → γ → δ → ε → ζ → Option β) : Option β := F.bind (fun q => k q.1 q.2.1 q.2.2.1 q.2.2.2.1 q.2.2.2.2)
def md_bS {α γ β : Type} (F : Option (α ⊕ γ)) (k1 : α → Option β) (k2 : γ → Option β) : Option β := F.bind (fun q => match q with
  | .inl a => k1 a
  | .inr a => k2 a)
def md_lt {α β : Type} (v : α) (k : α → Option β) : Option β := k v
def md_ck {α : Type} (c : Bool) (E : Option α) : Option α := if c = true then E else none
def mj_O {α : Type} (E : Option α) (P : α → Prop) : Prop := ∃ v, E = some v ∧ P v
def kb (K : Kx) : Nat := K.2.2.2
def kt (K : Kx) : List (ClassId × FieldType) := [(K.2.2.1.1, .int), (K.2.2.1.2.1, .boolean), (K.2.2.1.2.2, .object RX4)]
def rf (K : Kx) (k : Nat) : Value := .ref (kb K + k)
def fv (K : Kx) (h : Mm) (k j : Nat) (d : Nat × Nat) : Value := match d.1 with
  | 0 => .int (h k j)
  | 1 => rf K d.2
  | 2 => rf K (md_dx (h k j))
  | _ => .null
def ce (K : Kx) (h : Mm) (k : Nat) (sh : Sh) : va_E := match sh with
  | .inl o => .inr (o.1, o.2.mapIdx (fun j d => fv K h k j d))
  | .inr a => match a.1 with
    | 0 => .inl (K.2.2.1.1, a.2.1, .inl (h k))
    | 1 => .inl (K.2.2.1.2.1, a.2.1, .inl (h k))
    | _ => .inl (K.2.2.1.2.2, a.2.1, .inr (.inr (.inr (.inr (fun j => if j < a.2.2.2 then some (kb K + (a.2.2.1 + 2 * j)) else none)))))
def wl (SH : List Sh) (K : Kx) (h : Mm) : va_W := SH.mapIdx (fun k sh => (kb K + k, ce K h k sh))
theorem wl_at {SH : List Sh} {K : Kx} {h : Mm} {k : Nat} {sh : Sh} (hs : SH[k]? = some sh) : (wl SH K h)[k]? = some (kb K + k, ce K h k sh) := by
  simp [wl, List.getElem?_mapIdx, hs]
theorem wl_len (SH : List Sh) (K : Kx) (h : Mm) : (wl SH K h).length = SH.length := by simp [wl]
theorem wl_of {SH : List Sh} {K : Kx} {h : Mm} {k : Nat} {q : Nat × va_E} (hq : (wl SH K h)[k]? = some q) : ∃ sh, SH[k]? = some sh ∧ q = (kb K + k, ce K h k sh) := by
  simp only [wl, List.getElem?_mapIdx, Option.map_eq_some_iff] at hq
  obtain ⟨sh, h1, h2⟩ := hq
  exact ⟨sh, h1, h2.symm⟩
theorem wl_D (SH : List Sh) (K : Kx) (h : Mm) : va_D (fun q => kb K ≤ q) (wl SH K h) := by
  refine ⟨fun i j p q hi hj hpq => ?_, fun k q hk => ?_⟩
  · obtain ⟨_, -, rfl⟩ := wl_of hi
    obtain ⟨_, -, rfl⟩ := wl_of hj
    exact Nat.add_left_cancel hpq
  · obtain ⟨_, -, rfl⟩ := wl_of hk
    exact Nat.le_add_right _ _
theorem up_s (h : Mm) (k j : Nat) (v : Int32) : md_up h k j v k = upd (h k) j v := by simp [md_up]
theorem up_n (h : Mm) {k a : Nat} (j : Nat) (v : Int32) (ha : a ≠ k) : md_up h k j v a = h a := by simp [md_up, ha]
theorem ce_n (K : Kx) (h : Mm) {k a : Nat} (j : Nat) (v : Int32) (ha : a ≠ k) (sh : Sh) : ce K (md_up h k j v) a sh = ce K h a sh := by
  have e : md_up h k j v a = h a := up_n h j v ha
  cases sh with
  | inl o => simp only [ce, fv, e]
  | inr x => simp only [ce, e]
theorem wl_set {SH : List Sh} {K : Kx} {h : Mm} {k j : Nat} {v : Int32} {sh : Sh} {x : va_E} (hs : SH[k]? = some sh) (hx : ce K (md_up h k j v) k sh = x) : (wl SH K h).set k (kb K + k, x) = wl SH K (md_up h k j v) := by
  have hl : k < SH.length := (List.getElem?_eq_some_iff.mp hs).1
  apply List.ext_getElem?
  intro i
  by_cases hi : i = k
  · subst hi
    rw [List.getElem?_set_self (by rw [wl_len]; exact hl), wl_at hs, hx]
  · rw [List.getElem?_set_ne (Ne.symm hi)]
    simp only [wl, List.getElem?_mapIdx]
    cases SH[i]? with
    | none => rfl
    | some s2 => simp only [Option.map_some, ce_n K h j v hi]
theorem ce_int {K : Kx} {h : Mm} {k j ci : Nat} {v : Int32} {ks : List (Nat × Nat)} {z : Nat} (hk : ks[j]? = some (0, z)) : ce K (md_up h k j v) k (.inl (ci, ks)) = .inr (ci, (ks.mapIdx (fun j d => fv K h k j d)).set j (.int v)) := by
  simp only [ce, up_s, Sum.inr.injEq, Prod.mk.injEq, true_and]
  have hl : j < ks.length := (List.getElem?_eq_some_iff.mp hk).1
  apply List.ext_getElem?
  intro i
  by_cases hi : i = j
  · subst hi
    rw [List.getElem?_set_self (by simpa using hl)]
    simp [List.getElem?_mapIdx, hk, fv, up_s, upd]
  · rw [List.getElem?_set_ne (Ne.symm hi)]
    simp only [List.getElem?_mapIdx]
    cases ks[i]? with
    | none => rfl
    | some d => simp [fv, up_s, upd, hi]
theorem ce_ref {K : Kx} {h : Mm} {k j ci c : Nat} {ks : List (Nat × Nat)} {z : Nat} (hk : ks[j]? = some (2, z)) (hc : md_dx (md_ex c) = c) : ce K (md_up h k j (md_ex c)) k (.inl (ci, ks)) = .inr (ci, (ks.mapIdx (fun j d => fv K h k j d)).set j (rf K c)) := by
  simp only [ce, up_s, Sum.inr.injEq, Prod.mk.injEq, true_and]
  have hl : j < ks.length := (List.getElem?_eq_some_iff.mp hk).1
  apply List.ext_getElem?
  intro i
  by_cases hi : i = j
  · subst hi
    rw [List.getElem?_set_self (by simpa using hl)]
    simp [List.getElem?_mapIdx, hk, fv, up_s, upd, hc]
  · rw [List.getElem?_set_ne (Ne.symm hi)]
    simp only [List.getElem?_mapIdx]
    cases ks[i]? with
    | none => rfl
    | some d => simp [fv, up_s, upd, hi]
theorem md_in_vp {i : Int32} {n : Nat} (h : md_in i n = true) : vp_in i n := by
  simp only [md_in, Bool.and_eq_true, Bool.not_eq_true', decide_eq_false_iff_not, decide_eq_true_eq] at h
  intro q
  rcases q with q | q
  · exact h.1 q
  · omega
theorem md_bi_nar (v : Bool) : vp_nar .boolean (md_bi v) = md_bi v := by cases v <;> rfl
theorem md_bi_narrow (v : Bool) : narrow .boolean (.int (md_bi v)) = .int (md_bi v) := by cases v <;> rfl
theorem md_bi_0 (v : Bool) : md_bi v = 0 ↔ v = false := by cases v <;> decide
/-- the room of a method: frames, locals -/
def rmo (f lo : Nat) : Room := { frames := f, cells := 0, slots := 0, locals := lo }
def J (SH : List Sh) (K : Kx) (Y : Yx) (cs : Nat × Nat) (X : Prop) (pc : Nat) (ls : List (Nat × Value)) (st : List Value) (h : Mm) : Prop := match Y with
  | (p, e, R, s, m, args, below, meth, c, Q, nL) => X → ∀ (H : Heap) (locs : List Loc) (la : Array Slot), va_P K.2.1 vwCl (wl SH K h) H → va_S (fun q => kb K ≤ q) s.heap H locs → lv_has la nL ls → W p K.1 e R s m args below meth c H locs cs.1 cs.2 Q (F0 m pc la st)
def Cx (K : Kx) (Y : Yx) (cs : Nat × Nat) (cc : ByteArray) (own : String) (mL f lo : Nat) : Prop := match Y with
  | (p, e, R, s, m, args, below, meth, c, Q, nL) => p.tables.exec = Jvm.exec ∧ c.code = cc ∧ c.maxLocals = nL ∧ s.vm.findClass own = some m.cls ∧ (∀ w ∈ lw_ok, w.before args s = true) ∧ va_K K.2.1 vwCl (kt K) s ∧ cs.1 ≤ R.cells ∧ cs.2 ≤ R.slots ∧ f ≤ R.frames ∧ lo ≤ R.locals ∧ nL = mL
def Qj (SH : List Sh) (K : Kx) (rv : Option Value) (h : Mm) : Array Value → State → Outcome → State → Prop := fun _ st o t => o = .returned rv ∧ va_P K.2.1 vwCl (wl SH K h) t.heap ∧ va_F (fun q => kb K ≤ q) st t
def En (SH : List Sh) (K : Kx) (Y : Yx) (rv : Option Value) (h : Mm) (rt : Option FieldType) : Prop := match Y with
  | (p, e, R, s, m, args, below, meth, c, Q, nL) => Q = MQ below (Qj SH K rv h) args s 0 0 (fun q => kb K ≤ q) ∧ meth.sig.returnType = rt ∧ meth.locks = false
def Mt (K : Kx) (y : MethodName) (bs : ByteArray) (mL : Nat) (rt : Option FieldType) (f lo : Nat) (SH : List Sh) (av : List Value) (h : Mm) (rv : Option Value) (h' : Mm) : Prop :=
  Met K.1 y (.code y bs mL rt :: lw_ok) (rmo f lo) (va_Pc av (fun U => va_P K.2.1 vwCl (wl SH K h) U.heap ∧ va_K K.2.1 vwCl (kt K) U)) (Qj SH K rv h') 0 0 (fun q => kb K ≤ q)
theorem Mt.of {K : Kx} {y : MethodName} {bs : ByteArray} {mL : Nat} {rt : Option FieldType} {f lo : Nat} {SH : List Sh} {av : List Value} {h h' : Mm} {rv : Option Value} {α : Type} {F : Option α} {a : α} (hF : F = some a) (ls : List (Nat × Value)) (hy : plainName y.cls = true) (hav : (lg_sl av).length ≤ mL) (hls : lv_args 0 av = ls)
    (body : ∀ Y : Yx, Cx K Y (0, 0) bs y.cls mL f lo → En SH K Y rv h' rt → J SH K Y (0, 0) (mj_O F (fun v => v = a)) 0 ls [] h) : Mt K y bs mL rt f lo SH av h rv h' := by
  refine Met.ofW (cc := bs) (maxL := mL) (ret := rt) hy rfl ?_
  intro p e s m args below meth c s₁ B hml hv
  obtain ⟨rfl, hP, hK⟩ := hv
  have hts := atoms_spec (ws := .code y bs mL rt :: lw_ok) B.pre
  have hown : s.vm.findClass y.cls = some m.cls := findClass_of_methodNamed B.named
  have k := body (p, e, (headSpec (.code y bs mL rt :: lw_ok) (rmo f lo)).room, s, m, av.toArray, below, meth, c, MQ below (Qj SH K rv h') av.toArray s 0 0 (fun q => kb K ≤ q), mL) ⟨B.exec, B.bytes, hml, hown, fun w hw => hts w (List.mem_cons_of_mem _ hw), hK, Nat.le_refl _, Nat.le_refl _, Nat.le_refl _, Nat.le_refl _, rfl⟩ ⟨rfl, B.returns, B.notSynchronized⟩ ⟨a, hF, rfl⟩
  have hl := lv_entry av (n := mL) hav
  rw [lg_entry_eq]
  rw [hls] at hl
  exact k s.heap [] _ hP va_S.rf hl
/-- structure rules -/
theorem mj_sub {SH : List Sh} {K : Kx} {Y : Yx} {cs : Nat × Nat} {X : Prop} {pc : Nat} {ls ls' : List (Nat × Value)} {st : List Value} {h : Mm} (ks : List Nat) (hl : lv_pick ls ks = ls') (kk : J SH K Y cs X pc ls' st h) : J SH K Y cs X pc ls st h := by
  obtain ⟨p, e, R, s, m, args, below, meth, c, Q, nL⟩ := Y
  intro hX H locs la hP hS hL
  exact kk hX H locs la hP hS (lv_sub hL ks hl)
theorem mj_X {SH : List Sh} {K : Kx} {Y : Yx} {cs : Nat × Nat} {X X' : Prop} {pc : Nat} {ls : List (Nat × Value)} {st : List Value} {h : Mm} (hx : X → X') (kk : J SH K Y cs X' pc ls st h) : J SH K Y cs X pc ls st h := by
  obtain ⟨p, e, R, s, m, args, below, meth, c, Q, nL⟩ := Y
  intro hX
  exact kk (hx hX)
theorem mj_use {SH : List Sh} {K : Kx} {Y : Yx} {cs : Nat × Nat} {X : Prop} {pc : Nat} {ls : List (Nat × Value)} {st : List Value} {h : Mm} (kk : X → J SH K Y cs True pc ls st h) : J SH K Y cs X pc ls st h := by
  obtain ⟨p, e, R, s, m, args, below, meth, c, Q, nL⟩ := Y
  intro hX
  exact kk hX trivial
theorem mj_none {SH : List Sh} {K : Kx} {Y : Yx} {cs : Nat × Nat} {pc : Nat} {ls : List (Nat × Value)} {st : List Value} {h : Mm} {α : Type} {P : α → Prop} : J SH K Y cs (mj_O none P) pc ls st h := by
  obtain ⟨p, e, R, s, m, args, below, meth, c, Q, nL⟩ := Y
  intro hX
  obtain ⟨v, h1, -⟩ := hX
  cases h1
theorem mj_some {SH : List Sh} {K : Kx} {Y : Yx} {cs : Nat × Nat} {pc : Nat} {ls : List (Nat × Value)} {st : List Value} {h : Mm} {α : Type} {P : α → Prop} {v : α} (kk : J SH K Y cs (P v) pc ls st h) : J SH K Y cs (mj_O (some v) P) pc ls st h := mj_X (fun ⟨w, h1, h2⟩ => by cases h1; exact h2) kk
theorem mj_bd {SH : List Sh} {K : Kx} {Y : Yx} {cs : Nat × Nat} {pc : Nat} {ls : List (Nat × Value)} {st : List Value} {h : Mm} {α β : Type} {P : β → Prop} {F : Option α} {k : α → Option β} (kk : J SH K Y cs (mj_O F (fun v => mj_O (k v) P)) pc ls st h) : J SH K Y cs (mj_O (md_bd F k) P) pc ls st h := mj_X (fun ⟨w, h1, h2⟩ => by
  cases F with
  | none => simp [md_bd] at h1
  | some a => exact ⟨a, rfl, w, h1, h2⟩) kk
theorem mj_b2 {SH : List Sh} {K : Kx} {Y : Yx} {cs : Nat × Nat} {pc : Nat} {ls : List (Nat × Value)} {st : List Value} {h : Mm} {α γ β : Type} {P : β → Prop} {F : Option (α × γ)} {k : α → γ → Option β} (kk : J SH K Y cs (mj_O F (fun v => mj_O (k v.1 v.2) P)) pc ls st h) : J SH K Y cs (mj_O (md_b2 F k) P) pc ls st h := mj_X (fun ⟨w, h1, h2⟩ => by
  cases F with
  | none => simp [md_b2] at h1
  | some a => exact ⟨a, rfl, w, h1, h2⟩) kk
theorem mj_b3 {SH : List Sh} {K : Kx} {Y : Yx} {cs : Nat × Nat} {pc : Nat} {ls : List (Nat × Value)} {st : List Value} {h : Mm} {α γ δ β : Type} {P : β → Prop} {F : Option (α × γ × δ)} {k : α → γ → δ → Option β} (kk : J SH K Y cs (mj_O F (fun v => mj_O (k v.1 v.2.1 v.2.2) P)) pc ls st h) : J SH K Y cs (mj_O (md_b3 F k) P) pc ls st h := mj_X (fun ⟨w, h1, h2⟩ => by
  cases F with
  | none => simp [md_b3] at h1
  | some a => exact ⟨a, rfl, w, h1, h2⟩) kk
theorem mj_b4 {SH : List Sh} {K : Kx} {Y : Yx} {cs : Nat × Nat} {pc : Nat} {ls : List (Nat × Value)} {st : List Value} {h : Mm} {α γ δ ε β : Type} {P : β → Prop} {F : Option (α × γ × δ × ε)} {k : α → γ → δ → ε → Option β} (kk : J SH K Y cs (mj_O F (fun v => mj_O (k v.1 v.2.1 v.2.2.1 v.2.2.2) P)) pc ls st h) : J SH K Y cs (mj_O (md_b4 F k) P) pc ls st h := mj_X (fun ⟨w, h1, h2⟩ => by
  cases F with
  | none => simp [md_b4] at h1
  | some a => exact ⟨a, rfl, w, h1, h2⟩) kk
theorem mj_b5 {SH : List Sh} {K : Kx} {Y : Yx} {cs : Nat × Nat} {pc : Nat} {ls : List (Nat × Value)} {st : List Value} {h : Mm} {α γ δ ε ζ β : Type} {P : β → Prop} {F : Option (α × γ × δ × ε × ζ)} {k : α → γ → δ → ε → ζ → Option β} (kk : J SH K Y cs (mj_O F (fun v => mj_O (k v.1 v.2.1 v.2.2.1 v.2.2.2.1 v.2.2.2.2) P)) pc ls st h) : J SH K Y cs (mj_O (md_b5 F k) P) pc ls st h := mj_X (fun ⟨w, h1, h2⟩ => by
  cases F with
  | none => simp [md_b5] at h1
  | some a => exact ⟨a, rfl, w, h1, h2⟩) kk
def mj_P2 {α γ β : Type} (k1 : α → Option β) (k2 : γ → Option β) (P : β → Prop) : α ⊕ γ → Prop := fun q => match q with
  | .inl a => mj_O (k1 a) P
  | .inr a => mj_O (k2 a) P
theorem mj_bS {SH : List Sh} {K : Kx} {Y : Yx} {cs : Nat × Nat} {pc : Nat} {ls : List (Nat × Value)} {st : List Value} {h : Mm} {α γ β : Type} {P : β → Prop} {F : Option (α ⊕ γ)} {k1 : α → Option β} {k2 : γ → Option β} (kk : J SH K Y cs (mj_O F (mj_P2 k1 k2 P)) pc ls st h) : J SH K Y cs (mj_O (md_bS F k1 k2) P) pc ls st h := mj_X (fun ⟨w, h1, h2⟩ => by
  cases F with
  | none => simp [md_bS] at h1
  | some a => cases a with
    | inl a => exact ⟨_, rfl, w, h1, h2⟩
    | inr a => exact ⟨_, rfl, w, h1, h2⟩) kk
theorem mj_lt {SH : List Sh} {K : Kx} {Y : Yx} {cs : Nat × Nat} {pc : Nat} {ls : List (Nat × Value)} {st : List Value} {h : Mm} {α β : Type} {P : β → Prop} {v : α} {k : α → Option β} (kk : J SH K Y cs (mj_O (k v) P) pc ls st h) : J SH K Y cs (mj_O (md_lt v k) P) pc ls st h := kk
theorem mj_ckU {SH : List Sh} {K : Kx} {Y : Yx} {cs : Nat × Nat} {pc : Nat} {ls : List (Nat × Value)} {st : List Value} {h : Mm} {α : Type} {P : α → Prop} {c : Bool} {E : Option α} (kk : c = true → J SH K Y cs (mj_O E P) pc ls st h) : J SH K Y cs (mj_O (md_ck c E) P) pc ls st h := by
  cases c with
  | true => exact mj_X (fun q => q) (kk rfl)
  | false => exact mj_X (fun q => by simpa [md_ck] using q) (mj_none (P := P))
section MJ
variable {SH : List Sh} {K : Kx} {Y : Yx} {cs : Nat × Nat} {X : Prop} {pc : Nat} {ls : List (Nat × Value)} {st : List Value} {h : Mm} {cc : ByteArray} {own : String} {mL f lo : Nat}
theorem mj_iload_n (C : Cx K Y cs cc own mL f lo) {k : Fin 4} {i : Nat} {x : Int32} (q : Nat) (hd : decode cc pc = .ok (.iload_n k, 1)) (hi : (k : Nat) = i) (hk : ls[q]? = some (i, .int x)) (kk : J SH K Y cs X (pc + 1) ls (.int x :: st) h) : J SH K Y cs X pc ls (st) h := by
  obtain ⟨p, e, R, s, m, args, below, meth, c, Q, nL⟩ := Y
  obtain ⟨hx, hb, hml, hown, hts, hK, hce, hcs, hfr, hlo, hnl⟩ := C
  intro hX H locs la hP hS hL
  exact lv_iload_n hx hb hd hi (lv_at hL q hk) (kk hX H locs la hP hS hL)
theorem mj_lload_n (C : Cx K Y cs cc own mL f lo) {k : Fin 4} {i : Nat} {x : Int64} (q : Nat) (hd : decode cc pc = .ok (.lload_n k, 1)) (hi : (k : Nat) = i) (hk : ls[q]? = some (i, .long x)) (kk : J SH K Y cs X (pc + 1) ls (.long x :: st) h) : J SH K Y cs X pc ls (st) h := by
  obtain ⟨p, e, R, s, m, args, below, meth, c, Q, nL⟩ := Y
  obtain ⟨hx, hb, hml, hown, hts, hK, hce, hcs, hfr, hlo, hnl⟩ := C
  intro hX H locs la hP hS hL
  exact lv_lload_n hx hb hd hi (lv_at hL q hk) (kk hX H locs la hP hS hL)
theorem mj_iload (C : Cx K Y cs cc own mL f lo) {i : Nat} {x : Int32} (q : Nat) (hd : decode cc pc = .ok (.iload i, 2)) (hk : ls[q]? = some (i, .int x)) (kk : J SH K Y cs X (pc + 2) ls (.int x :: st) h) : J SH K Y cs X pc ls (st) h := by
  obtain ⟨p, e, R, s, m, args, below, meth, c, Q, nL⟩ := Y
  obtain ⟨hx, hb, hml, hown, hts, hK, hce, hcs, hfr, hlo, hnl⟩ := C
  intro hX H locs la hP hS hL
  exact lv_iload hx hb hd (lv_at hL q hk) (kk hX H locs la hP hS hL)
theorem mj_lload (C : Cx K Y cs cc own mL f lo) {i : Nat} {x : Int64} (q : Nat) (hd : decode cc pc = .ok (.lload i, 2)) (hk : ls[q]? = some (i, .long x)) (kk : J SH K Y cs X (pc + 2) ls (.long x :: st) h) : J SH K Y cs X pc ls (st) h := by
  obtain ⟨p, e, R, s, m, args, below, meth, c, Q, nL⟩ := Y
  obtain ⟨hx, hb, hml, hown, hts, hK, hce, hcs, hfr, hlo, hnl⟩ := C
  intro hX H locs la hP hS hL
  exact lv_lload hx hb hd (lv_at hL q hk) (kk hX H locs la hP hS hL)
theorem mj_aload_n (C : Cx K Y cs cc own mL f lo) {k : Fin 4} {i : Nat} {x : Nat} (q : Nat) (hd : decode cc pc = .ok (.aload_n k, 1)) (hi : (k : Nat) = i) (hk : ls[q]? = some (i, rf K x)) (kk : J SH K Y cs X (pc + 1) ls (rf K x :: st) h) : J SH K Y cs X pc ls (st) h := by
  obtain ⟨p, e, R, s, m, args, below, meth, c, Q, nL⟩ := Y
  obtain ⟨hx, hb, hml, hown, hts, hK, hce, hcs, hfr, hlo, hnl⟩ := C
  intro hX H locs la hP hS hL
  exact lv_aload_n hx hb hd hi (lv_at hL q hk) (kk hX H locs la hP hS hL)
theorem mj_aload_nR (C : Cx K Y cs cc own mL f lo) {k : Fin 4} {i : Nat} {x : Nat} (q : Nat) (hd : decode cc pc = .ok (.aload_n k, 1)) (hi : (k : Nat) = i) (hk : ls[q]? = some (i, .ref x)) (kk : J SH K Y cs X (pc + 1) ls (.ref x :: st) h) : J SH K Y cs X pc ls (st) h := by
  obtain ⟨p, e, R, s, m, args, below, meth, c, Q, nL⟩ := Y
  obtain ⟨hx, hb, hml, hown, hts, hK, hce, hcs, hfr, hlo, hnl⟩ := C
  intro hX H locs la hP hS hL
  exact lv_aload_n hx hb hd hi (lv_at hL q hk) (kk hX H locs la hP hS hL)
theorem mj_iconst (C : Cx K Y cs cc own mL f lo) {n : Int} {v : Int32} (hd : decode cc pc = .ok (.iconst n, 1)) (hv : Int32.ofInt n = v) (kk : J SH K Y cs X (pc + 1) ls (.int v :: st) h) : J SH K Y cs X pc ls (st) h := by
  obtain ⟨p, e, R, s, m, args, below, meth, c, Q, nL⟩ := Y
  obtain ⟨hx, hb, hml, hown, hts, hK, hce, hcs, hfr, hlo, hnl⟩ := C
  intro hX H locs la hP hS hL
  exact lv_iconst hx hb hd hv (kk hX H locs la hP hS hL)
theorem mj_bipush (C : Cx K Y cs cc own mL f lo) {n : Int} {v : Int32} (hd : decode cc pc = .ok (.bipush n, 2)) (hv : (Int8.ofInt n).toInt32 = v) (kk : J SH K Y cs X (pc + 2) ls (.int v :: st) h) : J SH K Y cs X pc ls (st) h := by
  obtain ⟨p, e, R, s, m, args, below, meth, c, Q, nL⟩ := Y
  obtain ⟨hx, hb, hml, hown, hts, hK, hce, hcs, hfr, hlo, hnl⟩ := C
  intro hX H locs la hP hS hL
  exact lv_bipush hx hb hd hv (kk hX H locs la hP hS hL)
theorem mj_sipush (C : Cx K Y cs cc own mL f lo) {n : Int} {v : Int32} (hd : decode cc pc = .ok (.sipush n, 3)) (hv : (Int16.ofInt n).toInt32 = v) (kk : J SH K Y cs X (pc + 3) ls (.int v :: st) h) : J SH K Y cs X pc ls (st) h := by
  obtain ⟨p, e, R, s, m, args, below, meth, c, Q, nL⟩ := Y
  obtain ⟨hx, hb, hml, hown, hts, hK, hce, hcs, hfr, hlo, hnl⟩ := C
  intro hX H locs la hP hS hL
  exact lv_sipush hx hb hd hv (kk hX H locs la hP hS hL)
theorem mj_lconst (C : Cx K Y cs cc own mL f lo) {n : Fin 2} {v : Int64} (hd : decode cc pc = .ok (.lconst n, 1)) (hv : Int64.ofNat (n : Nat) = v) (kk : J SH K Y cs X (pc + 1) ls (.long v :: st) h) : J SH K Y cs X pc ls (st) h := by
  obtain ⟨p, e, R, s, m, args, below, meth, c, Q, nL⟩ := Y
  obtain ⟨hx, hb, hml, hown, hts, hK, hce, hcs, hfr, hlo, hnl⟩ := C
  intro hX H locs la hP hS hL
  exact lv_lconst hx hb hd hv (kk hX H locs la hP hS hL)
theorem mj_ldc (C : Cx K Y cs cc own mL f lo) {i : Nat} {v : Int32} (hw : Cond.constant own i v ∈ lw_ok) (hd : decode cc pc = .ok (.ldc i, 2)) (kk : J SH K Y cs X (pc + 2) ls (.int v :: st) h) : J SH K Y cs X pc ls (st) h := by
  obtain ⟨p, e, R, s, m, args, below, meth, c, Q, nL⟩ := Y
  obtain ⟨hx, hb, hml, hown, hts, hK, hce, hcs, hfr, hlo, hnl⟩ := C
  intro hX H locs la hP hS hL
  exact lv_ldc hx hb hown (hts _ hw) hd (kk hX H locs la hP hS hL)
theorem mj_ldcw (C : Cx K Y cs cc own mL f lo) {i : Nat} {v : Int32} (hw : Cond.constant own i v ∈ lw_ok) (hd : decode cc pc = .ok (.ldc_w i, 3)) (kk : J SH K Y cs X (pc + 3) ls (.int v :: st) h) : J SH K Y cs X pc ls (st) h := by
  obtain ⟨p, e, R, s, m, args, below, meth, c, Q, nL⟩ := Y
  obtain ⟨hx, hb, hml, hown, hts, hK, hce, hcs, hfr, hlo, hnl⟩ := C
  intro hX H locs la hP hS hL
  exact lv_ldcw hx hb hown (hts _ hw) hd (kk hX H locs la hP hS hL)
theorem mj_ldc2 (C : Cx K Y cs cc own mL f lo) {i : Nat} {v : Int64} (hw : Cond.constantLong own i v ∈ lw_ok) (hd : decode cc pc = .ok (.ldc2_w i, 3)) (kk : J SH K Y cs X (pc + 3) ls (.long v :: st) h) : J SH K Y cs X pc ls (st) h := by
  obtain ⟨p, e, R, s, m, args, below, meth, c, Q, nL⟩ := Y
  obtain ⟨hx, hb, hml, hown, hts, hK, hce, hcs, hfr, hlo, hnl⟩ := C
  intro hX H locs la hP hS hL
  exact lv_ldc2 hx hb hown (hts _ hw) hd (kk hX H locs la hP hS hL)
theorem mj_iadd (C : Cx K Y cs cc own mL f lo) {x y : Int32} (hd : decode cc pc = .ok (.iadd, 1)) (kk : J SH K Y cs X (pc + 1) ls (.int (x + y) :: st) h) : J SH K Y cs X pc ls (.int y :: .int x :: st) h := by
  obtain ⟨p, e, R, s, m, args, below, meth, c, Q, nL⟩ := Y
  obtain ⟨hx, hb, hml, hown, hts, hK, hce, hcs, hfr, hlo, hnl⟩ := C
  intro hX H locs la hP hS hL
  exact lv_iadd hx hb hd (kk hX H locs la hP hS hL)
theorem mj_isub (C : Cx K Y cs cc own mL f lo) {x y : Int32} (hd : decode cc pc = .ok (.isub, 1)) (kk : J SH K Y cs X (pc + 1) ls (.int (x - y) :: st) h) : J SH K Y cs X pc ls (.int y :: .int x :: st) h := by
  obtain ⟨p, e, R, s, m, args, below, meth, c, Q, nL⟩ := Y
  obtain ⟨hx, hb, hml, hown, hts, hK, hce, hcs, hfr, hlo, hnl⟩ := C
  intro hX H locs la hP hS hL
  exact lv_isub hx hb hd (kk hX H locs la hP hS hL)
theorem mj_imul (C : Cx K Y cs cc own mL f lo) {x y : Int32} (hd : decode cc pc = .ok (.imul, 1)) (kk : J SH K Y cs X (pc + 1) ls (.int (x * y) :: st) h) : J SH K Y cs X pc ls (.int y :: .int x :: st) h := by
  obtain ⟨p, e, R, s, m, args, below, meth, c, Q, nL⟩ := Y
  obtain ⟨hx, hb, hml, hown, hts, hK, hce, hcs, hfr, hlo, hnl⟩ := C
  intro hX H locs la hP hS hL
  exact lv_imul hx hb hd (kk hX H locs la hP hS hL)
theorem mj_iand (C : Cx K Y cs cc own mL f lo) {x y : Int32} (hd : decode cc pc = .ok (.iand, 1)) (kk : J SH K Y cs X (pc + 1) ls (.int (x &&& y) :: st) h) : J SH K Y cs X pc ls (.int y :: .int x :: st) h := by
  obtain ⟨p, e, R, s, m, args, below, meth, c, Q, nL⟩ := Y
  obtain ⟨hx, hb, hml, hown, hts, hK, hce, hcs, hfr, hlo, hnl⟩ := C
  intro hX H locs la hP hS hL
  exact lv_iand hx hb hd (kk hX H locs la hP hS hL)
theorem mj_ior (C : Cx K Y cs cc own mL f lo) {x y : Int32} (hd : decode cc pc = .ok (.ior, 1)) (kk : J SH K Y cs X (pc + 1) ls (.int (x ||| y) :: st) h) : J SH K Y cs X pc ls (.int y :: .int x :: st) h := by
  obtain ⟨p, e, R, s, m, args, below, meth, c, Q, nL⟩ := Y
  obtain ⟨hx, hb, hml, hown, hts, hK, hce, hcs, hfr, hlo, hnl⟩ := C
  intro hX H locs la hP hS hL
  exact lv_ior hx hb hd (kk hX H locs la hP hS hL)
theorem mj_ixor (C : Cx K Y cs cc own mL f lo) {x y : Int32} (hd : decode cc pc = .ok (.ixor, 1)) (kk : J SH K Y cs X (pc + 1) ls (.int (x ^^^ y) :: st) h) : J SH K Y cs X pc ls (.int y :: .int x :: st) h := by
  obtain ⟨p, e, R, s, m, args, below, meth, c, Q, nL⟩ := Y
  obtain ⟨hx, hb, hml, hown, hts, hK, hce, hcs, hfr, hlo, hnl⟩ := C
  intro hX H locs la hP hS hL
  exact lv_ixor hx hb hd (kk hX H locs la hP hS hL)
theorem mj_ishl (C : Cx K Y cs cc own mL f lo) {x y : Int32} (hd : decode cc pc = .ok (.ishl, 1)) (kk : J SH K Y cs X (pc + 1) ls (.int (x <<< (y &&& 31)) :: st) h) : J SH K Y cs X pc ls (.int y :: .int x :: st) h := by
  obtain ⟨p, e, R, s, m, args, below, meth, c, Q, nL⟩ := Y
  obtain ⟨hx, hb, hml, hown, hts, hK, hce, hcs, hfr, hlo, hnl⟩ := C
  intro hX H locs la hP hS hL
  exact lv_ishl hx hb hd (kk hX H locs la hP hS hL)
theorem mj_ishr (C : Cx K Y cs cc own mL f lo) {x y : Int32} (hd : decode cc pc = .ok (.ishr, 1)) (kk : J SH K Y cs X (pc + 1) ls (.int (x >>> (y &&& 31)) :: st) h) : J SH K Y cs X pc ls (.int y :: .int x :: st) h := by
  obtain ⟨p, e, R, s, m, args, below, meth, c, Q, nL⟩ := Y
  obtain ⟨hx, hb, hml, hown, hts, hK, hce, hcs, hfr, hlo, hnl⟩ := C
  intro hX H locs la hP hS hL
  exact lv_ishr hx hb hd (kk hX H locs la hP hS hL)
theorem mj_ladd (C : Cx K Y cs cc own mL f lo) {x y : Int64} (hd : decode cc pc = .ok (.ladd, 1)) (kk : J SH K Y cs X (pc + 1) ls (.long (x + y) :: st) h) : J SH K Y cs X pc ls (.long y :: .long x :: st) h := by
  obtain ⟨p, e, R, s, m, args, below, meth, c, Q, nL⟩ := Y
  obtain ⟨hx, hb, hml, hown, hts, hK, hce, hcs, hfr, hlo, hnl⟩ := C
  intro hX H locs la hP hS hL
  exact lv_ladd hx hb hd (kk hX H locs la hP hS hL)
theorem mj_lmul (C : Cx K Y cs cc own mL f lo) {x y : Int64} (hd : decode cc pc = .ok (.lmul, 1)) (kk : J SH K Y cs X (pc + 1) ls (.long (x * y) :: st) h) : J SH K Y cs X pc ls (.long y :: .long x :: st) h := by
  obtain ⟨p, e, R, s, m, args, below, meth, c, Q, nL⟩ := Y
  obtain ⟨hx, hb, hml, hown, hts, hK, hce, hcs, hfr, hlo, hnl⟩ := C
  intro hX H locs la hP hS hL
  exact lv_lmul hx hb hd (kk hX H locs la hP hS hL)
theorem mj_land (C : Cx K Y cs cc own mL f lo) {x y : Int64} (hd : decode cc pc = .ok (.land, 1)) (kk : J SH K Y cs X (pc + 1) ls (.long (x &&& y) :: st) h) : J SH K Y cs X pc ls (.long y :: .long x :: st) h := by
  obtain ⟨p, e, R, s, m, args, below, meth, c, Q, nL⟩ := Y
  obtain ⟨hx, hb, hml, hown, hts, hK, hce, hcs, hfr, hlo, hnl⟩ := C
  intro hX H locs la hP hS hL
  exact lv_land hx hb hd (kk hX H locs la hP hS hL)
theorem mj_iushr (C : Cx K Y cs cc own mL f lo) {x y : Int32} (hd : decode cc pc = .ok (.iushr, 1)) (kk : J SH K Y cs X (pc + 1) ls (.int ((x.toUInt32 >>> (y.toUInt32 &&& Int32.toUInt32 31)).toInt32) :: st) h) : J SH K Y cs X pc ls (.int y :: .int x :: st) h := by
  obtain ⟨p, e, R, s, m, args, below, meth, c, Q, nL⟩ := Y
  obtain ⟨hx, hb, hml, hown, hts, hK, hce, hcs, hfr, hlo, hnl⟩ := C
  intro hX H locs la hP hS hL
  exact lv_iushr hx hb hd rfl (kk hX H locs la hP hS hL)
theorem mj_lcmp (C : Cx K Y cs cc own mL f lo) {x y : Int64} (hd : decode cc pc = .ok (.lcmp, 1)) (kk : J SH K Y cs X (pc + 1) ls (.int (lg_cmp x y) :: st) h) : J SH K Y cs X pc ls (.long y :: .long x :: st) h := by
  obtain ⟨p, e, R, s, m, args, below, meth, c, Q, nL⟩ := Y
  obtain ⟨hx, hb, hml, hown, hts, hK, hce, hcs, hfr, hlo, hnl⟩ := C
  intro hX H locs la hP hS hL
  exact W.lcmp hx hb hd (kk hX H locs la hP hS hL)
theorem mj_i2l (C : Cx K Y cs cc own mL f lo) {x : Int32} (hd : decode cc pc = .ok (.i2l, 1)) (kk : J SH K Y cs X (pc + 1) ls (.long x.toInt64 :: st) h) : J SH K Y cs X pc ls (.int x :: st) h := by
  obtain ⟨p, e, R, s, m, args, below, meth, c, Q, nL⟩ := Y
  obtain ⟨hx, hb, hml, hown, hts, hK, hce, hcs, hfr, hlo, hnl⟩ := C
  intro hX H locs la hP hS hL
  exact lv_i2l hx hb hd rfl (kk hX H locs la hP hS hL)
theorem mj_l2i (C : Cx K Y cs cc own mL f lo) {x : Int64} (hd : decode cc pc = .ok (.l2i, 1)) (kk : J SH K Y cs X (pc + 1) ls (.int x.toInt32 :: st) h) : J SH K Y cs X pc ls (.long x :: st) h := by
  obtain ⟨p, e, R, s, m, args, below, meth, c, Q, nL⟩ := Y
  obtain ⟨hx, hb, hml, hown, hts, hK, hce, hcs, hfr, hlo, hnl⟩ := C
  intro hX H locs la hP hS hL
  exact lv_l2i hx hb hd rfl (kk hX H locs la hP hS hL)
theorem mj_dup (C : Cx K Y cs cc own mL f lo) {v : Value} (hd : decode cc pc = .ok (.dup, 1)) (hv : v.category = 1) (kk : J SH K Y cs X (pc + 1) ls (v :: v :: st) h) : J SH K Y cs X pc ls (v :: st) h := by
  obtain ⟨p, e, R, s, m, args, below, meth, c, Q, nL⟩ := Y
  obtain ⟨hx, hb, hml, hown, hts, hK, hce, hcs, hfr, hlo, hnl⟩ := C
  intro hX H locs la hP hS hL
  exact lv_dup hx hb hd hv (kk hX H locs la hP hS hL)
theorem mj_pop (C : Cx K Y cs cc own mL f lo) {v : Value} (hd : decode cc pc = .ok (.pop, 1)) (hv : v.category = 1) (kk : J SH K Y cs X (pc + 1) ls (st) h) : J SH K Y cs X pc ls (v :: st) h := by
  obtain ⟨p, e, R, s, m, args, below, meth, c, Q, nL⟩ := Y
  obtain ⟨hx, hb, hml, hown, hts, hK, hce, hcs, hfr, hlo, hnl⟩ := C
  intro hX H locs la hP hS hL
  exact lv_pop hx hb hd hv (kk hX H locs la hP hS hL)
theorem mj_dup2 (C : Cx K Y cs cc own mL f lo) {v w : Value} (hd : decode cc pc = .ok (.dup2, 1)) (hv : v.category = 1) (hw : w.category = 1) (kk : J SH K Y cs X (pc + 1) ls (v :: w :: v :: w :: st) h) : J SH K Y cs X pc ls (v :: w :: st) h := by
  obtain ⟨p, e, R, s, m, args, below, meth, c, Q, nL⟩ := Y
  obtain ⟨hx, hb, hml, hown, hts, hK, hce, hcs, hfr, hlo, hnl⟩ := C
  intro hX H locs la hP hS hL
  exact lv_dup2_11 hx hb hd hv hw (kk hX H locs la hP hS hL)
theorem mj_goto (C : Cx K Y cs cc own mL f lo) {off : Int} (tgt : Nat) (hd : decode cc pc = .ok (.goto off, 3)) (ht : (pc : Int) + off = (tgt : Int)) (kk : J SH K Y cs X tgt ls (st) h) : J SH K Y cs X pc ls (st) h := by
  obtain ⟨p, e, R, s, m, args, below, meth, c, Q, nL⟩ := Y
  obtain ⟨hx, hb, hml, hown, hts, hK, hce, hcs, hfr, hlo, hnl⟩ := C
  intro hX H locs la hP hS hL
  exact lv_goto hx hb hd ht (kk hX H locs la hP hS hL)
theorem mj_idiv (C : Cx K Y cs cc own mL f lo) {x y : Int32} (hd : decode cc pc = .ok (.idiv, 1)) (hne : ¬ y = 0) (kk : J SH K Y cs X (pc + 1) ls (.int (x / y) :: st) h) : J SH K Y cs X pc ls (.int y :: .int x :: st) h := by
  obtain ⟨p, e, R, s, m, args, below, meth, c, Q, nL⟩ := Y
  obtain ⟨hx, hb, hml, hown, hts, hK, hce, hcs, hfr, hlo, hnl⟩ := C
  intro hX H locs la hP hS hL
  exact lv_idiv hx hb hd hne (kk hX H locs la hP hS hL)
theorem mj_idivC {α : Type} {E : Option α} {P : α → Prop} (C : Cx K Y cs cc own mL f lo) {x y : Int32} (hd : decode cc pc = .ok (.idiv, 1)) (kk : J SH K Y cs (mj_O E P) (pc + 1) ls (.int (x / y) :: st) h) : J SH K Y cs (mj_O (md_ck (decide (¬ y = 0)) E) P) pc ls (.int y :: .int x :: st) h := mj_ckU (fun hc => mj_idiv C hd (of_decide_eq_true hc) kk)
theorem mj_irem (C : Cx K Y cs cc own mL f lo) {x y : Int32} (hd : decode cc pc = .ok (.irem, 1)) (hne : ¬ y = 0) (kk : J SH K Y cs X (pc + 1) ls (.int (x - x / y * y) :: st) h) : J SH K Y cs X pc ls (.int y :: .int x :: st) h := by
  obtain ⟨p, e, R, s, m, args, below, meth, c, Q, nL⟩ := Y
  obtain ⟨hx, hb, hml, hown, hts, hK, hce, hcs, hfr, hlo, hnl⟩ := C
  intro hX H locs la hP hS hL
  exact lv_irem hx hb hd hne (kk hX H locs la hP hS hL)
theorem mj_iremC {α : Type} {E : Option α} {P : α → Prop} (C : Cx K Y cs cc own mL f lo) {x y : Int32} (hd : decode cc pc = .ok (.irem, 1)) (kk : J SH K Y cs (mj_O E P) (pc + 1) ls (.int (x - x / y * y) :: st) h) : J SH K Y cs (mj_O (md_ck (decide (¬ y = 0)) E) P) pc ls (.int y :: .int x :: st) h := mj_ckU (fun hc => mj_irem C hd (of_decide_eq_true hc) kk)
theorem mj_ldiv (C : Cx K Y cs cc own mL f lo) {x y : Int64} (hd : decode cc pc = .ok (.ldiv, 1)) (hne : ¬ y = 0) (kk : J SH K Y cs X (pc + 1) ls (.long (x / y) :: st) h) : J SH K Y cs X pc ls (.long y :: .long x :: st) h := by
  obtain ⟨p, e, R, s, m, args, below, meth, c, Q, nL⟩ := Y
  obtain ⟨hx, hb, hml, hown, hts, hK, hce, hcs, hfr, hlo, hnl⟩ := C
  intro hX H locs la hP hS hL
  exact lv_ldiv hx hb hd hne (kk hX H locs la hP hS hL)
theorem mj_ldivC {α : Type} {E : Option α} {P : α → Prop} (C : Cx K Y cs cc own mL f lo) {x y : Int64} (hd : decode cc pc = .ok (.ldiv, 1)) (kk : J SH K Y cs (mj_O E P) (pc + 1) ls (.long (x / y) :: st) h) : J SH K Y cs (mj_O (md_ck (decide (¬ y = 0)) E) P) pc ls (.long y :: .long x :: st) h := mj_ckU (fun hc => mj_ldiv C hd (of_decide_eq_true hc) kk)
theorem mj_lrem (C : Cx K Y cs cc own mL f lo) {x y : Int64} (hd : decode cc pc = .ok (.lrem, 1)) (hne : ¬ y = 0) (kk : J SH K Y cs X (pc + 1) ls (.long (x - x / y * y) :: st) h) : J SH K Y cs X pc ls (.long y :: .long x :: st) h := by
  obtain ⟨p, e, R, s, m, args, below, meth, c, Q, nL⟩ := Y
  obtain ⟨hx, hb, hml, hown, hts, hK, hce, hcs, hfr, hlo, hnl⟩ := C
  intro hX H locs la hP hS hL
  exact lv_lrem hx hb hd hne (kk hX H locs la hP hS hL)
theorem mj_lremC {α : Type} {E : Option α} {P : α → Prop} (C : Cx K Y cs cc own mL f lo) {x y : Int64} (hd : decode cc pc = .ok (.lrem, 1)) (kk : J SH K Y cs (mj_O E P) (pc + 1) ls (.long (x - x / y * y) :: st) h) : J SH K Y cs (mj_O (md_ck (decide (¬ y = 0)) E) P) pc ls (.long y :: .long x :: st) h := mj_ckU (fun hc => mj_lrem C hd (of_decide_eq_true hc) kk)
theorem mj_istore_n (C : Cx K Y cs cc own mL f lo) {k : Fin 4} {i : Nat} {x : Int32} (l' : List (Nat × Value)) (hd : decode cc pc = .ok (.istore_n k, 1)) (hi : (k : Nat) = i) (hn : i < mL) (hl : (i, .int x) :: ls.filter (fun q => !(q.1 == i) && !(q.1 + 1 == i && q.2.category == 2)) = l') (kk : J SH K Y cs X (pc + 1) l' st h) : J SH K Y cs X pc ls (.int x :: st) h := by
  obtain ⟨p, e, R, s, m, args, below, meth, c, Q, nL⟩ := Y
  obtain ⟨hx, hb, hml, hown, hts, hK, hce, hcs, hfr, hlo, hnl⟩ := C
  intro hX H locs la hP hS hL
  exact lv_istore_n hx hb hd hi hL (by rw [hnl]; exact hn) hl (fun la hL => kk hX H locs la hP hS hL)
theorem mj_istore_nL {β : Type} {P : β → Prop} {k : Int32 → Option β} (C : Cx K Y cs cc own mL f lo) {k0 : Fin 4} {i : Nat} {x : Int32} (l' : Int32 → List (Nat × Value)) (hd : decode cc pc = .ok (.istore_n k0, 1)) (hi : (k0 : Nat) = i) (hn : i < mL) (hl : (i, .int x) :: ls.filter (fun q => !(q.1 == i) && !(q.1 + 1 == i && q.2.category == 2)) = l' x) (kk : ∀ v : Int32, J SH K Y cs (mj_O (k v) P) (pc + 1) (l' v) st h) : J SH K Y cs (mj_O (md_lt x k) P) pc ls (.int x :: st) h := mj_istore_n C (l' x) hd hi hn hl (kk x)
theorem mj_istore (C : Cx K Y cs cc own mL f lo)  {i : Nat} {x : Int32} (l' : List (Nat × Value)) (hd : decode cc pc = .ok (.istore i, 2))  (hn : i < mL) (hl : (i, .int x) :: ls.filter (fun q => !(q.1 == i) && !(q.1 + 1 == i && q.2.category == 2)) = l') (kk : J SH K Y cs X (pc + 2) l' st h) : J SH K Y cs X pc ls (.int x :: st) h := by
  obtain ⟨p, e, R, s, m, args, below, meth, c, Q, nL⟩ := Y
  obtain ⟨hx, hb, hml, hown, hts, hK, hce, hcs, hfr, hlo, hnl⟩ := C
  intro hX H locs la hP hS hL
  exact lv_istore hx hb hd hL (by rw [hnl]; exact hn) hl (fun la hL => kk hX H locs la hP hS hL)
theorem mj_istoreL {β : Type} {P : β → Prop} {k : Int32 → Option β} (C : Cx K Y cs cc own mL f lo)  {i : Nat} {x : Int32} (l' : Int32 → List (Nat × Value)) (hd : decode cc pc = .ok (.istore i, 2))  (hn : i < mL) (hl : (i, .int x) :: ls.filter (fun q => !(q.1 == i) && !(q.1 + 1 == i && q.2.category == 2)) = l' x) (kk : ∀ v : Int32, J SH K Y cs (mj_O (k v) P) (pc + 2) (l' v) st h) : J SH K Y cs (mj_O (md_lt x k) P) pc ls (.int x :: st) h := mj_istore C (l' x) hd hn hl (kk x)
theorem mj_astore_n (C : Cx K Y cs cc own mL f lo) {k : Fin 4} {i x : Nat} (l' : List (Nat × Value)) (hd : decode cc pc = .ok (.astore_n k, 1)) (hi : (k : Nat) = i) (hn : i < mL) (hl : (i, rf K x) :: ls.filter (fun q => !(q.1 == i) && !(q.1 + 1 == i && q.2.category == 2)) = l') (kk : J SH K Y cs X (pc + 1) l' st h) : J SH K Y cs X pc ls (rf K x :: st) h := by
  obtain ⟨p, e, R, s, m, args, below, meth, c, Q, nL⟩ := Y
  obtain ⟨hx, hb, hml, hown, hts, hK, hce, hcs, hfr, hlo, hnl⟩ := C
  intro hX H locs la hP hS hL
  exact lv_astore_n hx hb hd hi hL (by rw [hnl]; exact hn) hl (fun la hL => kk hX H locs la hP hS hL)
theorem mj_lstore_n (C : Cx K Y cs cc own mL f lo) {k : Fin 4} {i : Nat} {x : Int64} (l' : List (Nat × Value)) (hd : decode cc pc = .ok (.lstore_n k, 1)) (hi : (k : Nat) = i) (hn : i + 1 < mL) (hl : (i, .long x) :: ls.filter (fun q => !(q.1 == i) && (!(q.1 == i + 1) && !(q.1 + 1 == i && q.2.category == 2))) = l') (kk : J SH K Y cs X (pc + 1) l' st h) : J SH K Y cs X pc ls (.long x :: st) h := by
  obtain ⟨p, e, R, s, m, args, below, meth, c, Q, nL⟩ := Y
  obtain ⟨hx, hb, hml, hown, hts, hK, hce, hcs, hfr, hlo, hnl⟩ := C
  intro hX H locs la hP hS hL
  exact lv_lstore_n hx hb hd hi hL (by rw [hnl]; exact hn) hl (fun la hL => kk hX H locs la hP hS hL)
theorem mj_lstore_nL {β : Type} {P : β → Prop} {k : Int64 → Option β} (C : Cx K Y cs cc own mL f lo) {k0 : Fin 4} {i : Nat} {x : Int64} (l' : Int64 → List (Nat × Value)) (hd : decode cc pc = .ok (.lstore_n k0, 1)) (hi : (k0 : Nat) = i) (hn : i + 1 < mL) (hl : (i, .long x) :: ls.filter (fun q => !(q.1 == i) && (!(q.1 == i + 1) && !(q.1 + 1 == i && q.2.category == 2))) = l' x) (kk : ∀ v : Int64, J SH K Y cs (mj_O (k v) P) (pc + 1) (l' v) st h) : J SH K Y cs (mj_O (md_lt x k) P) pc ls (.long x :: st) h := mj_lstore_n C (l' x) hd hi hn hl (kk x)
theorem mj_iinc (C : Cx K Y cs cc own mL f lo) {i : Nat} {n : Int} {x : Int32} (v : Int32) (q : Nat) (l' : List (Nat × Value)) (hd : decode cc pc = .ok (.iinc i n, 3)) (hk : ls[q]? = some (i, .int x)) (hv : x + Int32.ofInt n = v) (hn : i < mL) (hl : (i, .int v) :: ls.filter (fun q => !(q.1 == i) && !(q.1 + 1 == i && q.2.category == 2)) = l') (kk : J SH K Y cs X (pc + 3) l' st h) : J SH K Y cs X pc ls st h := by
  obtain ⟨p, e, R, s, m, args, below, meth, c, Q, nL⟩ := Y
  obtain ⟨hx, hb, hml, hown, hts, hK, hce, hcs, hfr, hlo, hnl⟩ := C
  intro hX H locs la hP hS hL
  exact lv_iinc hx hb hd hL hk hv (by rw [hnl]; exact hn) hl (fun la hL => kk hX H locs la hP hS hL)
theorem mj_if_eq {α : Type} {A B : Option α} {P : α → Prop} (C : Cx K Y cs cc own mL f lo) {x : Int32} {off : Int} (tgt : Nat) (hd : decode cc pc = .ok (.ifCond .eq off, 3)) (ht : (pc : Int) + off = (tgt : Int)) (kt : J SH K Y cs (mj_O A P) tgt ls st h) (kf : J SH K Y cs (mj_O B P) (pc + 3) ls st h) : J SH K Y cs (mj_O (if x = 0 then A else B) P) pc ls (.int x :: st) h := by
  obtain ⟨p, e, R, s, m, args, below, meth, c, Q, nL⟩ := Y
  obtain ⟨hx, hb, hml, hown, hts, hK, hce, hcs, hfr, hlo, hnl⟩ := C
  intro hX H locs la hP hS hL
  exact lv_if_eq hx hb hd ht (fun c1 => kt (by rwa [if_pos c1] at hX) H locs la hP hS hL) (fun c1 => kf (by rwa [if_neg c1] at hX) H locs la hP hS hL)
theorem mj_icmp_eq {α : Type} {A B : Option α} {P : α → Prop} (C : Cx K Y cs cc own mL f lo) {x y : Int32} {off : Int} (tgt : Nat) (hd : decode cc pc = .ok (.if_icmp .eq off, 3)) (ht : (pc : Int) + off = (tgt : Int)) (kt : J SH K Y cs (mj_O A P) tgt ls st h) (kf : J SH K Y cs (mj_O B P) (pc + 3) ls st h) : J SH K Y cs (mj_O (if x = y then A else B) P) pc ls (.int y :: .int x :: st) h := by
  obtain ⟨p, e, R, s, m, args, below, meth, c, Q, nL⟩ := Y
  obtain ⟨hx, hb, hml, hown, hts, hK, hce, hcs, hfr, hlo, hnl⟩ := C
  intro hX H locs la hP hS hL
  exact lv_icmp_eq hx hb hd ht (fun c1 => kt (by rwa [if_pos c1] at hX) H locs la hP hS hL) (fun c1 => kf (by rwa [if_neg c1] at hX) H locs la hP hS hL)
theorem mj_if_ne {α : Type} {A B : Option α} {P : α → Prop} (C : Cx K Y cs cc own mL f lo) {x : Int32} {off : Int} (tgt : Nat) (hd : decode cc pc = .ok (.ifCond .ne off, 3)) (ht : (pc : Int) + off = (tgt : Int)) (kt : J SH K Y cs (mj_O B P) tgt ls st h) (kf : J SH K Y cs (mj_O A P) (pc + 3) ls st h) : J SH K Y cs (mj_O (if x = 0 then A else B) P) pc ls (.int x :: st) h := by
  obtain ⟨p, e, R, s, m, args, below, meth, c, Q, nL⟩ := Y
  obtain ⟨hx, hb, hml, hown, hts, hK, hce, hcs, hfr, hlo, hnl⟩ := C
  intro hX H locs la hP hS hL
  exact lv_if_ne hx hb hd ht (fun c1 => kt (by rwa [if_neg c1] at hX) H locs la hP hS hL) (fun c1 => kf (by rwa [if_pos c1] at hX) H locs la hP hS hL)
theorem mj_icmp_ne {α : Type} {A B : Option α} {P : α → Prop} (C : Cx K Y cs cc own mL f lo) {x y : Int32} {off : Int} (tgt : Nat) (hd : decode cc pc = .ok (.if_icmp .ne off, 3)) (ht : (pc : Int) + off = (tgt : Int)) (kt : J SH K Y cs (mj_O B P) tgt ls st h) (kf : J SH K Y cs (mj_O A P) (pc + 3) ls st h) : J SH K Y cs (mj_O (if x = y then A else B) P) pc ls (.int y :: .int x :: st) h := by
  obtain ⟨p, e, R, s, m, args, below, meth, c, Q, nL⟩ := Y
  obtain ⟨hx, hb, hml, hown, hts, hK, hce, hcs, hfr, hlo, hnl⟩ := C
  intro hX H locs la hP hS hL
  exact lv_icmp_ne hx hb hd ht (fun c1 => kt (by rwa [if_neg c1] at hX) H locs la hP hS hL) (fun c1 => kf (by rwa [if_pos c1] at hX) H locs la hP hS hL)
theorem mj_if_lt {α : Type} {A B : Option α} {P : α → Prop} (C : Cx K Y cs cc own mL f lo) {x : Int32} {off : Int} (tgt : Nat) (hd : decode cc pc = .ok (.ifCond .lt off, 3)) (ht : (pc : Int) + off = (tgt : Int)) (kt : J SH K Y cs (mj_O A P) tgt ls st h) (kf : J SH K Y cs (mj_O B P) (pc + 3) ls st h) : J SH K Y cs (mj_O (if x < 0 then A else B) P) pc ls (.int x :: st) h := by
  obtain ⟨p, e, R, s, m, args, below, meth, c, Q, nL⟩ := Y
  obtain ⟨hx, hb, hml, hown, hts, hK, hce, hcs, hfr, hlo, hnl⟩ := C
  intro hX H locs la hP hS hL
  exact lv_if_lt hx hb hd ht (fun c1 => kt (by rwa [if_pos c1] at hX) H locs la hP hS hL) (fun c1 => kf (by rwa [if_neg c1] at hX) H locs la hP hS hL)
theorem mj_icmp_lt {α : Type} {A B : Option α} {P : α → Prop} (C : Cx K Y cs cc own mL f lo) {x y : Int32} {off : Int} (tgt : Nat) (hd : decode cc pc = .ok (.if_icmp .lt off, 3)) (ht : (pc : Int) + off = (tgt : Int)) (kt : J SH K Y cs (mj_O A P) tgt ls st h) (kf : J SH K Y cs (mj_O B P) (pc + 3) ls st h) : J SH K Y cs (mj_O (if x < y then A else B) P) pc ls (.int y :: .int x :: st) h := by
  obtain ⟨p, e, R, s, m, args, below, meth, c, Q, nL⟩ := Y
  obtain ⟨hx, hb, hml, hown, hts, hK, hce, hcs, hfr, hlo, hnl⟩ := C
  intro hX H locs la hP hS hL
  exact lv_icmp_lt hx hb hd ht (fun c1 => kt (by rwa [if_pos c1] at hX) H locs la hP hS hL) (fun c1 => kf (by rwa [if_neg c1] at hX) H locs la hP hS hL)
theorem mj_if_ge {α : Type} {A B : Option α} {P : α → Prop} (C : Cx K Y cs cc own mL f lo) {x : Int32} {off : Int} (tgt : Nat) (hd : decode cc pc = .ok (.ifCond .ge off, 3)) (ht : (pc : Int) + off = (tgt : Int)) (kt : J SH K Y cs (mj_O A P) tgt ls st h) (kf : J SH K Y cs (mj_O B P) (pc + 3) ls st h) : J SH K Y cs (mj_O (if 0 ≤ x then A else B) P) pc ls (.int x :: st) h := by
  obtain ⟨p, e, R, s, m, args, below, meth, c, Q, nL⟩ := Y
  obtain ⟨hx, hb, hml, hown, hts, hK, hce, hcs, hfr, hlo, hnl⟩ := C
  intro hX H locs la hP hS hL
  exact lv_if_ge hx hb hd ht (fun c1 => kt (by rwa [if_pos c1] at hX) H locs la hP hS hL) (fun c1 => kf (by rwa [if_neg c1] at hX) H locs la hP hS hL)
theorem mj_icmp_ge {α : Type} {A B : Option α} {P : α → Prop} (C : Cx K Y cs cc own mL f lo) {x y : Int32} {off : Int} (tgt : Nat) (hd : decode cc pc = .ok (.if_icmp .ge off, 3)) (ht : (pc : Int) + off = (tgt : Int)) (kt : J SH K Y cs (mj_O A P) tgt ls st h) (kf : J SH K Y cs (mj_O B P) (pc + 3) ls st h) : J SH K Y cs (mj_O (if y ≤ x then A else B) P) pc ls (.int y :: .int x :: st) h := by
  obtain ⟨p, e, R, s, m, args, below, meth, c, Q, nL⟩ := Y
  obtain ⟨hx, hb, hml, hown, hts, hK, hce, hcs, hfr, hlo, hnl⟩ := C
  intro hX H locs la hP hS hL
  exact lv_icmp_ge hx hb hd ht (fun c1 => kt (by rwa [if_pos c1] at hX) H locs la hP hS hL) (fun c1 => kf (by rwa [if_neg c1] at hX) H locs la hP hS hL)
theorem mj_if_gt {α : Type} {A B : Option α} {P : α → Prop} (C : Cx K Y cs cc own mL f lo) {x : Int32} {off : Int} (tgt : Nat) (hd : decode cc pc = .ok (.ifCond .gt off, 3)) (ht : (pc : Int) + off = (tgt : Int)) (kt : J SH K Y cs (mj_O A P) tgt ls st h) (kf : J SH K Y cs (mj_O B P) (pc + 3) ls st h) : J SH K Y cs (mj_O (if 0 < x then A else B) P) pc ls (.int x :: st) h := by
  obtain ⟨p, e, R, s, m, args, below, meth, c, Q, nL⟩ := Y
  obtain ⟨hx, hb, hml, hown, hts, hK, hce, hcs, hfr, hlo, hnl⟩ := C
  intro hX H locs la hP hS hL
  exact lv_if_gt hx hb hd ht (fun c1 => kt (by rwa [if_pos c1] at hX) H locs la hP hS hL) (fun c1 => kf (by rwa [if_neg c1] at hX) H locs la hP hS hL)
theorem mj_icmp_gt {α : Type} {A B : Option α} {P : α → Prop} (C : Cx K Y cs cc own mL f lo) {x y : Int32} {off : Int} (tgt : Nat) (hd : decode cc pc = .ok (.if_icmp .gt off, 3)) (ht : (pc : Int) + off = (tgt : Int)) (kt : J SH K Y cs (mj_O A P) tgt ls st h) (kf : J SH K Y cs (mj_O B P) (pc + 3) ls st h) : J SH K Y cs (mj_O (if y < x then A else B) P) pc ls (.int y :: .int x :: st) h := by
  obtain ⟨p, e, R, s, m, args, below, meth, c, Q, nL⟩ := Y
  obtain ⟨hx, hb, hml, hown, hts, hK, hce, hcs, hfr, hlo, hnl⟩ := C
  intro hX H locs la hP hS hL
  exact lv_icmp_gt hx hb hd ht (fun c1 => kt (by rwa [if_pos c1] at hX) H locs la hP hS hL) (fun c1 => kf (by rwa [if_neg c1] at hX) H locs la hP hS hL)
theorem mj_if_le {α : Type} {A B : Option α} {P : α → Prop} (C : Cx K Y cs cc own mL f lo) {x : Int32} {off : Int} (tgt : Nat) (hd : decode cc pc = .ok (.ifCond .le off, 3)) (ht : (pc : Int) + off = (tgt : Int)) (kt : J SH K Y cs (mj_O A P) tgt ls st h) (kf : J SH K Y cs (mj_O B P) (pc + 3) ls st h) : J SH K Y cs (mj_O (if x ≤ 0 then A else B) P) pc ls (.int x :: st) h := by
  obtain ⟨p, e, R, s, m, args, below, meth, c, Q, nL⟩ := Y
  obtain ⟨hx, hb, hml, hown, hts, hK, hce, hcs, hfr, hlo, hnl⟩ := C
  intro hX H locs la hP hS hL
  exact lv_if_le hx hb hd ht (fun c1 => kt (by rwa [if_pos c1] at hX) H locs la hP hS hL) (fun c1 => kf (by rwa [if_neg c1] at hX) H locs la hP hS hL)
theorem mj_icmp_le {α : Type} {A B : Option α} {P : α → Prop} (C : Cx K Y cs cc own mL f lo) {x y : Int32} {off : Int} (tgt : Nat) (hd : decode cc pc = .ok (.if_icmp .le off, 3)) (ht : (pc : Int) + off = (tgt : Int)) (kt : J SH K Y cs (mj_O A P) tgt ls st h) (kf : J SH K Y cs (mj_O B P) (pc + 3) ls st h) : J SH K Y cs (mj_O (if x ≤ y then A else B) P) pc ls (.int y :: .int x :: st) h := by
  obtain ⟨p, e, R, s, m, args, below, meth, c, Q, nL⟩ := Y
  obtain ⟨hx, hb, hml, hown, hts, hK, hce, hcs, hfr, hlo, hnl⟩ := C
  intro hX H locs la hP hS hL
  exact lv_icmp_le hx hb hd ht (fun c1 => kt (by rwa [if_pos c1] at hX) H locs la hP hS hL) (fun c1 => kf (by rwa [if_neg c1] at hX) H locs la hP hS hL)
theorem mj_b_eq {α : Type} {A B : Option α} {P : α → Prop} (C : Cx K Y cs cc own mL f lo) {v : Bool} {off : Int} (tgt : Nat) (hd : decode cc pc = .ok (.ifCond .eq off, 3)) (ht : (pc : Int) + off = (tgt : Int)) (kt : J SH K Y cs (mj_O B P) tgt ls st h) (kf : J SH K Y cs (mj_O A P) (pc + 3) ls st h) : J SH K Y cs (mj_O (if v = true then A else B) P) pc ls (.int (md_bi v) :: st) h := by
  obtain ⟨p, e, R, s, m, args, below, meth, c, Q, nL⟩ := Y
  obtain ⟨hx, hb, hml, hown, hts, hK, hce, hcs, hfr, hlo, hnl⟩ := C
  intro hX H locs la hP hS hL
  exact lv_if_eq hx hb hd ht (fun c1 => kt (by rw [md_bi_0] at c1; subst c1; exact hX) H locs la hP hS hL) (fun c1 => kf (by rw [md_bi_0] at c1; rw [if_pos (by simpa using c1)] at hX; exact hX) H locs la hP hS hL)
theorem mj_b_ne {α : Type} {A B : Option α} {P : α → Prop} (C : Cx K Y cs cc own mL f lo) {v : Bool} {off : Int} (tgt : Nat) (hd : decode cc pc = .ok (.ifCond .ne off, 3)) (ht : (pc : Int) + off = (tgt : Int)) (kt : J SH K Y cs (mj_O A P) tgt ls st h) (kf : J SH K Y cs (mj_O B P) (pc + 3) ls st h) : J SH K Y cs (mj_O (if v = true then A else B) P) pc ls (.int (md_bi v) :: st) h := by
  obtain ⟨p, e, R, s, m, args, below, meth, c, Q, nL⟩ := Y
  obtain ⟨hx, hb, hml, hown, hts, hK, hce, hcs, hfr, hlo, hnl⟩ := C
  intro hX H locs la hP hS hL
  exact lv_if_ne hx hb hd ht (fun c1 => kt (by rw [md_bi_0] at c1; rw [if_pos (by simpa using c1)] at hX; exact hX) H locs la hP hS hL) (fun c1 => kf (by rw [md_bi_0] at c1; subst c1; exact hX) H locs la hP hS hL)
theorem mj_sw0 {α : Type} {E : Option α} {P : α → Prop} {x : Int32} (kk : J SH K Y cs (x ∉ ([] : List Int32) ∧ mj_O E P) pc ls (.int x :: st) h) : J SH K Y cs (mj_O E P) pc ls (.int x :: st) h := mj_X (fun q => ⟨List.not_mem_nil, q⟩) kk
theorem mj_tcase {α : Type} {A B : Option α} {P : α → Prop} (C : Cx K Y cs cc own mL f lo) {x : Int32} {L : List Int32} {dflt lw hg : Int} {offs : Array Int} {len : Nat} (v : Int32) (tgt : Nat) {off : Int} (hd : decode cc pc = .ok (.tableswitch dflt lw hg offs, len)) (h1 : ¬ v.toInt < lw) (h2 : ¬ hg < v.toInt) (ho : offs[(v.toInt - lw).toNat]? = some off) (ht : (pc : Int) + off = (tgt : Int)) (kt : J SH K Y cs (mj_O A P) tgt ls st h) (kf : J SH K Y cs (x ∉ v :: L ∧ mj_O B P) pc ls (.int x :: st) h) : J SH K Y cs (x ∉ L ∧ mj_O (if x = v then A else B) P) pc ls (.int x :: st) h := by
  by_cases hv : x = v
  · refine mj_X (X' := mj_O A P) (fun q => by have := q.2; rwa [if_pos hv] at this) ?_
    subst hv
    obtain ⟨p, e, R, s, m, args, below, meth, c, Q, nL⟩ := Y
    obtain ⟨hx, hb, hml, hown, hts, hK, hce, hcs, hfr, hlo, hnl⟩ := C
    intro hX H locs la hP hS hL
    exact lv_tableIn hx hb hd h1 h2 ho ht (kt hX H locs la hP hS hL)
  · exact mj_X (fun q => ⟨fun hm => (List.mem_cons.mp hm).elim hv q.1, by have := q.2; rwa [if_neg hv] at this⟩) kf
theorem mj_tdflt {α : Type} {E : Option α} {P : α → Prop} (C : Cx K Y cs cc own mL f lo) {x : Int32} {L : List Int32} {dflt lw hg : Int} {offs : Array Int} {len : Nat} (tgt n : Nat) (hd : decode cc pc = .ok (.tableswitch dflt lw hg offs, len)) (hcov : ∀ i : Nat, i < n → Int32.ofInt (lw + i) ∈ L) (hn : hg = lw + (n : Int) - 1) (ht : (pc : Int) + dflt = (tgt : Int)) (kk : J SH K Y cs (mj_O E P) tgt ls st h) : J SH K Y cs (x ∉ L ∧ mj_O E P) pc ls (.int x :: st) h := by
  obtain ⟨p, e, R, s, m, args, below, meth, c, Q, nL⟩ := Y
  obtain ⟨hx, hb, hml, hown, hts, hK, hce, hcs, hfr, hlo, hnl⟩ := C
  intro hX H locs la hP hS hL
  refine lv_tableOut hx hb hd ?_ ht (kk hX.2 H locs la hP hS hL)
  rcases Int.lt_or_le x.toInt lw with q | q
  · exact Or.inl q
  · rcases Int.lt_or_le hg x.toInt with q2 | q2
    · exact Or.inr q2
    · exfalso
      have h3 := hcov (x.toInt - lw).toNat (by omega)
      rw [show lw + ((x.toInt - lw).toNat : Int) = x.toInt by omega, Int32.ofInt_toInt] at h3
      exact hX.1 h3
theorem mj_lcase {α : Type} {A B : Option α} {P : α → Prop} (C : Cx K Y cs cc own mL f lo) {x : Int32} {L : List Int32} {dflt : Int} {ps : Array (Int × Int)} {len : Nat} (v : Int32) (tgt : Nat) {off : Int} (hd : decode cc pc = .ok (.lookupswitch dflt ps, len)) (hp : (ps.toList.zip (ps.toList.drop 1)).all (fun (a, next) => a.1 < next.1) = true) (ho : Op.lookupswitch.offset ps.toList dflt v.toInt = off) (ht : (pc : Int) + off = (tgt : Int)) (kt : J SH K Y cs (mj_O A P) tgt ls st h) (kf : J SH K Y cs (x ∉ v :: L ∧ mj_O B P) pc ls (.int x :: st) h) : J SH K Y cs (x ∉ L ∧ mj_O (if x = v then A else B) P) pc ls (.int x :: st) h := by
  by_cases hv : x = v
  · refine mj_X (X' := mj_O A P) (fun q => by have := q.2; rwa [if_pos hv] at this) ?_
    subst hv
    obtain ⟨p, e, R, s, m, args, below, meth, c, Q, nL⟩ := Y
    obtain ⟨hx, hb, hml, hown, hts, hK, hce, hcs, hfr, hlo, hnl⟩ := C
    intro hX H locs la hP hS hL
    exact lv_lookup hx hb hd hp ho ht (kt hX H locs la hP hS hL)
  · exact mj_X (fun q => ⟨fun hm => (List.mem_cons.mp hm).elim hv q.1, by have := q.2; rwa [if_neg hv] at this⟩) kf
theorem mj_ldflt {α : Type} {E : Option α} {P : α → Prop} (C : Cx K Y cs cc own mL f lo) {x : Int32} {L : List Int32} {dflt : Int} {ps : Array (Int × Int)} {len : Nat} (tgt : Nat) (hd : decode cc pc = .ok (.lookupswitch dflt ps, len)) (hp : (ps.toList.zip (ps.toList.drop 1)).all (fun (a, next) => a.1 < next.1) = true) (hcov : x ∉ L → Op.lookupswitch.offset ps.toList dflt x.toInt = dflt) (ht : (pc : Int) + dflt = (tgt : Int)) (kk : J SH K Y cs (mj_O E P) tgt ls st h) : J SH K Y cs (x ∉ L ∧ mj_O E P) pc ls (.int x :: st) h := by
  obtain ⟨p, e, R, s, m, args, below, meth, c, Q, nL⟩ := Y
  obtain ⟨hx, hb, hml, hown, hts, hK, hce, hcs, hfr, hlo, hnl⟩ := C
  intro hX H locs la hP hS hL
  exact lv_lookup hx hb hd hp (hcov hX.1) ht (kk hX.2 H locs la hP hS hL)
def FFd (own : String) (idx ci j : Nat) : Prop := ∃ (cn : String) (T : u_T) (N : Nat), vwCl[ci]? = some (cn, T, N) ∧ j < N ∧ (∀ w ∈ u_ws cn T N, w ∈ lw_ok) ∧ Cond.fieldLink own idx (T j).1 (T j).2.1 (T j).2.2.1 ∈ lw_ok
def FFp (own : String) (idx ci j : Nat) (ty : FieldType) : Prop := ∃ (cn : String) (T : u_T) (N : Nat) (ty0 : Nat → FieldType), vwCl[ci]? = some (cn, T, N) ∧ j < N ∧ (∀ w ∈ u_ws cn T N, w ∈ lw_ok) ∧ Cond.fieldLink own idx (T j).1 (T j).2.1 (T j).2.2.1 ∈ lw_ok ∧ (∀ k, k < N → parseFieldDescriptor (T k).2.2.1 = some (ty0 k)) ∧ (∀ a, a < N → ∀ b, b < N → a ≠ b → (T a).2.1 ≠ (T b).2.1) ∧ (T j).2.2.2 = false ∧ parseFieldDescriptor (T j).2.2.1 = some ty
theorem mj_getI (C : Cx K Y cs cc own mL f lo) {idx ci j k z : Nat} {ks : List (Nat × Nat)} (F : FFd own idx ci j) (hd : decode cc pc = .ok (.getfield idx, 3)) (hs : SH[k]? = some (.inl (ci, ks))) (hk : ks[j]? = some (0, z)) (kk : J SH K Y cs X (pc + 3) ls (.int (h k j) :: st) h) : J SH K Y cs X pc ls (rf K k :: st) h := by
  obtain ⟨p, e, R, s, m, args, below, meth, c, Q, nL⟩ := Y
  obtain ⟨hx, hb, hml, hown, hts, hK, hce, hcs, hfr, hlo, hnl⟩ := C
  intro hX H locs la hP hS hL
  obtain ⟨cn, T, N, f1, f2, f3, f4⟩ := F
  exact va_get hx hb hts f3 hown hK hP k (wl_at hs) f1 j f2 (hts _ f4) (fun _ h9 => h9) (by simp [List.getElem?_mapIdx, hk, fv]) hd (kk hX H locs la hP hS hL)
theorem mj_getR (C : Cx K Y cs cc own mL f lo) {idx ci j k q : Nat} {ks : List (Nat × Nat)} (F : FFd own idx ci j) (hd : decode cc pc = .ok (.getfield idx, 3)) (hs : SH[k]? = some (.inl (ci, ks))) (hk : ks[j]? = some (1, q)) (kk : J SH K Y cs X (pc + 3) ls (rf K q :: st) h) : J SH K Y cs X pc ls (rf K k :: st) h := by
  obtain ⟨p, e, R, s, m, args, below, meth, c, Q, nL⟩ := Y
  obtain ⟨hx, hb, hml, hown, hts, hK, hce, hcs, hfr, hlo, hnl⟩ := C
  intro hX H locs la hP hS hL
  obtain ⟨cn, T, N, f1, f2, f3, f4⟩ := F
  exact va_get hx hb hts f3 hown hK hP k (wl_at hs) f1 j f2 (hts _ f4) (fun _ h9 => h9) (by simp [List.getElem?_mapIdx, hk, fv]) hd (kk hX H locs la hP hS hL)
theorem mj_getM (C : Cx K Y cs cc own mL f lo) {idx ci j k z : Nat} {ks : List (Nat × Nat)} (F : FFd own idx ci j) (hd : decode cc pc = .ok (.getfield idx, 3)) (hs : SH[k]? = some (.inl (ci, ks))) (hk : ks[j]? = some (2, z)) (kk : J SH K Y cs X (pc + 3) ls (rf K (md_dx (h k j)) :: st) h) : J SH K Y cs X pc ls (rf K k :: st) h := by
  obtain ⟨p, e, R, s, m, args, below, meth, c, Q, nL⟩ := Y
  obtain ⟨hx, hb, hml, hown, hts, hK, hce, hcs, hfr, hlo, hnl⟩ := C
  intro hX H locs la hP hS hL
  obtain ⟨cn, T, N, f1, f2, f3, f4⟩ := F
  exact va_get hx hb hts f3 hown hK hP k (wl_at hs) f1 j f2 (hts _ f4) (fun _ h9 => h9) (by simp [List.getElem?_mapIdx, hk, fv]) hd (kk hX H locs la hP hS hL)
theorem mj_putL {β : Type} {P : β → Prop} {k' : Mm → Option β} (C : Cx K Y cs cc own mL f lo) {idx ci j k z : Nat} {ks : List (Nat × Nat)} {v : Int32} {ty : FieldType} (F : FFp own idx ci j ty) (hd : decode cc pc = .ok (.putfield idx, 3)) (hs : SH[k]? = some (.inl (ci, ks))) (hk : ks[j]? = some (0, z)) (hn : narrow ty (.int v) = .int v) (hf : fits ty (.int v) = true) (kk : ∀ h' : Mm, J SH K Y cs (mj_O (k' h') P) (pc + 3) ls st h') : J SH K Y cs (mj_O (md_lt (md_up h k j v) k') P) pc ls (.int v :: rf K k :: st) h := by
  have kk := kk (md_up h k j v)
  obtain ⟨p, e, R, s, m, args, below, meth, c, Q, nL⟩ := Y
  obtain ⟨hx, hb, hml, hown, hts, hK, hce, hcs, hfr, hlo, hnl⟩ := C
  intro hX H locs la hP hS hL
  obtain ⟨cn, T, N, ty0, f1, f2, f3, f4, f5, f6, f7, f8⟩ := F
  refine va_put hx hb hts f3 ty0 f5 f6 hown hK hP (wl_D SH K h) hS k (wl_at hs) f1 j f2 (hts _ f4) (fun _ h9 => h9) f7 f8 hn hf (by simp; exact (List.getElem?_eq_some_iff.mp hk).1) hd (fun H1 locs1 hP1 hD1 hS1 => ?_)
  rw [wl_set (j := j) (v := v) hs (ce_int hk)] at hP1
  exact kk hX H1 locs1 la hP1 hS1 hL
theorem mj_putM {β : Type} {P : β → Prop} {k' : Mm → Option β} (C : Cx K Y cs cc own mL f lo) {idx ci j k q z : Nat} {ks : List (Nat × Nat)} {ty : FieldType} (F : FFp own idx ci j ty) (hd : decode cc pc = .ok (.putfield idx, 3)) (hs : SH[k]? = some (.inl (ci, ks))) (hk : ks[j]? = some (2, z)) (hq : md_dx (md_ex q) = q) (hn : ∀ a, narrow ty (.ref a) = .ref a) (hf : ∀ a, fits ty (.ref a) = true) (kk : ∀ h' : Mm, J SH K Y cs (mj_O (k' h') P) (pc + 3) ls st h') : J SH K Y cs (mj_O (md_lt (md_up h k j (md_ex q)) k') P) pc ls (rf K q :: rf K k :: st) h := by
  have kk := kk (md_up h k j (md_ex q))
  obtain ⟨p, e, R, s, m, args, below, meth, c, Q, nL⟩ := Y
  obtain ⟨hx, hb, hml, hown, hts, hK, hce, hcs, hfr, hlo, hnl⟩ := C
  intro hX H locs la hP hS hL
  obtain ⟨cn, T, N, ty0, f1, f2, f3, f4, f5, f6, f7, f8⟩ := F
  refine va_put hx hb hts f3 ty0 f5 f6 hown hK hP (wl_D SH K h) hS k (wl_at hs) f1 j f2 (hts _ f4) (fun _ h9 => h9) f7 f8 (hn _) (hf _) (by simp; exact (List.getElem?_eq_some_iff.mp hk).1) hd (fun H1 locs1 hP1 hD1 hS1 => ?_)
  rw [wl_set (j := j) (v := md_ex q) hs (ce_ref hk hq)] at hP1
  exact kk hX H1 locs1 la hP1 hS1 hL
theorem mj_iald {α : Type} {E : Option α} {P : α → Prop} (C : Cx K Y cs cc own mL f lo) {k n : Nat} {u : Nat × Nat} {i : Int32} (hd : decode cc pc = .ok (.iaload, 1)) (hs : SH[k]? = some (.inr (0, n, u))) (kk : J SH K Y cs (mj_O E P) (pc + 1) ls (.int (h k i.toNatClampNeg) :: st) h) : J SH K Y cs (mj_O (md_ck (md_in i n) E) P) pc ls (.int i :: rf K k :: st) h := mj_ckU (fun hc => by
  obtain ⟨p, e, R, s, m, args, below, meth, c, Q, nL⟩ := Y
  obtain ⟨hx, hb, hml, hown, hts, hK, hce, hcs, hfr, hlo, hnl⟩ := C
  intro hX H locs la hP hS hL
  exact va_iald hx hb hK hP k 0 (wl_at hs) rfl (md_in_vp hc) hd (kk hX H locs la hP hS hL))
theorem mj_zald {α : Type} {E : Option α} {P : α → Prop} (C : Cx K Y cs cc own mL f lo) {k n : Nat} {u : Nat × Nat} {i : Int32} (hd : decode cc pc = .ok (.baload, 1)) (hs : SH[k]? = some (.inr (1, n, u))) (kk : J SH K Y cs (mj_O E P) (pc + 1) ls (.int (h k i.toNatClampNeg) :: st) h) : J SH K Y cs (mj_O (md_ck (md_in i n) E) P) pc ls (.int i :: rf K k :: st) h := mj_ckU (fun hc => by
  obtain ⟨p, e, R, s, m, args, below, meth, c, Q, nL⟩ := Y
  obtain ⟨hx, hb, hml, hown, hts, hK, hce, hcs, hfr, hlo, hnl⟩ := C
  intro hX H locs la hP hS hL
  exact va_zald hx hb hK hP k 1 (wl_at hs) rfl (md_in_vp hc) hd (kk hX H locs la hP hS hL))
theorem mj_aald {α : Type} {E : Option α} {P : α → Prop} (C : Cx K Y cs cc own mL f lo) {k n q : Nat} {i : Int32} (hd : decode cc pc = .ok (.aaload, 1)) (hs : SH[k]? = some (.inr (2, n, q, n))) (kk : md_in i n = true → J SH K Y cs (mj_O E P) (pc + 1) ls (rf K (q + 2 * i.toNatClampNeg) :: st) h) : J SH K Y cs (mj_O (md_ck (md_in i n) E) P) pc ls (.int i :: rf K k :: st) h := mj_ckU (fun hc => by
  have kk := kk hc
  obtain ⟨p, e, R, s, m, args, below, meth, c, Q, nL⟩ := Y
  obtain ⟨hx, hb, hml, hown, hts, hK, hce, hcs, hfr, hlo, hnl⟩ := C
  intro hX H locs la hP hS hL
  have hlt : i.toNatClampNeg < n := Nat.not_le.mp fun q => (md_in_vp hc) (Or.inr q)
  refine va_aldq hx hb hK hP k 2 (C := RX4) (wl_at hs) rfl (md_in_vp hc) hd ?_
  simp only [if_pos hlt, va_rf]
  exact (kk hX H locs la hP hS hL))
theorem mj_iast {β : Type} {P : β → Prop} {k' : Mm → Option β} (C : Cx K Y cs cc own mL f lo) {k n : Nat} {u : Nat × Nat} {i x : Int32} (hd : decode cc pc = .ok (.iastore, 1)) (hs : SH[k]? = some (.inr (0, n, u))) (kk : ∀ h' : Mm, J SH K Y cs (mj_O (k' h') P) (pc + 1) ls st h') : J SH K Y cs (mj_O (md_ck (md_in i n) (md_lt (md_up h k i.toNatClampNeg x) k')) P) pc ls (.int x :: .int i :: rf K k :: st) h := mj_ckU (fun hc => by
  have kk := kk (md_up h k i.toNatClampNeg x)
  obtain ⟨p, e, R, s, m, args, below, meth, c, Q, nL⟩ := Y
  obtain ⟨hx, hb, hml, hown, hts, hK, hce, hcs, hfr, hlo, hnl⟩ := C
  intro hX H locs la hP hS hL
  refine va_iast hx hb hK hP (wl_D SH K h) hS k 0 (wl_at hs) rfl (md_in_vp hc) hd (fun H1 locs1 hP1 hD1 hS1 => ?_)
  rw [wl_set (j := i.toNatClampNeg) (v := x) hs (by simp only [ce, up_s])] at hP1
  exact kk hX H1 locs1 la hP1 hS1 hL)
theorem mj_zast {β : Type} {P : β → Prop} {k' : Mm → Option β} (C : Cx K Y cs cc own mL f lo) {k n : Nat} {u : Nat × Nat} {i : Int32} {v : Bool} (hd : decode cc pc = .ok (.bastore, 1)) (hs : SH[k]? = some (.inr (1, n, u))) (kk : ∀ h' : Mm, J SH K Y cs (mj_O (k' h') P) (pc + 1) ls st h') : J SH K Y cs (mj_O (md_ck (md_in i n) (md_lt (md_up h k i.toNatClampNeg (md_bi v)) k')) P) pc ls (.int (md_bi v) :: .int i :: rf K k :: st) h := mj_ckU (fun hc => by
  have kk := kk (md_up h k i.toNatClampNeg (md_bi v))
  obtain ⟨p, e, R, s, m, args, below, meth, c, Q, nL⟩ := Y
  obtain ⟨hx, hb, hml, hown, hts, hK, hce, hcs, hfr, hlo, hnl⟩ := C
  intro hX H locs la hP hS hL
  refine va_zast hx hb hK hP (wl_D SH K h) hS k 1 (wl_at hs) rfl (md_in_vp hc) hd (fun H1 locs1 hP1 hD1 hS1 => ?_)
  rw [md_bi_nar, wl_set (j := i.toNatClampNeg) (v := md_bi v) hs (by simp only [ce, up_s])] at hP1
  exact kk hX H1 locs1 la hP1 hS1 hL)
theorem mj_mmin (C : Cx K Y cs cc own mL f lo) {idx : Nat} {x y : Int32} (hw : Cond.methodLink own idx Lib.Math.min.name ∈ lw_ok) (h2 : Cond.static Lib.Math.min.name ∈ lw_ok) (h3 : Cond.initialized "java/lang/Math" ∈ lw_ok) (h4 : Cond.code Lib.Math.min.name Lib.Math.min.code 2 (some .int) ∈ lw_ok) (hf1 : 1 ≤ f) (hl1 : (st.map fun v => v.category).sum + 13 ≤ lo) (hd : decode cc pc = .ok (.invokestatic idx, 3)) (kk : J SH K Y cs X (pc + 3) ls (.int (if y < x then y else x) :: st) h) : J SH K Y cs X pc ls (.int y :: .int x :: st) h := by
  obtain ⟨p, e, R, s, m, args, below, meth, c, Q, nL⟩ := Y
  obtain ⟨hx, hb, hml, hown, hts, hK, hce, hcs, hfr, hlo, hnl⟩ := C
  intro hX H locs la hP hS hL
  exact va_mmin hx hb (by rw [hml, hL.1]) hown (hts _ hw) (hts _ h2) (hts _ h3) (hts _ h4) (Nat.le_trans hf1 hfr) (Nat.le_trans hl1 hlo) hce hcs hd (kk hX H locs la hP hS hL)
theorem mj_mmax (C : Cx K Y cs cc own mL f lo) {idx : Nat} {x y : Int32} (hw : Cond.methodLink own idx Lib.Math.max.name ∈ lw_ok) (h2 : Cond.static Lib.Math.max.name ∈ lw_ok) (h3 : Cond.initialized "java/lang/Math" ∈ lw_ok) (h4 : Cond.code Lib.Math.max.name Lib.Math.max.code 2 (some .int) ∈ lw_ok) (hf1 : 1 ≤ f) (hl1 : (st.map fun v => v.category).sum + 13 ≤ lo) (hd : decode cc pc = .ok (.invokestatic idx, 3)) (kk : J SH K Y cs X (pc + 3) ls (.int (if x < y then y else x) :: st) h) : J SH K Y cs X pc ls (.int y :: .int x :: st) h := by
  obtain ⟨p, e, R, s, m, args, below, meth, c, Q, nL⟩ := Y
  obtain ⟨hx, hb, hml, hown, hts, hK, hce, hcs, hfr, hlo, hnl⟩ := C
  intro hX H locs la hP hS hL
  exact va_mmax hx hb (by rw [hml, hL.1]) hown (hts _ hw) (hts _ h2) (hts _ h3) (hts _ h4) (Nat.le_trans hf1 hfr) (Nat.le_trans hl1 hlo) hce hcs hd (kk hX H locs la hP hS hL)
end MJ
theorem lw_goodIn (ws : List Cond) (h : ∀ w ∈ ws, w ∈ lw_ok) : GoodIn lw_ok ws := fun w hw => ⟨h w hw, good_of_word (List.mem_filter.mp (h w hw)).2⟩
/-- what the tables say of a method: its code; its parameters' number -/
def MY (y : MethodName) (bs : ByteArray) (mL : Nat) (rt : Option FieldType) (n : Nat) : Prop := Cond.code y bs mL rt ∈ lw_ok ∧ y.cls ≠ "java/lang/invoke/MethodHandle" ∧ y.cls ≠ "java/lang/invoke/VarHandle" ∧ (parseMethodDescriptor y.desc).map (fun d => d.parameters.length) = some n ∧ Cond.initialized y.cls ∈ lw_ok
/-- what they say of an instance method's link; of a static one's -/
def MV (own : String) (idx : Nat) (y : MethodName) : Prop := Cond.methodLink own idx y ∈ lw_ok ∧ Cond.instanceMethod y ∈ lw_ok ∧ Cond.selects y.cls y y ∈ lw_ok
def MS (own : String) (idx : Nat) (y : MethodName) : Prop := Cond.methodLink own idx y ∈ lw_ok ∧ Cond.static y ∈ lw_ok
section MJC
variable {SH : List Sh} {K : Kx} {Y : Yx} {cs : Nat × Nat} {X : Prop} {pc : Nat} {ls : List (Nat × Value)} {st : List Value} {h : Mm} {cc : ByteArray} {own : String} {mL f lo : Nat}
theorem mj_goes {α β : Type} {P : β → Prop} {E : α → Option β} {rv : Option Value} {h' : Mm} {p : Program} {e : Env} {R : Room} {s : State} {m : MethodId} {args : Array Value} {below : List Frame} {meth : Method} {c : Code} {Q : State → Prop} {nL : Nat} {H : Heap} {locs : List Loc} {la : Array Slot} {a : α} {av : Array Value} {st0 : List Value} (hX : mj_O (E a) P) (hS : va_S (fun q => kb K ≤ q) s.heap H locs) (hL : lv_has la nL ls)
    (hr : va_Run p K.1 e R s m args below meth c H locs cs.1 cs.2 0 0 (F0 m pc la st0) st (Qj SH K rv h' av) (fun q => kb K ≤ q))
    (kk : J SH K (p, e, R, s, m, args, below, meth, c, Q, nL) cs (mj_O (E a) P) (pc + 3) ls (rv.toList ++ st) h') : W p K.1 e R s m args below meth c H locs cs.1 cs.2 Q (F0 m pc la st0) := by
  intro T hT X
  obtain ⟨v, st₀, t, T', L, h0, X', hL2, e1, e2, ⟨hq1, hq2, hq3⟩, stp⟩ := hr T hT X
  cases hq1
  rw [← e1] at hq2
  have hS' : va_S (fun q => kb K ≤ q) s.heap T'.heap (locs ++ L) := by
    obtain ⟨z1, z2⟩ := hq3
    rw [h0] at z1 z2
    rw [e1]
    refine ⟨Nat.le_trans hS.1 z1, fun q h1 h2 => (z2 q (Nat.lt_of_lt_of_le h1 hS.1) h2).trans (hS.2.1 q h1 h2), fun q hq => ?_⟩
    rcases List.mem_append.mp hq with h3 | h3
    · exact hS.2.2 q h3
    · exact hL2 q h3
  obtain ⟨t2, a1, b1⟩ := kk hX T'.heap (locs ++ L) la hq2 hS' hL T' rfl X'
  exact ⟨t2, stp t2 a1, b1⟩
theorem mj_callV {α β : Type} {P : β → Prop} {F : Option α} {E : α → Option β} {rv : α → Option Value} {hv : α → Mm} (C : Cx K Y cs cc own mL f lo) {idx ci k n mL' f' lo' : Nat} {ks : List (Nat × Nat)} {y : MethodName} {bs : ByteArray} {rt : Option FieldType} {as st0 : List Value}
    (M1 : MY y bs mL' rt n) (M2 : MV own idx y) (hd : decode cc pc = .ok (.invokevirtual idx, 3)) (hs : SH[k]? = some (.inl (ci, ks))) (hc : (vwCl[ci]?).map (fun q => q.1) = some y.cls)
    (hM : ∀ a, F = some a → Mt K y bs mL' rt f' lo' SH (rf K k :: as) h (rv a) (hv a)) (hf1 : f' + 1 ≤ f) (hl1 : 8 + (mL' + 11) + lo' ≤ lo) (hn : as.length = n) (hst : as.reverse ++ rf K k :: st = st0) (hW : (st.map fun v => v.category).sum ≤ 8)
    (kk : ∀ a, J SH K Y cs (mj_O (E a) P) (pc + 3) ls ((rv a).toList ++ st) (hv a)) : J SH K Y cs (mj_O (F.bind E) P) pc ls st0 h := by
  subst hst
  obtain ⟨p, e, R, s, m, args, below, meth, c, Q, nL⟩ := Y
  obtain ⟨hx, hb, hml, hown, hts, hK, hce, hcs, hfr, hlo, hnl⟩ := C
  intro hX H locs la hP hS hL
  obtain ⟨v, hb1, hv1⟩ := hX
  cases hF : F with
  | none => rw [hF] at hb1; cases hb1
  | some a =>
    rw [hF] at hb1
    obtain ⟨r, hr1, hr2⟩ := Option.map_eq_some_iff.mp hc
    have hG : GoodIn lw_ok (wsV own idx y.cls y (.code y bs mL' rt :: lw_ok)) := lw_goodIn _ (fun w hw => by
      simp only [wsV, List.cons_append, List.nil_append, List.mem_cons] at hw
      rcases hw with rfl | rfl | rfl | rfl | rfl | hw
      · exact M2.1
      · exact M2.2.1
      · exact M2.2.2
      · exact M1.2.2.2.2
      · exact M1.1
      · exact hw)
    refine mj_goes (E := E) (a := a) ⟨v, hb1, hv1⟩ hS hL (va_runV (As := as) (rest := st) (C := y.cls) ⟨hx, hb, hml, hown, hts⟩ (hM a hF) (cwV n hts hG rfl rfl rfl ⟨rfl, M1.2.1, M1.2.2.1, M1.2.2.2.1⟩ ⟨Nat.le_trans hf1 hfr, Nat.le_trans hl1 hlo⟩) ⟨fun a U g mk q => ?_, ?_, fun U hU hW => ?_⟩ rfl hn hL.1 rfl (lv_room hW) hd ⟨hce, hcs⟩) (kk a)
    · obtain ⟨q0, qP, qK⟩ := q
      exact ⟨q0, qP, va_K.moved (u := U) (U := U.calling g mk a) (Vm.Alike.refl U.vm) qK⟩
    · have h9 := va_recv hK hP hr1 (wl_at hs)
      rw [hr2] at h9
      exact h9
    · exact ⟨rfl, by rw [hU]; exact hP, va_K.moved hW.alike hK⟩
theorem mj_callS {α β : Type} {P : β → Prop} {F : Option α} {E : α → Option β} {rv : α → Option Value} {hv : α → Mm} (C : Cx K Y cs cc own mL f lo) {idx n mL' f' lo' : Nat} {y : MethodName} {bs : ByteArray} {rt : Option FieldType} {as st0 : List Value}
    (M1 : MY y bs mL' rt n) (M2 : MS own idx y) (hd : decode cc pc = .ok (.invokestatic idx, 3))
    (hM : ∀ a, F = some a → Mt K y bs mL' rt f' lo' SH as h (rv a) (hv a)) (hf1 : f' + 1 ≤ f) (hl1 : 8 + (mL' + 11) + lo' ≤ lo) (hn : as.length = n) (hst : as.reverse ++ st = st0) (hW : (st.map fun v => v.category).sum ≤ 8)
    (kk : ∀ a, J SH K Y cs (mj_O (E a) P) (pc + 3) ls ((rv a).toList ++ st) (hv a)) : J SH K Y cs (mj_O (F.bind E) P) pc ls st0 h := by
  subst hst
  obtain ⟨p, e, R, s, m, args, below, meth, c, Q, nL⟩ := Y
  obtain ⟨hx, hb, hml, hown, hts, hK, hce, hcs, hfr, hlo, hnl⟩ := C
  intro hX H locs la hP hS hL
  obtain ⟨v, hb1, hv1⟩ := hX
  cases hF : F with
  | none => rw [hF] at hb1; cases hb1
  | some a =>
    rw [hF] at hb1
    have hG : GoodIn lw_ok (va_wsS own idx y (.code y bs mL' rt :: lw_ok)) := lw_goodIn _ (fun w hw => by
      simp only [va_wsS, List.cons_append, List.nil_append, List.mem_cons] at hw
      rcases hw with rfl | rfl | rfl | rfl | hw
      · exact M2.1
      · exact M2.2
      · exact M1.2.2.2.2
      · exact M1.1
      · exact hw)
    refine mj_goes (E := E) (a := a) ⟨v, hb1, hv1⟩ hS hL (va_runS (As := as) (rest := st) ⟨hx, hb, hml, hown, hts⟩ (hM a hF) (va_cwS n hts hG rfl rfl rfl ⟨M1.2.1, M1.2.2.1, M1.2.2.2.1⟩ ⟨Nat.le_trans hf1 hfr, Nat.le_trans hl1 hlo⟩) ⟨fun a U g mk q => ?_, fun U hU hW => ?_⟩ rfl hn hL.1 rfl (lv_room hW) hd ⟨hce, hcs⟩) (kk a)
    · obtain ⟨q0, qP, qK⟩ := q
      exact ⟨q0, qP, va_K.moved (u := U) (U := U.calling g mk a) (Vm.Alike.refl U.vm) qK⟩
    · exact ⟨rfl, by rw [hU]; exact hP, va_K.moved hW.alike hK⟩
theorem mj_vI {β : Type} {P : β → Prop} {F : Option Int32} {E : Int32 → Option β} (C : Cx K Y cs cc own mL f lo) {idx ci k n mL' f' lo' : Nat} {ks : List (Nat × Nat)} {y : MethodName} {bs : ByteArray} {rt : Option FieldType} {as st0 : List Value} (M1 : MY y bs mL' rt n) (M2 : MV own idx y) (hd : decode cc pc = .ok (.invokevirtual idx, 3)) (hs : SH[k]? = some (.inl (ci, ks))) (hc : (vwCl[ci]?).map (fun q => q.1) = some y.cls) (hM : ∀ a : Int32, F = some a → Mt K y bs mL' rt f' lo' SH (rf K k :: as) h (some (.int a)) h) (hf1 : f' + 1 ≤ f) (hl1 : 8 + (mL' + 11) + lo' ≤ lo) (hn : as.length = n) (hst : as.reverse ++ rf K k :: st = st0) (hW : (st.map fun v => v.category).sum ≤ 8) (kk : ∀ r : Int32, J SH K Y cs (mj_O (E r) P) (pc + 3) ls (.int r :: st) h) : J SH K Y cs (mj_O (md_bd F E) P) pc ls st0 h := mj_callV (E := E) (rv := fun r => some (.int r)) (hv := fun _ => h) C M1 M2 hd hs hc hM hf1 hl1 hn hst hW (fun r => kk r)
theorem mj_sI {β : Type} {P : β → Prop} {F : Option Int32} {E : Int32 → Option β} (C : Cx K Y cs cc own mL f lo) {idx n mL' f' lo' : Nat} {y : MethodName} {bs : ByteArray} {rt : Option FieldType} {as st0 : List Value} (M1 : MY y bs mL' rt n) (M2 : MS own idx y) (hd : decode cc pc = .ok (.invokestatic idx, 3)) (hM : ∀ a : Int32, F = some a → Mt K y bs mL' rt f' lo' SH as h (some (.int a)) h) (hf1 : f' + 1 ≤ f) (hl1 : 8 + (mL' + 11) + lo' ≤ lo) (hn : as.length = n) (hst : as.reverse ++ st = st0) (hW : (st.map fun v => v.category).sum ≤ 8) (kk : ∀ r : Int32, J SH K Y cs (mj_O (E r) P) (pc + 3) ls (.int r :: st) h) : J SH K Y cs (mj_O (md_bd F E) P) pc ls st0 h := mj_callS (E := E) (rv := fun r => some (.int r)) (hv := fun _ => h) C M1 M2 hd hM hf1 hl1 hn hst hW (fun r => kk r)
theorem mj_vB {β : Type} {P : β → Prop} {F : Option Bool} {E : Bool → Option β} (C : Cx K Y cs cc own mL f lo) {idx ci k n mL' f' lo' : Nat} {ks : List (Nat × Nat)} {y : MethodName} {bs : ByteArray} {rt : Option FieldType} {as st0 : List Value} (M1 : MY y bs mL' rt n) (M2 : MV own idx y) (hd : decode cc pc = .ok (.invokevirtual idx, 3)) (hs : SH[k]? = some (.inl (ci, ks))) (hc : (vwCl[ci]?).map (fun q => q.1) = some y.cls) (hM : ∀ a : Bool, F = some a → Mt K y bs mL' rt f' lo' SH (rf K k :: as) h (some (.int (md_bi a))) h) (hf1 : f' + 1 ≤ f) (hl1 : 8 + (mL' + 11) + lo' ≤ lo) (hn : as.length = n) (hst : as.reverse ++ rf K k :: st = st0) (hW : (st.map fun v => v.category).sum ≤ 8) (kk : ∀ r : Bool, J SH K Y cs (mj_O (E r) P) (pc + 3) ls (.int (md_bi r) :: st) h) : J SH K Y cs (mj_O (md_bd F E) P) pc ls st0 h := mj_callV (E := E) (rv := fun r => some (.int (md_bi r))) (hv := fun _ => h) C M1 M2 hd hs hc hM hf1 hl1 hn hst hW (fun r => kk r)
theorem mj_sB {β : Type} {P : β → Prop} {F : Option Bool} {E : Bool → Option β} (C : Cx K Y cs cc own mL f lo) {idx n mL' f' lo' : Nat} {y : MethodName} {bs : ByteArray} {rt : Option FieldType} {as st0 : List Value} (M1 : MY y bs mL' rt n) (M2 : MS own idx y) (hd : decode cc pc = .ok (.invokestatic idx, 3)) (hM : ∀ a : Bool, F = some a → Mt K y bs mL' rt f' lo' SH as h (some (.int (md_bi a))) h) (hf1 : f' + 1 ≤ f) (hl1 : 8 + (mL' + 11) + lo' ≤ lo) (hn : as.length = n) (hst : as.reverse ++ st = st0) (hW : (st.map fun v => v.category).sum ≤ 8) (kk : ∀ r : Bool, J SH K Y cs (mj_O (E r) P) (pc + 3) ls (.int (md_bi r) :: st) h) : J SH K Y cs (mj_O (md_bd F E) P) pc ls st0 h := mj_callS (E := E) (rv := fun r => some (.int (md_bi r))) (hv := fun _ => h) C M1 M2 hd hM hf1 hl1 hn hst hW (fun r => kk r)
theorem mj_vM {β : Type} {P : β → Prop} {F : Option Mm} {E : Mm → Option β} (C : Cx K Y cs cc own mL f lo) {idx ci k n mL' f' lo' : Nat} {ks : List (Nat × Nat)} {y : MethodName} {bs : ByteArray} {rt : Option FieldType} {as st0 : List Value} (M1 : MY y bs mL' rt n) (M2 : MV own idx y) (hd : decode cc pc = .ok (.invokevirtual idx, 3)) (hs : SH[k]? = some (.inl (ci, ks))) (hc : (vwCl[ci]?).map (fun q => q.1) = some y.cls) (hM : ∀ a : Mm, F = some a → Mt K y bs mL' rt f' lo' SH (rf K k :: as) h none a) (hf1 : f' + 1 ≤ f) (hl1 : 8 + (mL' + 11) + lo' ≤ lo) (hn : as.length = n) (hst : as.reverse ++ rf K k :: st = st0) (hW : (st.map fun v => v.category).sum ≤ 8) (kk : ∀ r : Mm, J SH K Y cs (mj_O (E r) P) (pc + 3) ls (st) r) : J SH K Y cs (mj_O (md_bd F E) P) pc ls st0 h := mj_callV (E := E) (rv := fun _ => none) (hv := fun r => r) C M1 M2 hd hs hc hM hf1 hl1 hn hst hW (fun r => kk r)
theorem mj_sM {β : Type} {P : β → Prop} {F : Option Mm} {E : Mm → Option β} (C : Cx K Y cs cc own mL f lo) {idx n mL' f' lo' : Nat} {y : MethodName} {bs : ByteArray} {rt : Option FieldType} {as st0 : List Value} (M1 : MY y bs mL' rt n) (M2 : MS own idx y) (hd : decode cc pc = .ok (.invokestatic idx, 3)) (hM : ∀ a : Mm, F = some a → Mt K y bs mL' rt f' lo' SH as h none a) (hf1 : f' + 1 ≤ f) (hl1 : 8 + (mL' + 11) + lo' ≤ lo) (hn : as.length = n) (hst : as.reverse ++ st = st0) (hW : (st.map fun v => v.category).sum ≤ 8) (kk : ∀ r : Mm, J SH K Y cs (mj_O (E r) P) (pc + 3) ls (st) r) : J SH K Y cs (mj_O (md_bd F E) P) pc ls st0 h := mj_callS (E := E) (rv := fun _ => none) (hv := fun r => r) C M1 M2 hd hM hf1 hl1 hn hst hW (fun r => kk r)
theorem mj_vIM {β : Type} {P : β → Prop} {F : Option (Int32 × Mm)} {E : Int32 → Mm → Option β} (C : Cx K Y cs cc own mL f lo) {idx ci k n mL' f' lo' : Nat} {ks : List (Nat × Nat)} {y : MethodName} {bs : ByteArray} {rt : Option FieldType} {as st0 : List Value} (M1 : MY y bs mL' rt n) (M2 : MV own idx y) (hd : decode cc pc = .ok (.invokevirtual idx, 3)) (hs : SH[k]? = some (.inl (ci, ks))) (hc : (vwCl[ci]?).map (fun q => q.1) = some y.cls) (hM : ∀ a : Int32 × Mm, F = some a → Mt K y bs mL' rt f' lo' SH (rf K k :: as) h (some (.int a.1)) a.2) (hf1 : f' + 1 ≤ f) (hl1 : 8 + (mL' + 11) + lo' ≤ lo) (hn : as.length = n) (hst : as.reverse ++ rf K k :: st = st0) (hW : (st.map fun v => v.category).sum ≤ 8) (kk : ∀ (r : Int32) (h' : Mm), J SH K Y cs (mj_O (E r h') P) (pc + 3) ls (.int r :: st) h') : J SH K Y cs (mj_O (md_b2 F E) P) pc ls st0 h := mj_callV (E := fun q : Int32 × Mm => E q.1 q.2) (rv := fun q : Int32 × Mm => some (.int q.1)) (hv := fun q : Int32 × Mm => q.2) C M1 M2 hd hs hc hM hf1 hl1 hn hst hW (fun q => kk q.1 q.2)
theorem mj_sIM {β : Type} {P : β → Prop} {F : Option (Int32 × Mm)} {E : Int32 → Mm → Option β} (C : Cx K Y cs cc own mL f lo) {idx n mL' f' lo' : Nat} {y : MethodName} {bs : ByteArray} {rt : Option FieldType} {as st0 : List Value} (M1 : MY y bs mL' rt n) (M2 : MS own idx y) (hd : decode cc pc = .ok (.invokestatic idx, 3)) (hM : ∀ a : Int32 × Mm, F = some a → Mt K y bs mL' rt f' lo' SH as h (some (.int a.1)) a.2) (hf1 : f' + 1 ≤ f) (hl1 : 8 + (mL' + 11) + lo' ≤ lo) (hn : as.length = n) (hst : as.reverse ++ st = st0) (hW : (st.map fun v => v.category).sum ≤ 8) (kk : ∀ (r : Int32) (h' : Mm), J SH K Y cs (mj_O (E r h') P) (pc + 3) ls (.int r :: st) h') : J SH K Y cs (mj_O (md_b2 F E) P) pc ls st0 h := mj_callS (E := fun q : Int32 × Mm => E q.1 q.2) (rv := fun q : Int32 × Mm => some (.int q.1)) (hv := fun q : Int32 × Mm => q.2) C M1 M2 hd hM hf1 hl1 hn hst hW (fun q => kk q.1 q.2)
theorem mj_vBM {β : Type} {P : β → Prop} {F : Option (Bool × Mm)} {E : Bool → Mm → Option β} (C : Cx K Y cs cc own mL f lo) {idx ci k n mL' f' lo' : Nat} {ks : List (Nat × Nat)} {y : MethodName} {bs : ByteArray} {rt : Option FieldType} {as st0 : List Value} (M1 : MY y bs mL' rt n) (M2 : MV own idx y) (hd : decode cc pc = .ok (.invokevirtual idx, 3)) (hs : SH[k]? = some (.inl (ci, ks))) (hc : (vwCl[ci]?).map (fun q => q.1) = some y.cls) (hM : ∀ a : Bool × Mm, F = some a → Mt K y bs mL' rt f' lo' SH (rf K k :: as) h (some (.int (md_bi a.1))) a.2) (hf1 : f' + 1 ≤ f) (hl1 : 8 + (mL' + 11) + lo' ≤ lo) (hn : as.length = n) (hst : as.reverse ++ rf K k :: st = st0) (hW : (st.map fun v => v.category).sum ≤ 8) (kk : ∀ (r : Bool) (h' : Mm), J SH K Y cs (mj_O (E r h') P) (pc + 3) ls (.int (md_bi r) :: st) h') : J SH K Y cs (mj_O (md_b2 F E) P) pc ls st0 h := mj_callV (E := fun q : Bool × Mm => E q.1 q.2) (rv := fun q : Bool × Mm => some (.int (md_bi q.1))) (hv := fun q : Bool × Mm => q.2) C M1 M2 hd hs hc hM hf1 hl1 hn hst hW (fun q => kk q.1 q.2)
theorem mj_sBM {β : Type} {P : β → Prop} {F : Option (Bool × Mm)} {E : Bool → Mm → Option β} (C : Cx K Y cs cc own mL f lo) {idx n mL' f' lo' : Nat} {y : MethodName} {bs : ByteArray} {rt : Option FieldType} {as st0 : List Value} (M1 : MY y bs mL' rt n) (M2 : MS own idx y) (hd : decode cc pc = .ok (.invokestatic idx, 3)) (hM : ∀ a : Bool × Mm, F = some a → Mt K y bs mL' rt f' lo' SH as h (some (.int (md_bi a.1))) a.2) (hf1 : f' + 1 ≤ f) (hl1 : 8 + (mL' + 11) + lo' ≤ lo) (hn : as.length = n) (hst : as.reverse ++ st = st0) (hW : (st.map fun v => v.category).sum ≤ 8) (kk : ∀ (r : Bool) (h' : Mm), J SH K Y cs (mj_O (E r h') P) (pc + 3) ls (.int (md_bi r) :: st) h') : J SH K Y cs (mj_O (md_b2 F E) P) pc ls st0 h := mj_callS (E := fun q : Bool × Mm => E q.1 q.2) (rv := fun q : Bool × Mm => some (.int (md_bi q.1))) (hv := fun q : Bool × Mm => q.2) C M1 M2 hd hM hf1 hl1 hn hst hW (fun q => kk q.1 q.2)
theorem mj_vRM {β : Type} {P : β → Prop} {F : Option (Nat × Mm)} {E : Nat → Mm → Option β} (C : Cx K Y cs cc own mL f lo) {idx ci k n mL' f' lo' : Nat} {ks : List (Nat × Nat)} {y : MethodName} {bs : ByteArray} {rt : Option FieldType} {as st0 : List Value} (M1 : MY y bs mL' rt n) (M2 : MV own idx y) (hd : decode cc pc = .ok (.invokevirtual idx, 3)) (hs : SH[k]? = some (.inl (ci, ks))) (hc : (vwCl[ci]?).map (fun q => q.1) = some y.cls) (hM : ∀ a : Nat × Mm, F = some a → Mt K y bs mL' rt f' lo' SH (rf K k :: as) h (some (rf K a.1)) a.2) (hf1 : f' + 1 ≤ f) (hl1 : 8 + (mL' + 11) + lo' ≤ lo) (hn : as.length = n) (hst : as.reverse ++ rf K k :: st = st0) (hW : (st.map fun v => v.category).sum ≤ 8) (kk : ∀ (r : Nat) (h' : Mm), J SH K Y cs (mj_O (E r h') P) (pc + 3) ls (rf K r :: st) h') : J SH K Y cs (mj_O (md_b2 F E) P) pc ls st0 h := mj_callV (E := fun q : Nat × Mm => E q.1 q.2) (rv := fun q : Nat × Mm => some (rf K q.1)) (hv := fun q : Nat × Mm => q.2) C M1 M2 hd hs hc hM hf1 hl1 hn hst hW (fun q => kk q.1 q.2)
theorem mj_sRM {β : Type} {P : β → Prop} {F : Option (Nat × Mm)} {E : Nat → Mm → Option β} (C : Cx K Y cs cc own mL f lo) {idx n mL' f' lo' : Nat} {y : MethodName} {bs : ByteArray} {rt : Option FieldType} {as st0 : List Value} (M1 : MY y bs mL' rt n) (M2 : MS own idx y) (hd : decode cc pc = .ok (.invokestatic idx, 3)) (hM : ∀ a : Nat × Mm, F = some a → Mt K y bs mL' rt f' lo' SH as h (some (rf K a.1)) a.2) (hf1 : f' + 1 ≤ f) (hl1 : 8 + (mL' + 11) + lo' ≤ lo) (hn : as.length = n) (hst : as.reverse ++ st = st0) (hW : (st.map fun v => v.category).sum ≤ 8) (kk : ∀ (r : Nat) (h' : Mm), J SH K Y cs (mj_O (E r h') P) (pc + 3) ls (rf K r :: st) h') : J SH K Y cs (mj_O (md_b2 F E) P) pc ls st0 h := mj_callS (E := fun q : Nat × Mm => E q.1 q.2) (rv := fun q : Nat × Mm => some (rf K q.1)) (hv := fun q : Nat × Mm => q.2) C M1 M2 hd hM hf1 hl1 hn hst hW (fun q => kk q.1 q.2)
theorem mj_retI {x : Int32} (C : Cx K Y (0, 0) cc own mL f lo) (N : En SH K Y (some (.int x)) h (some .int)) (hd : decode cc pc = .ok (.ireturn, 1)) : J SH K Y (0, 0) X pc ls [.int x] h := by
  obtain ⟨p, e, R, s, m, args, below, meth, c, Q, nL⟩ := Y
  obtain ⟨hx, hb, hml, hown, hts, hK, hce, hcs, hfr, hlo, hnl⟩ := C
  obtain ⟨rfl, hrt, hlk⟩ := N
  intro hX H locs la hP hS hL
  exact W.iret hx hb hrt (fun t ht hW => ⟨rfl, by rw [ht]; exact hP, hS.F ht⟩) hS.2.2 hd hlk
theorem mj_retZ {x : Bool} (C : Cx K Y (0, 0) cc own mL f lo) (N : En SH K Y (some (.int (md_bi x))) h (some .boolean)) (hd : decode cc pc = .ok (.ireturn, 1)) : J SH K Y (0, 0) X pc ls [.int (md_bi x)] h := by
  obtain ⟨p, e, R, s, m, args, below, meth, c, Q, nL⟩ := Y
  obtain ⟨hx, hb, hml, hown, hts, hK, hce, hcs, hfr, hlo, hnl⟩ := C
  obtain ⟨rfl, hrt, hlk⟩ := N
  intro hX H locs la hP hS hL
  exact W.zret hx hb hrt (md_bi_narrow x) (fun t ht hW => ⟨rfl, by rw [ht]; exact hP, hS.F ht⟩) hS.2.2 hd hlk
theorem mj_retV (C : Cx K Y (0, 0) cc own mL f lo) (N : En SH K Y none h none) (hd : decode cc pc = .ok (.return_, 1)) : J SH K Y (0, 0) X pc ls [] h := by
  obtain ⟨p, e, R, s, m, args, below, meth, c, Q, nL⟩ := Y
  obtain ⟨hx, hb, hml, hown, hts, hK, hce, hcs, hfr, hlo, hnl⟩ := C
  obtain ⟨rfl, hrt, hlk⟩ := N
  intro hX H locs la hP hS hL
  exact W.vret hx hb hrt (fun t ht hW => ⟨rfl, by rw [ht]; exact hP, hS.F ht⟩) hS.2.2 hd hlk
theorem mj_retA {x : Nat} {cn : String} (C : Cx K Y (0, 0) cc own mL f lo) (N : En SH K Y (some (rf K x)) h (some (.object cn))) (hd : decode cc pc = .ok (.areturn, 1)) : J SH K Y (0, 0) X pc ls [rf K x] h := by
  obtain ⟨p, e, R, s, m, args, below, meth, c, Q, nL⟩ := Y
  obtain ⟨hx, hb, hml, hown, hts, hK, hce, hcs, hfr, hlo, hnl⟩ := C
  obtain ⟨rfl, hrt, hlk⟩ := N
  intro hX H locs la hP hS hL
  exact W.aret hx hb hrt (Or.inl ⟨_, rfl⟩) (Or.inr ⟨_, rfl⟩) (fun t ht hW => ⟨rfl, by rw [ht]; exact hP, hS.F ht⟩) hS.2.2 hd hlk
theorem mj_rI {r a : Int32} (C : Cx K Y (0, 0) cc own mL f lo) (N : En SH K Y (some (.int a)) h (some .int)) (hd : decode cc pc = .ok (.ireturn, 1)) : J SH K Y (0, 0) (mj_O (some r) (fun v => v = a)) pc ls [.int r] h := mj_use (fun q => by
  obtain ⟨_, h1, rfl⟩ := q
  cases h1
  exact mj_retI C N hd)
theorem mj_rZ {r a : Bool} (C : Cx K Y (0, 0) cc own mL f lo) (N : En SH K Y (some (.int (md_bi a))) h (some .boolean)) (hd : decode cc pc = .ok (.ireturn, 1)) : J SH K Y (0, 0) (mj_O (some r) (fun v => v = a)) pc ls [.int (md_bi r)] h := mj_use (fun q => by
  obtain ⟨_, h1, rfl⟩ := q
  cases h1
  exact mj_retZ C N hd)
theorem mj_rV {a : Mm} (C : Cx K Y (0, 0) cc own mL f lo) (N : En SH K Y none a none) (hd : decode cc pc = .ok (.return_, 1)) : J SH K Y (0, 0) (mj_O (some h) (fun v => v = a)) pc ls [] h := mj_use (fun q => by
  obtain ⟨_, h1, rfl⟩ := q
  cases h1
  exact mj_retV C N hd)
theorem mj_rIM {r : Int32} {a : Int32 × Mm} (C : Cx K Y (0, 0) cc own mL f lo) (N : En SH K Y (some (.int a.1)) a.2 (some .int)) (hd : decode cc pc = .ok (.ireturn, 1)) : J SH K Y (0, 0) (mj_O (some (r, h)) (fun v => v = a)) pc ls [.int r] h := mj_use (fun q => by
  obtain ⟨_, h1, rfl⟩ := q
  cases h1
  exact mj_retI C N hd)
theorem mj_rZM {r : Bool} {a : Bool × Mm} (C : Cx K Y (0, 0) cc own mL f lo) (N : En SH K Y (some (.int (md_bi a.1))) a.2 (some .boolean)) (hd : decode cc pc = .ok (.ireturn, 1)) : J SH K Y (0, 0) (mj_O (some (r, h)) (fun v => v = a)) pc ls [.int (md_bi r)] h := mj_use (fun q => by
  obtain ⟨_, h1, rfl⟩ := q
  cases h1
  exact mj_retZ C N hd)
theorem mj_rAM {r : Nat} {a : Nat × Mm} {cn : String} (C : Cx K Y (0, 0) cc own mL f lo) (N : En SH K Y (some (rf K a.1)) a.2 (some (.object cn))) (hd : decode cc pc = .ok (.areturn, 1)) : J SH K Y (0, 0) (mj_O (some (r, h)) (fun v => v = a)) pc ls [rf K r] h := mj_use (fun q => by
  obtain ⟨_, h1, rfl⟩ := q
  cases h1
  exact mj_retA C N hd)
end MJC
theorem mj_phi1 {SH : List Sh} {K : Kx} {Y : Yx} {cs : Nat × Nat} {pc : Nat} {ls : List (Nat × Value)} {st : List Value} {h : Mm} {α β : Type} {F : Option (α)} {k : α → Option β} {P : β → Prop} (pj : Nat) (l' : α → List (Nat × Value)) (s' : α → List Value) (h' : α → Mm) (ka : ∀ P' : α → Prop, (∀ v1, J SH K Y cs (P' v1) pj (l' v1) (s' v1) (h' v1)) → J SH K Y cs (mj_O F P') pc ls st h) (kk : ∀ v1, J SH K Y cs (mj_O (k v1) P) pj (l' v1) (s' v1) (h' v1)) : J SH K Y cs (mj_O (md_bd F k) P) pc ls st h := mj_bd (ka (fun q => mj_O (k q) P) kk)
theorem mj_phi2 {SH : List Sh} {K : Kx} {Y : Yx} {cs : Nat × Nat} {pc : Nat} {ls : List (Nat × Value)} {st : List Value} {h : Mm} {α γ β : Type} {F : Option (α × γ)} {k : α → γ → Option β} {P : β → Prop} (pj : Nat) (l' : α → γ → List (Nat × Value)) (s' : α → γ → List Value) (h' : α → γ → Mm) (ka : ∀ P' : α × γ → Prop, (∀ v1 v2, J SH K Y cs (P' (v1, v2)) pj (l' v1 v2) (s' v1 v2) (h' v1 v2)) → J SH K Y cs (mj_O F P') pc ls st h) (kk : ∀ v1 v2, J SH K Y cs (mj_O (k v1 v2) P) pj (l' v1 v2) (s' v1 v2) (h' v1 v2)) : J SH K Y cs (mj_O (md_b2 F k) P) pc ls st h := mj_b2 (ka (fun q => mj_O (k q.1 q.2) P) kk)
theorem mj_phi3 {SH : List Sh} {K : Kx} {Y : Yx} {cs : Nat × Nat} {pc : Nat} {ls : List (Nat × Value)} {st : List Value} {h : Mm} {α γ δ β : Type} {F : Option (α × γ × δ)} {k : α → γ → δ → Option β} {P : β → Prop} (pj : Nat) (l' : α → γ → δ → List (Nat × Value)) (s' : α → γ → δ → List Value) (h' : α → γ → δ → Mm) (ka : ∀ P' : α × γ × δ → Prop, (∀ v1 v2 v3, J SH K Y cs (P' (v1, v2, v3)) pj (l' v1 v2 v3) (s' v1 v2 v3) (h' v1 v2 v3)) → J SH K Y cs (mj_O F P') pc ls st h) (kk : ∀ v1 v2 v3, J SH K Y cs (mj_O (k v1 v2 v3) P) pj (l' v1 v2 v3) (s' v1 v2 v3) (h' v1 v2 v3)) : J SH K Y cs (mj_O (md_b3 F k) P) pc ls st h := mj_b3 (ka (fun q => mj_O (k q.1 q.2.1 q.2.2) P) kk)
theorem mj_phi4 {SH : List Sh} {K : Kx} {Y : Yx} {cs : Nat × Nat} {pc : Nat} {ls : List (Nat × Value)} {st : List Value} {h : Mm} {α γ δ ε β : Type} {F : Option (α × γ × δ × ε)} {k : α → γ → δ → ε → Option β} {P : β → Prop} (pj : Nat) (l' : α → γ → δ → ε → List (Nat × Value)) (s' : α → γ → δ → ε → List Value) (h' : α → γ → δ → ε → Mm) (ka : ∀ P' : α × γ × δ × ε → Prop, (∀ v1 v2 v3 v4, J SH K Y cs (P' (v1, v2, v3, v4)) pj (l' v1 v2 v3 v4) (s' v1 v2 v3 v4) (h' v1 v2 v3 v4)) → J SH K Y cs (mj_O F P') pc ls st h) (kk : ∀ v1 v2 v3 v4, J SH K Y cs (mj_O (k v1 v2 v3 v4) P) pj (l' v1 v2 v3 v4) (s' v1 v2 v3 v4) (h' v1 v2 v3 v4)) : J SH K Y cs (mj_O (md_b4 F k) P) pc ls st h := mj_b4 (ka (fun q => mj_O (k q.1 q.2.1 q.2.2.1 q.2.2.2) P) kk)
theorem mj_phi5 {SH : List Sh} {K : Kx} {Y : Yx} {cs : Nat × Nat} {pc : Nat} {ls : List (Nat × Value)} {st : List Value} {h : Mm} {α γ δ ε ζ β : Type} {F : Option (α × γ × δ × ε × ζ)} {k : α → γ → δ → ε → ζ → Option β} {P : β → Prop} (pj : Nat) (l' : α → γ → δ → ε → ζ → List (Nat × Value)) (s' : α → γ → δ → ε → ζ → List Value) (h' : α → γ → δ → ε → ζ → Mm) (ka : ∀ P' : α × γ × δ × ε × ζ → Prop, (∀ v1 v2 v3 v4 v5, J SH K Y cs (P' (v1, v2, v3, v4, v5)) pj (l' v1 v2 v3 v4 v5) (s' v1 v2 v3 v4 v5) (h' v1 v2 v3 v4 v5)) → J SH K Y cs (mj_O F P') pc ls st h) (kk : ∀ v1 v2 v3 v4 v5, J SH K Y cs (mj_O (k v1 v2 v3 v4 v5) P) pj (l' v1 v2 v3 v4 v5) (s' v1 v2 v3 v4 v5) (h' v1 v2 v3 v4 v5)) : J SH K Y cs (mj_O (md_b5 F k) P) pc ls st h := mj_b5 (ka (fun q => mj_O (k q.1 q.2.1 q.2.2.1 q.2.2.2.1 q.2.2.2.2) P) kk)
theorem mj_phiS {SH : List Sh} {K : Kx} {Y : Yx} {cs : Nat × Nat} {pc : Nat} {ls : List (Nat × Value)} {st : List Value} {h : Mm} {α γ β : Type} {F : Option (α ⊕ γ)} {k1 : α → Option β} {k2 : γ → Option β} {P : β → Prop} (p1 p2 : Nat) (l1 : α → List (Nat × Value)) (l2 : γ → List (Nat × Value)) (h1 : α → Mm) (h2 : γ → Mm) (ka : ∀ P' : α ⊕ γ → Prop, (∀ a, J SH K Y cs (P' (.inl a)) p1 (l1 a) [] (h1 a)) → (∀ a, J SH K Y cs (P' (.inr a)) p2 (l2 a) [] (h2 a)) → J SH K Y cs (mj_O F P') pc ls st h) (kk1 : ∀ a, J SH K Y cs (mj_O (k1 a) P) p1 (l1 a) [] (h1 a)) (kk2 : ∀ a, J SH K Y cs (mj_O (k2 a) P) p2 (l2 a) [] (h2 a)) : J SH K Y cs (mj_O (md_bS F k1 k2) P) pc ls st h := mj_bS (ka (mj_P2 k1 k2 P) kk1 kk2)
/-- fuel that no loop of the class uses up -/
def md_N : Nat := 100000000
