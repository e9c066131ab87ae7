/-! the law's own script: an int array that no cell of the world is -/
def Sx (K : Kx) (Y : Yx) (b0 L : Nat) (xs : Nat → Int32) : Prop := match Y with
  | (p, e, R, s, m, args, below, meth, c, Q, nL) => va_X b0 L xs s s.heap ∧ b0 < s.heap.size ∧ b0 < kb K
theorem mj_sld {SH : List Sh} {K : Kx} {Y : Yx} {cs : Nat × Nat} {pc : Nat} {ls : List (Nat × Value)} {st : List Value} {h : Mm} {cc : ByteArray} {own : String} {mL f lo b0 L : Nat} {xs : Nat → Int32} {α : Type} {E : Option α} {P : α → Prop} (C : Cx K Y cs cc own mL f lo) (S : Sx K Y b0 L xs) {i : Int32} (hd : decode cc pc = .ok (.iaload, 1)) (kk : J SH K Y cs (mj_O E P) (pc + 1) ls (.int (xs i.toNatClampNeg) :: st) h) : J SH K Y cs (mj_O (md_ck (md_in i L) E) P) pc ls (.int i :: .ref b0 :: st) h := mj_ckU (fun hc => by
  obtain ⟨p, e, R, s, m, args, below, meth, c, Q, nL⟩ := Y
  obtain ⟨hx, hb, hml, hown, hts, hK, hce, hcs, hfr, hlo, hnl⟩ := C
  intro hX H locs la hP hS hL
  exact va_sld hx hb S.1 S.2.1 (Nat.not_le.mpr S.2.2) hS (md_in_vp hc) hd (kk hX H locs la hP hS hL))
theorem mj_slen {SH : List Sh} {K : Kx} {Y : Yx} {cs : Nat × Nat} {X : Prop} {pc : Nat} {ls : List (Nat × Value)} {st : List Value} {h : Mm} {cc : ByteArray} {own : String} {mL f lo b0 L : Nat} {xs : Nat → Int32} (C : Cx K Y cs cc own mL f lo) (S : Sx K Y b0 L xs) (hd : decode cc pc = .ok (.arraylength, 1)) (kk : J SH K Y cs X (pc + 1) ls (.int (nI L) :: st) h) : J SH K Y cs X pc ls (.ref b0 :: st) h := by
  obtain ⟨p, e, R, s, m, args, below, meth, c, Q, nL⟩ := Y
  obtain ⟨hx, hb, hml, hown, hts, hK, hce, hcs, hfr, hlo, hnl⟩ := C
  intro hX H locs la hP hS hL
  exact va_slen hx hb S.1 S.2.1 (Nat.not_le.mpr S.2.2) hS hd (kk hX H locs la hP hS hL)
