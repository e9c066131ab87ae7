theorem lw_cov2 {x : Int32} {o0 o1 d : Int} (h : x ∉ ([1, 0] : List Int32)) : Op.lookupswitch.offset [(0, o0), (1, o1)] d x.toInt = d := by
  rw [lv_osw (k := 0) (a := 0) (fun q => h (by simp [q])) (by decide), lv_osw (k := 1) (a := 1) (fun q => h (by simp [q])) (by decide)]
  rfl
theorem mj_tdflt2 {SH : List Sh} {K : Kx} {Y : Yx} {cs : Nat × Nat} {pc : Nat} {ls : List (Nat × Value)} {st : List Value} {h : Mm} {cc : ByteArray} {own : String} {mL f lo : Nat} {α : Type} {E : Option α} {P : α → Prop} (C : Cx K Y cs cc own mL f lo) {x : Int32} {L : List Int32} {dflt lw hg : Int} {offs : Array Int} {len : Nat} (tgt n : Nat) (hd : decode cc pc = .ok (.tableswitch dflt lw hg offs, len)) (hcov : ∀ i : Nat, i < n → Int32.ofInt (lw + i) ∈ L ∨ offs[i]? = some dflt) (hn : hg = lw + (n : Int) - 1) (ht : (pc : Int) + dflt = (tgt : Int)) (kk : J SH K Y cs (mj_O E P) tgt ls st h) : J SH K Y cs (x ∉ L ∧ mj_O E P) pc ls (.int x :: st) h := by
  obtain ⟨p, e, R, s, m, args, below, meth, c, Q, nL⟩ := Y
  obtain ⟨hx, hb, hml, hown, hts, hK, hce, hcs, hfr, hlo, hnl⟩ := C
  intro hX H locs la hP hS hL
  rcases Int.lt_or_le x.toInt lw with q | q
  · exact lv_tableOut hx hb hd (Or.inl q) ht (kk hX.2 H locs la hP hS hL)
  · rcases Int.lt_or_le hg x.toInt with q2 | q2
    · exact lv_tableOut hx hb hd (Or.inr q2) ht (kk hX.2 H locs la hP hS hL)
    · rcases hcov (x.toInt - lw).toNat (by omega) with h3 | h3
      · rw [show lw + ((x.toInt - lw).toNat : Int) = x.toInt by omega, Int32.ofInt_toInt] at h3
        exact absurd h3 hX.1
      · exact lv_tableIn hx hb hd (by omega) (by omega) h3 ht (kk hX.2 H locs la hP hS hL)
