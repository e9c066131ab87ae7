/-! a clause, class and model side by side -/
def cwk (A : Ab) (w : Nat) : Nat :=
  if w = 103 then (if A 0 0 = 0 then 0 else 3)
  else if w = 105 then (if A 0 0 = 0 then 1 else if 8 ≤ A 0 2 then 3 else 0)
  else if w = 106 then (if A 0 0 = 0 then 1 else if 10 ≤ A 0 3 then 3 else 0)
  else if w = 100 then (if A 0 0 = 0 then 1 else if 10 ≤ A 0 4 then 3 else 0)
  else if w = 114 then (if A 0 0 = 0 then 1 else 0)
  else if w = 116 then (if A 0 0 = 0 then 1 else if 5 ≤ A 0 5 then 3 else 0)
  else 1
theorem cwk_le (A : Ab) (w : Nat) : cwk A w ≤ 4 := by
  unfold cwk
  repeat' split
  all_goals omega
theorem x_cw {h : Mm} {n c R p w : Nat} {T M : Nat → Nat} {A : Ab} (wa : WA A) (kx : KX h c A R M) (rx : RX h n T p) (e3 : h 1 3 = 0) (ec : md_dx (h 1 6) = c) (hw : w ≤ 255) : ∃ h' : Mm, fX6_checkWord h (nI w) = some h' ∧ h' 1 3 = nI (cwk A w) ∧ h' 1 2 = (if cwk A w = 0 then h 1 2 else nI p) ∧ (∀ a j, (a ≠ 1 ∨ j ≠ 2) → (a ≠ 1 ∨ j ≠ 3) → h' a j = h a j) ∧ (cwk A w = 0 → h' = h) := by
  have c103 : (nI w = (103 : Int32)) ↔ w = 103 := n_eq (b := 103) (by omega) (by omega)
  have c105 : (nI w = (105 : Int32)) ↔ w = 105 := n_eq (b := 105) (by omega) (by omega)
  have c106 : (nI w = (106 : Int32)) ↔ w = 106 := n_eq (b := 106) (by omega) (by omega)
  have c100 : (nI w = (100 : Int32)) ↔ w = 100 := n_eq (b := 100) (by omega) (by omega)
  have c114 : (nI w = (114 : Int32)) ↔ w = 114 := n_eq (b := 114) (by omega) (by omega)
  have c116 : (nI w = (116 : Int32)) ↔ w = 116 := n_eq (b := 116) (by omega) (by omega)
  have e0 : (h c 0 = 0) ↔ A 0 0 = 0 := by
    rw [kx.2.1]
    by_cases z : A 0 0 = 0
    · rw [if_pos z]; exact ⟨fun _ => z, fun _ => rfl⟩
    · rw [if_neg z]; exact ⟨fun q => absurd q (by decide), fun q => absurd q z⟩
  have w2 := wa.2.2.1
  have w3 := wa.2.2.2.1
  have w4 := wa.2.2.2.2.1
  have w5 := wa.2.2.2.2.2.1
  have l8 : ((8 : Int32) ≤ h c 3) ↔ 8 ≤ A 0 2 := by rw [kx.1.2.2.1]; exact n_le (a := 8) (by omega) (by omega)
  have l5 : ((10 : Int32) ≤ h c 5) ↔ 10 ≤ A 0 3 := by rw [kx.1.2.2.2.1]; exact n_le (a := 10) (by omega) (by omega)
  have l9 : ((10 : Int32) ≤ h c 9) ↔ 10 ≤ A 0 4 := by rw [kx.1.2.2.2.2.1]; exact n_le (a := 10) (by omega) (by omega)
  have l14 : (h c 14 < (5 : Int32)) ↔ A 0 5 < 5 := by rw [kx.1.2.2.2.2.2.1]; exact n_lt (b := 5) (by omega) (by omega)
  have ep : h 1 4 = nI p := rx.2.2.2.2.1
  obtain ⟨g1, a1, a2, a3, a4⟩ := x_ff0 (1 : Int32) (nI p) e3
  obtain ⟨g3, b1, b2, b3, b4⟩ := x_ff0 (3 : Int32) (nI p) e3
  have dd : ∀ l, fX6_findFault g1 (3 : Int32) l = some g1 := fun l => x_ffd (show g1 1 3 = nI 1 from a2) (by omega) (by omega) _ l
  have R0 : cwk A w = 0 → ∃ h' : Mm, some h = some h' ∧ h' 1 3 = nI (cwk A w) ∧ h' 1 2 = (if cwk A w = 0 then h 1 2 else nI p) ∧ (∀ a j, (a ≠ 1 ∨ j ≠ 2) → (a ≠ 1 ∨ j ≠ 3) → h' a j = h a j) ∧ (cwk A w = 0 → h' = h) := fun q => ⟨h, rfl, by rw [q]; exact e3, by rw [if_pos q], fun _ _ _ _ => rfl, fun _ => rfl⟩
  have R1 : cwk A w = 1 → ∃ h' : Mm, some g1 = some h' ∧ h' 1 3 = nI (cwk A w) ∧ h' 1 2 = (if cwk A w = 0 then h 1 2 else nI p) ∧ (∀ a j, (a ≠ 1 ∨ j ≠ 2) → (a ≠ 1 ∨ j ≠ 3) → h' a j = h a j) ∧ (cwk A w = 0 → h' = h) := fun q => ⟨g1, rfl, by rw [q]; exact a2, by rw [if_neg (by omega)]; exact a3, a4, fun z => by omega⟩
  have R3 : cwk A w = 3 → ∃ h' : Mm, some g3 = some h' ∧ h' 1 3 = nI (cwk A w) ∧ h' 1 2 = (if cwk A w = 0 then h 1 2 else nI p) ∧ (∀ a j, (a ≠ 1 ∨ j ≠ 2) → (a ≠ 1 ∨ j ≠ 3) → h' a j = h a j) ∧ (cwk A w = 0 → h' = h) := fun q => ⟨g3, rfl, by rw [q]; exact b2, by rw [if_neg (by omega)]; exact b3, b4, fun z => by omega⟩
  have tail1 : ∀ X : Option Bool, (∃ b, X = some b) → md_bd X (fun (v_7 : Bool) => md_bd ((if v_7 = true then md_bd (fX6_findFault g1 (3 : Int32) (g1 1 4)) (fun h_11 => some h_11) else some g1)) (fun (h_9 : Mm) => some h_9)) = some g1 := by
    rintro X ⟨b, rfl⟩
    rw [bd_s, dd, bd_s, ite_self, bd_s]
  rw [fX6_checkWord]
  simp only [c103, c105, c106, c100, c114, c116, ec, e0, ep]
  by_cases w103 : w = 103
  · have o5 : ¬ w = 105 := by omega
    have o6 : ¬ w = 106 := by omega
    have o0 : ¬ w = 100 := by omega
    have ot : ¬ w = 116 := by omega
    have ck : cwk A w = if A 0 0 = 0 then 0 else 3 := by unfold cwk; rw [if_pos w103]
    by_cases z : A 0 0 = 0
    · rw [if_pos z] at ck
      simp only [if_pos w103, if_neg o5, if_neg o6, if_neg o0, if_neg ot, if_pos z, bd_s, if_true, ec, e0, Bool.false_eq_true, if_false]
      exact R0 ck
    · rw [if_neg z] at ck
      simp only [if_pos w103, if_neg z, bd_s, if_true, ec, e0, ep, b1]
      exact R3 ck
  · by_cases w105 : w = 105
    · have o6 : ¬ w = 106 := by omega
      have o0 : ¬ w = 100 := by omega
      have ot : ¬ w = 116 := by omega
      have ck : cwk A w = if A 0 0 = 0 then 1 else if 8 ≤ A 0 2 then 3 else 0 := by unfold cwk; rw [if_neg w103, if_pos w105]
      by_cases z : A 0 0 = 0
      · rw [if_pos z] at ck
        simp only [if_neg w103, if_pos w105, if_neg o6, if_neg o0, if_neg ot, if_pos z, bd_s, if_true, a1]
        rw [tail1 _ (by split <;> exact ⟨_, rfl⟩)]
        exact R1 ck
      · rw [if_neg z] at ck
        simp only [if_neg w103, if_pos w105, if_neg o6, if_neg o0, if_neg ot, if_neg z, bd_s, if_true, ec, l8, ep, b1]
        by_cases y : 8 ≤ A 0 2
        · rw [if_pos y] at ck ⊢
          simp only [bd_s, if_true]
          exact R3 ck
        · rw [if_neg y] at ck ⊢
          simp only [bd_s, Bool.false_eq_true, if_false]
          exact R0 ck
    · by_cases w106 : w = 106
      · have o0 : ¬ w = 100 := by omega
        have ot : ¬ w = 116 := by omega
        have ck : cwk A w = if A 0 0 = 0 then 1 else if 10 ≤ A 0 3 then 3 else 0 := by unfold cwk; rw [if_neg w103, if_neg w105, if_pos w106]
        by_cases z : A 0 0 = 0
        · rw [if_pos z] at ck
          simp only [if_neg w103, if_neg w105, if_pos w106, if_neg o0, if_neg ot, if_pos z, bd_s, if_true, a1]
          rw [tail1 _ (by split <;> exact ⟨_, rfl⟩)]
          exact R1 ck
        · rw [if_neg z] at ck
          simp only [if_neg w103, if_neg w105, if_pos w106, if_neg o0, if_neg ot, if_neg z, bd_s, if_true, ec, l5, ep, b1]
          by_cases y : 10 ≤ A 0 3
          · rw [if_pos y] at ck ⊢
            simp only [bd_s, if_true]
            exact R3 ck
          · rw [if_neg y] at ck ⊢
            simp only [bd_s, Bool.false_eq_true, if_false]
            exact R0 ck
      · by_cases w100 : w = 100
        · have ot : ¬ w = 116 := by omega
          have ck : cwk A w = if A 0 0 = 0 then 1 else if 10 ≤ A 0 4 then 3 else 0 := by unfold cwk; rw [if_neg w103, if_neg w105, if_neg w106, if_pos w100]
          by_cases z : A 0 0 = 0
          · rw [if_pos z] at ck
            simp only [if_neg w103, if_neg w105, if_neg w106, if_pos w100, if_neg ot, if_pos z, bd_s, if_true, a1]
            rw [tail1 _ (by split <;> exact ⟨_, rfl⟩)]
            exact R1 ck
          · rw [if_neg z] at ck
            simp only [if_neg w103, if_neg w105, if_neg w106, if_pos w100, if_neg ot, if_neg z, bd_s, if_true, ec, l9, ep, b1]
            by_cases y : 10 ≤ A 0 4
            · rw [if_pos y] at ck ⊢
              simp only [bd_s, if_true]
              exact R3 ck
            · rw [if_neg y] at ck ⊢
              simp only [bd_s, Bool.false_eq_true, if_false]
              exact R0 ck
        · by_cases w114 : w = 114
          · have ot : ¬ w = 116 := by omega
            have ck : cwk A w = if A 0 0 = 0 then 1 else 0 := by unfold cwk; rw [if_neg w103, if_neg w105, if_neg w106, if_neg w100, if_pos w114]
            by_cases z : A 0 0 = 0
            · rw [if_pos z] at ck
              simp only [if_neg w103, if_neg w105, if_neg w106, if_neg w100, if_pos w114, if_neg ot, if_pos z, bd_s, if_true, a1, Bool.false_eq_true, if_false]
              exact R1 ck
            · rw [if_neg z] at ck
              simp only [if_neg w103, if_neg w105, if_neg w106, if_neg w100, if_pos w114, if_neg ot, if_neg z, bd_s, if_true, Bool.false_eq_true, if_false]
              exact R0 ck
          · by_cases w116 : w = 116
            · have ck : cwk A w = if A 0 0 = 0 then 1 else if 5 ≤ A 0 5 then 3 else 0 := by unfold cwk; rw [if_neg w103, if_neg w105, if_neg w106, if_neg w100, if_neg w114, if_pos w116]
              by_cases z : A 0 0 = 0
              · rw [if_pos z] at ck
                simp only [if_neg w103, if_neg w105, if_neg w106, if_neg w100, if_neg w114, if_pos w116, if_pos z, bd_s, if_true, a1]
                rw [tail1 _ (by split <;> exact ⟨_, rfl⟩)]
                exact R1 ck
              · rw [if_neg z] at ck
                simp only [if_neg w103, if_neg w105, if_neg w106, if_neg w100, if_neg w114, if_pos w116, if_neg z, bd_s, if_true, ec, l14, ep, b1]
                by_cases y : A 0 5 < 5
                · rw [if_neg (by omega)] at ck
                  rw [if_pos y]
                  simp only [bd_s, Bool.false_eq_true, if_false]
                  exact R0 ck
                · rw [if_pos (by omega)] at ck
                  rw [if_neg y]
                  simp only [bd_s, if_true]
                  exact R3 ck
            · have ck : cwk A w = 1 := by unfold cwk; rw [if_neg w103, if_neg w105, if_neg w106, if_neg w100, if_neg w114, if_neg w116]
              simp only [if_neg w103, if_neg w105, if_neg w106, if_neg w100, if_neg w114, if_neg w116, bd_s, a1, Bool.false_eq_true, if_false]
              exact R1 ck
