theorem mm_loop {h : Mm} {n I : Nat} {Q : Ab} (w : WQ n Q) (y : QY h n Q) (hI : I ≤ 8) (e2 : h 84 2 = nI I) (l1 : Int32) : ∀ k i u F, i + k = 2 ^ I → k < F → (cN (ft Q n) i = 0 → u = 2 ^ I - 1) → (cN (ft Q n) i ≠ 0 → u = aN (ft Q n) i) → ∃ u', fX8_minds_32 F h l1 (nI (cN (ft Q n) i)) (f1 (ft Q n) i) (nI u) (nI i) = some (nI (cN (ft Q n) (2 ^ I)), f1 (ft Q n) (2 ^ I), nI u') ∧ (cN (ft Q n) (2 ^ I) ≠ 0 → u' = aN (ft Q n) (2 ^ I)) := by
  have hp := pw_le hI
  intro k
  induction k with
  | zero =>
    intro i u F hi hF h1 h2
    obtain ⟨F, rfl⟩ : ∃ G, F = G + 1 := ⟨F - 1, by omega⟩
    rw [fX8_minds_32, e2, n_shl I (by omega), if_pos ((n_le (by omega) (by omega)).mpr (by omega))]
    rw [show i = 2 ^ I by omega] at h2 ⊢
    exact ⟨u, rfl, h2⟩
  | succ k ih =>
    intro i u F hi hF h1 h2
    obtain ⟨F, rfl⟩ : ∃ G, F = G + 1 := ⟨F - 1, by omega⟩
    have hcn := cN_le (ft Q n) i
    rw [fX8_minds_32, e2, n_shl I (by omega), if_neg (by rw [n_le (by omega) (by omega)]; omega), mz_could w y (by omega), bd_s, show nI i + (1 : Int32) = nI (i + 1) from nI_1 ..]
    cases hP : ft Q n i
    · have go := ih (i + 1) u F (by omega) (by omega) (by rw [cN, hP]; exact h1) (by rw [cN, aN, hP]; exact h2)
      rw [cN, f1, hP] at go
      exact go
    · have e0 : (nI (cN (ft Q n) i) = (0 : Int32)) ↔ cN (ft Q n) i = 0 := n_eq (b := 0) (by omega) (by omega)
      have hci : cN (ft Q n) (i + 1) = cN (ft Q n) i + 1 := by rw [cN, hP]; rfl
      rw [if_pos rfl]
      simp only [e0]
      by_cases hz : cN (ft Q n) i = 0
      · have hu := h1 hz
        have e5 : u &&& i = i := by rw [hu, Nat.and_comm, Nat.and_two_pow_sub_one_eq_mod, Nat.mod_eq_of_lt (by omega)]
        have go := ih (i + 1) (u &&& i) F (by omega) (by omega) (by omega) (by intro _; rw [aN, hP, if_pos rfl, if_pos hz, e5])
        rw [hci, f1, hP, if_pos rfl, if_pos hz] at go
        rw [if_pos hz, bd_s, lt_e, b3_s, n_and, show (1 : Int32) = nI 1 from rfl, nI_add]
        exact go
      · have hu := h2 hz
        have go := ih (i + 1) (u &&& i) F (by omega) (by omega) (by omega) (by intro _; rw [aN, hP, if_pos rfl, if_neg hz, hu])
        rw [hci, f1, hP, if_pos rfl, if_neg hz] at go
        rw [if_neg hz, bd_s, lt_e, b3_s, n_and, show (1 : Int32) = nI 1 from rfl, nI_add]
        exact go
theorem aN_0 (P : Nat → Bool) : ∀ i, cN P i = 0 → aN P i = 0 := by
  intro i
  induction i with
  | zero => intro _; rfl
  | succ i ih =>
    intro h
    rw [cN] at h
    rw [aN]
    cases hP : P i
    · rw [hP] at h
      exact ih (by simpa using h)
    · rw [hP] at h
      simp at h
theorem FL_r (h : Mm) : FL h h := ⟨fun _ _ _ => rfl, fun _ _ => rfl⟩
theorem FL_y {h h' : Mm} (f : FL h h') {n : Nat} {Q : Ab} (x : QY h n Q) : QY h' n Q := by
  refine ⟨by rw [f.1 84 (by omega) (by omega)]; exact x.1, fun i hi => ?_⟩
  rw [f.1 105 (by omega) (by omega), f.1 106 (by omega) (by omega), f.1 107 (by omega) (by omega)]
  exact x.2 i hi
theorem eq_minds {h : Mm} {A : Ab} {B : Nat → Nat} (q : QS h A B) {n : Nat} {Q : Ab} (w : WQ n Q) (x : QX h n Q) (y : QY h n Q) (l : Int32) : ∃ r h1, fX7_minds h l = some (r, h1) ∧ FL h h1 ∧ fX8_minds h1 l = some r := by
  have h8 := q.1.2.2.1
  have hp := pw_le h8
  have hpp : 0 < 2 ^ A 0 2 := Nat.two_pow_pos _
  rw [fX7_minds, x_in2]
  by_cases hl : 0 ≤ l ∧ l ≤ 2
  · rw [if_pos hl, q.2.1.2.2.1]
    obtain ⟨h1, e1, e2, e3⟩ := xz_look w x h8
    have y1 := FL_y e2 y
    have m1 : h1 84 2 = nI (A 0 2) := by rw [e2.1 84 (by omega) (by omega)]; exact q.2.2.2.1.2.2.1
    obtain ⟨u, d1, d2⟩ := mm_loop w y1 h8 m1 l (2 ^ A 0 2) 0 (2 ^ A 0 2 - 1) md_N (by omega) (by unfold md_N; omega) (fun _ => rfl) (fun e => absurd rfl e)
    rw [show cN (ft Q n) 0 = 0 from rfl, show f1 (ft Q n) 0 = -1 from rfl] at d1
    have hcn := cN_le (ft Q n) (2 ^ A 0 2)
    have e0 : (nI (cN (ft Q n) (2 ^ A 0 2)) = nI 0) ↔ cN (ft Q n) (2 ^ A 0 2) = 0 := n_eq (by omega) (by omega)
    have hM : ∀ l', l' = l → fX8_minds h1 l = some (if l = 0 then nI (cN (ft Q n) (2 ^ A 0 2)) else if l = 1 then f1 (ft Q n) (2 ^ A 0 2) else nI (aN (ft Q n) (2 ^ A 0 2))) := by
      intro _ _
      rw [fX8_minds, show (0 : Int64) = (0 : Int32).toInt64 from rfl, show (2 : Int64) = (2 : Int32).toInt64 from rfl, m_in, bd_s, decide_eq_true hl, if_pos rfl, m1, n_shl (A 0 2) (by omega), show nI (2 ^ A 0 2) - (1 : Int32) = nI (2 ^ A 0 2 - 1) from n_sub (a := 2 ^ A 0 2) (b := 1) (by omega), lt_e, show (0 : Int32) = nI 0 from rfl, d1, b3_s]
      simp only [e0]
      by_cases c0 : l = nI 0
      · rw [if_pos c0, if_pos c0]; rfl
      · rw [if_neg c0, if_neg c0]
        by_cases c1 : l = 1
        · rw [if_pos c1, if_pos c1]; rfl
        · rw [if_neg c1, if_neg c1]
          by_cases hz : cN (ft Q n) (2 ^ A 0 2) = 0
          · rw [if_pos hz, aN_0 _ _ hz]; rfl
          · rw [if_neg hz, d2 hz]; rfl
    rw [e1, bd_s, e3.1, e3.2.1, e3.2.2.1]
    have hMM := hM l rfl
    by_cases c0 : l = 0
    · rw [if_pos c0] at hMM ⊢; exact ⟨_, h1, rfl, e2, hMM⟩
    · rw [if_neg c0] at hMM ⊢
      by_cases c1 : l = 1
      · rw [if_pos c1] at hMM ⊢; exact ⟨_, h1, rfl, e2, hMM⟩
      · rw [if_neg c1] at hMM ⊢; exact ⟨_, h1, rfl, e2, hMM⟩
  · rw [if_neg hl]
    refine ⟨_, h, rfl, FL_r h, ?_⟩
    rw [fX8_minds, show (0 : Int64) = (0 : Int32).toInt64 from rfl, show (2 : Int64) = (2 : Int32).toInt64 from rfl, m_in, bd_s, decide_eq_false hl]; rfl
