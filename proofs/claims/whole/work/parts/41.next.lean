theorem mz_quick7 {h : Mm} {A : Ab} (w : WA A) (m : CM h A) {a b : Nat} (ha : a < 8) (hb : b < 8) : ∀ k i u F, i + k = A 0 4 → k < F → u ≤ 1000000 → ∃ r, fX8_quickest_7 F h (nI a) (nI b) (nI u) (nI i) = some (nI r) ∧ r ≤ u ∧ (∀ j, i ≤ j → j < A 0 4 → A 5 j = a → A 6 j = b → r ≤ A 7 j) ∧ (r = u ∨ ∃ j, j < A 0 4 ∧ A 5 j = a ∧ A 6 j = b ∧ r = A 7 j) := by
  have h4 := w.2.2.2.2.1
  have h8 := w.2.2.1
  intro k
  induction k with
  | zero =>
    intro i u F hi hF hu
    obtain ⟨F, rfl⟩ : ∃ G, F = G + 1 := ⟨F - 1, by omega⟩
    rw [fX8_quickest_7, m.2.2.2.2.1, if_pos ((n_le (by omega) (by omega)).mpr (by omega))]
    exact ⟨u, rfl, Nat.le_refl _, fun j h1 h2 => by omega, .inl rfl⟩
  | succ k ih =>
    intro i u F hi hF hu
    obtain ⟨F, rfl⟩ : ∃ G, F = G + 1 := ⟨F - 1, by omega⟩
    have hm := m.2.2.2.2.2.2.2.2 i (by omega)
    have hw := w.2.2.2.2.2.2.2.2 i (by omega)
    rw [fX8_quickest_7, m.2.2.2.2.1, if_neg (by rw [n_le (by omega) (by omega)]; omega)]
    simp only [in_t (i := i) (n := 10) (by omega) (by omega), ck_t, nI_c (n := i) (by omega), hm.1, hm.2.1, hm.2.2, nI_1, n_eq (show A 5 i < 1000000001 by omega) (show a < 1000000001 by omega), n_eq (show A 6 i < 1000000001 by omega) (show b < 1000000001 by omega), n_le (show u < 1000000001 by omega) (show A 7 i < 1000000001 by omega)]
    have skip : ¬ (A 5 i = a ∧ A 6 i = b ∧ A 7 i < u) → ∃ r, fX8_quickest_7 F h (nI a) (nI b) (nI u) (nI (i + 1)) = some (nI r) ∧ r ≤ u ∧ (∀ j, i ≤ j → j < A 0 4 → A 5 j = a → A 6 j = b → r ≤ A 7 j) ∧ (r = u ∨ ∃ j, j < A 0 4 ∧ A 5 j = a ∧ A 6 j = b ∧ r = A 7 j) := by
      intro hn
      obtain ⟨r, e1, e2, e3, e4⟩ := ih (i + 1) u F (by omega) (by omega) hu
      refine ⟨r, e1, e2, fun j h1 h2 h3 h5 => ?_, e4⟩
      rcases Nat.eq_or_lt_of_le h1 with e | e
      · subst e
        rcases Nat.lt_or_ge (A 7 i) u with q | q
        · exact absurd ⟨h3, h5, q⟩ hn
        · omega
      · exact e3 j e h2 h3 h5
    by_cases c1 : A 5 i = a
    · by_cases c2 : A 6 i = b
      · by_cases c3 : u ≤ A 7 i
        · simp only [if_pos c1, if_pos c2, if_pos c3, bd_s, if_true]
          exact skip (by omega)
        · simp only [if_pos c1, if_pos c2, if_neg c3, bd_s, if_true]
          obtain ⟨r, e1, e2, e3, e4⟩ := ih (i + 1) (A 7 i) F (by omega) (by omega) (by omega)
          refine ⟨r, e1, by omega, fun j h1 h2 h3 h5 => ?_, ?_⟩
          · rcases Nat.eq_or_lt_of_le h1 with e | e
            · subst e; exact e2
            · exact e3 j e h2 h3 h5
          · rcases e4 with e | e
            · exact .inr ⟨i, by omega, c1, c2, e⟩
            · exact .inr e
      · simp only [if_pos c1, if_neg c2, bd_s, Bool.false_eq_true, if_false]
        exact skip (fun q => c2 q.2.1)
    · simp only [if_neg c1, bd_s, Bool.false_eq_true, if_false]
      exact skip (fun q => c1 q.1)
theorem mz_quick {h : Mm} {A : Ab} (w : WA A) (m : CM h A) {a b : Nat} (ha : a < 8) (hb : b < 8) : ∃ r, fX8_quickest h (nI a) (nI b) = some (nI r) ∧ r ≤ 1000000 ∧ (∀ j, j < A 0 4 → A 5 j = a → A 6 j = b → r ≤ A 7 j) ∧ (r = 1000000 ∨ ∃ j, j < A 0 4 ∧ A 5 j = a ∧ A 6 j = b ∧ r = A 7 j) := by
  have h4 := w.2.2.2.2.1
  obtain ⟨r, e1, e2, e3, e4⟩ := mz_quick7 w m ha hb (A 0 4) 0 1000000 md_N (by omega) (by unfold md_N; omega) (Nat.le_refl _)
  rw [fX8_quickest, show (0 : Int32) = nI 0 from rfl, show (1000000 : Int32) = nI 1000000 from rfl, e1]
  exact ⟨r, rfl, e2, fun j h1 => e3 j (by omega) h1, e4⟩
