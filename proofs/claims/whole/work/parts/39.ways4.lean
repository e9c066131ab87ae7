theorem Db_ps {A : Ab} (w : WA A) : ∀ m i (D : Dv) b, i + m ≤ A 0 4 → b + 99 * m ≤ 900000 → Db D b → Db (ps A m i D) (b + 99 * m) := by
  intro m
  induction m with
  | zero => intro i D b _ _ h; exact h
  | succ m ih =>
    intro i D b hi hb h
    have := ih (i + 1) (rl A i D) (b + 99) (by omega) (by omega) (Db_rl w h (by omega) (by omega))
    rw [ps, show b + 99 * (m + 1) = b + 99 + 99 * m by omega]
    exact this
theorem xm_29 {c : Nat} {A : Ab} (w : WA A) (hc : c = 3 ∨ c = 74) : ∀ k i (h : Mm) (D : Dv) b F, i + k = A 0 2 → k < F → CX h c A → (∀ v, v < 8 → h 73 v = cI (D v)) → Db D b → b + 990 * k ≤ 900000 → ∃ h' : Mm, fX1_findMinutes_29 F h c 73 8 (nI i) = some h' ∧ (∀ a, a ≠ 73 → h' a = h a) ∧ (∀ v, v < 8 → h' 73 v = cI (itp A k D v)) := by
  have h4 := w.2.2.2.2.1
  have h8 := w.2.2.1
  intro k
  induction k with
  | zero =>
    intro i h D b F hi hF x hD hb hbb
    obtain ⟨F, rfl⟩ : ∃ G, F = G + 1 := ⟨F - 1, by omega⟩
    rw [fX1_findMinutes_29, x.2.2.1, if_pos ((n_le (by omega) (by omega)).mpr (by omega))]
    exact ⟨h, rfl, fun _ _ => rfl, hD⟩
  | succ k ih =>
    intro i h D b F hi hF x hD hb hbb
    obtain ⟨F, rfl⟩ : ∃ G, F = G + 1 := ⟨F - 1, by omega⟩
    obtain ⟨g, c1, c2, c3⟩ := xm_40 w hc (nI i) (A 0 4) 0 h D b md_N (by omega) (by unfold md_N; omega) x hD hb (by omega)
    have hbp := Db_ps w (A 0 4) 0 D b (by omega) (by omega) hb
    obtain ⟨h', d1, d2, d3⟩ := ih (i + 1) g (pa A D) (b + 99 * A 0 4) F (by omega) (by omega) (CX_f hc c2 x) c3 hbp (by omega)
    rw [fX1_findMinutes_29, x.2.2.1, if_neg (by rw [n_le (by omega) (by omega)]; omega), show (0 : Int32) = nI 0 from rfl, c1, bd_s, nI_1, d1]
    exact ⟨h', rfl, fun a ha => by rw [d2 a ha, c2 a ha], d3⟩
def FD (A : Ab) (t : Nat) : Dv := itp A (A 0 2 - 1) (D0 t)
theorem D0_b (t : Nat) : Db (D0 t) 0 := by
  intro v
  unfold D0
  split <;> omega
theorem xm_find {h : Mm} {c : Nat} {A : Ab} (w : WA A) (hc : c = 3 ∨ c = 74) (x : CX h c A) {t : Nat} (ht : t < A 0 2) : ∃ h' : Mm, fX1_findMinutes h c 73 8 (nI t) = some h' ∧ (∀ a, a ≠ 73 → h' a = h a) ∧ (∀ v, v < 8 → h' 73 v = cI (FD A t v)) := by
  have h8 := w.2.2.1
  obtain ⟨g, c1, c2, c3, c4⟩ := xm_2 c t (by omega) 8 0 h md_N (by omega) (by unfold md_N; omega)
  obtain ⟨h', d1, d2, d3⟩ := xm_29 w hc (A 0 2 - 1) 1 g (D0 t) 0 md_N (by omega) (by unfold md_N; omega) (CX_f hc c2 x) (fun v hv => c4 v (by omega) hv) (D0_b t) (by omega)
  rw [fX1_findMinutes, show (0 : Int32) = nI 0 from rfl, c1, bd_s, show (1 : Int32) = nI 1 from rfl, d1]
  exact ⟨h', rfl, fun a ha => by rw [d2 a ha, c2 a ha], d3⟩
theorem CM_f {h h' : Mm} {A : Ab} (f : ∀ a, a ≠ 104 → h' a = h a) (x : CM h A) : CM h' A := by
  unfold CM at *
  rw [f 84 (by omega), f 85 (by omega), f 86 (by omega), f 87 (by omega), f 88 (by omega), f 89 (by omega), f 90 (by omega), f 91 (by omega)]
  exact x
theorem mm_2 (t : Nat) (ht : t < 8) : ∀ k i (h : Mm) F, i + k = 8 → k < F → ∃ h' : Mm, fX8_findMinutes_2 F h (nI t) (nI i) = some h' ∧ (∀ a, a ≠ 104 → h' a = h a) ∧ (∀ j, j < i → h' 104 j = h 104 j) ∧ (∀ j, i ≤ j → j < 8 → h' 104 j = nI (D0 t j)) := by
  intro k
  induction k with
  | zero =>
    intro i h F hi hF
    obtain ⟨F, rfl⟩ : ∃ G, F = G + 1 := ⟨F - 1, by omega⟩
    have hc : (8 : Int32) ≤ nI i := by rw [show (8 : Int32) = nI 8 from rfl, n_le (by omega) (by omega)]; omega
    rw [fX8_findMinutes_2, if_pos hc]
    exact ⟨h, rfl, fun _ _ => rfl, fun _ _ => rfl, fun j h1 h2 => by omega⟩
  | succ k ih =>
    intro i h F hi hF
    obtain ⟨F, rfl⟩ : ∃ G, F = G + 1 := ⟨F - 1, by omega⟩
    have hc : ¬ (8 : Int32) ≤ nI i := by rw [show (8 : Int32) = nI 8 from rfl, n_le (by omega) (by omega)]; omega
    have e : (if nI i = nI t then some (0 : Int32) else some (1000000 : Int32)) = some (nI (D0 t i)) := by
      by_cases hz : i = t
      · rw [if_pos (by rw [hz]), D0, if_pos hz]; rfl
      · rw [if_neg (by rw [n_eq (by omega) (by omega)]; exact hz), D0, if_neg hz]; rfl
    rw [fX8_findMinutes_2, if_neg hc, e, bd_s, in_t (by omega) (by omega), ck_t, lt_e, nI_c (by omega), nI_1]
    obtain ⟨h', e1, e2, e3, e4⟩ := ih (i + 1) (md_up h 104 i (nI (D0 t i))) F (by omega) (by omega)
    refine ⟨h', e1, fun a ha => by rw [e2 a ha, up_n _ _ _ ha], fun j hj => by rw [e3 j (by omega), u_sn _ _ _ (by omega)], fun j h1 h2 => ?_⟩
    rcases Nat.eq_or_lt_of_le h1 with e | e
    · subst e; rw [e3 i (by omega), u_ss]
    · rw [e4 j e h2]
