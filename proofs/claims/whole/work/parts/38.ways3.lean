def Db (D : Dv) (b : Nat) : Prop := ∀ v, D v = 1000000 ∨ D v ≤ b
theorem cIn {p : Nat} (hp : p ≠ 1000000) : cI p = nI p := if_neg hp
theorem nI_nm {b : Nat} (hb : b ≤ 1000000) : ¬ nI b = (-1 : Int32) := by
  intro e
  have h1 : nI 0 ≤ nI b := (n_le (by omega) (by omega)).mpr (by omega)
  rw [e] at h1
  exact absurd h1 (by decide)
theorem Db_rl {A : Ab} (w : WA A) {D : Dv} {b k : Nat} (h : Db D b) (hb : b ≤ 900000) (hk : k < A 0 4) : Db (rl A k D) (b + 99) := by
  have hw := w.2.2.2.2.2.2.2.2 k hk
  intro v
  have h1 := h v
  have h2 := h (A 6 k)
  have h3 := h (A 5 k)
  unfold rl
  split
  · omega
  · show (if v = A 5 k then A 7 k + D (A 6 k) else D v) = 1000000 ∨ (if v = A 5 k then A 7 k + D (A 6 k) else D v) ≤ b + 99
    split <;> omega
theorem CX_f {h h' : Mm} {c : Nat} {A : Ab} (hc : c = 3 ∨ c = 74) (f : ∀ a, a ≠ 73 → h' a = h a) (x : CX h c A) : CX h' c A := by
  unfold CX at *
  rw [f c (by omega), f (c + 1) (by omega), f (c + 2) (by omega), f (c + 3) (by omega), f (c + 4) (by omega), f (c + 5) (by omega), f (c + 6) (by omega), f (c + 7) (by omega)]
  exact x
theorem xm_2 (c t : Nat) (ht : t < 8) : ∀ k i (h : Mm) F, i + k = 8 → k < F → ∃ h' : Mm, fX1_findMinutes_2 F h c 73 8 (nI t) (nI i) = some h' ∧ (∀ a, a ≠ 73 → h' a = h a) ∧ (∀ j, j < i → h' 73 j = h 73 j) ∧ (∀ j, i ≤ j → j < 8 → h' 73 j = cI (D0 t j)) := by
  intro k
  induction k with
  | zero =>
    intro i h F hi hF
    obtain ⟨F, rfl⟩ : ∃ G, F = G + 1 := ⟨F - 1, by omega⟩
    have hc : (8 : Int32) ≤ nI i := by rw [show (8 : Int32) = nI 8 from rfl, n_le (by omega) (by omega)]; omega
    rw [fX1_findMinutes_2, if_pos hc]
    exact ⟨h, rfl, fun _ _ => rfl, fun _ _ => rfl, fun j h1 h2 => by omega⟩
  | succ k ih =>
    intro i h F hi hF
    obtain ⟨F, rfl⟩ : ∃ G, F = G + 1 := ⟨F - 1, by omega⟩
    have hc : ¬ (8 : Int32) ≤ nI i := by rw [show (8 : Int32) = nI 8 from rfl, n_le (by omega) (by omega)]; omega
    have e : (if nI i = nI t then some (0 : Int32) else some (-1 : Int32)) = some (cI (D0 t i)) := by
      by_cases hz : i = t
      · rw [if_pos (by rw [hz]), D0, if_pos hz]; rfl
      · rw [if_neg (by rw [n_eq (by omega) (by omega)]; exact hz), D0, if_neg hz]; rfl
    rw [fX1_findMinutes_2, if_neg hc, e, bd_s, in_t (by omega) (by omega), ck_t, lt_e, nI_c (by omega), nI_1]
    obtain ⟨h', e1, e2, e3, e4⟩ := ih (i + 1) (md_up h 73 i (cI (D0 t i))) F (by omega) (by omega)
    refine ⟨h', e1, fun a ha => by rw [e2 a ha, up_n _ _ _ ha], fun j hj => by rw [e3 j (by omega), u_sn _ _ _ (by omega)], fun j h1 h2 => ?_⟩
    rcases Nat.eq_or_lt_of_le h1 with e | e
    · subst e; rw [e3 i (by omega), u_ss]
    · rw [e4 j e h2]
theorem xm_40 {c : Nat} {A : Ab} (w : WA A) (hc : c = 3 ∨ c = 74) (l3 : Int32) : ∀ k i (h : Mm) (D : Dv) b F, i + k = A 0 4 → k < F → CX h c A → (∀ v, v < 8 → h 73 v = cI (D v)) → Db D b → b + 99 * k ≤ 900000 → ∃ h' : Mm, fX1_findMinutes_40 F h c 73 8 l3 (nI i) = some h' ∧ (∀ a, a ≠ 73 → h' a = h a) ∧ (∀ v, v < 8 → h' 73 v = cI (ps A k i D v)) := by
  have h4 := w.2.2.2.2.1
  have h8 := w.2.2.1
  intro k
  induction k with
  | zero =>
    intro i h D b F hi hF x hD hb hbb
    obtain ⟨F, rfl⟩ : ∃ G, F = G + 1 := ⟨F - 1, by omega⟩
    rw [fX1_findMinutes_40, x.2.2.2.2.1, if_pos ((n_le (by omega) (by omega)).mpr (by omega))]
    exact ⟨h, rfl, fun _ _ => rfl, hD⟩
  | succ k ih =>
    intro i h D b F hi hF x hD hb hbb
    obtain ⟨F, rfl⟩ : ∃ G, F = G + 1 := ⟨F - 1, by omega⟩
    have hx := x.2.2.2.2.2.2.2.2 i (by omega)
    have hw := w.2.2.2.2.2.2.2.2 i (by omega)
    have hbr := Db_rl w (k := i) hb (by omega) (by omega)
    have b5 := hb (A 5 i)
    have b6 := hb (A 6 i)
    rw [fX1_findMinutes_40, x.2.2.2.2.1, if_neg (by rw [n_le (by omega) (by omega)]; omega)]
    simp only [in_t (i := i) (n := 10) (by omega) (by omega), ck_t, nI_c (n := i) (by omega), hx.1, hx.2.1, hx.2.2, in_t (i := A 6 i) (n := 8) (by omega) (by omega), in_t (i := A 5 i) (n := 8) (by omega) (by omega), nI_c (n := A 6 i) (by omega), nI_c (n := A 5 i) (by omega), lt_e, hD (A 6 i) (by omega), hD (A 5 i) (by omega), nI_1]
    have same : D (A 5 i) ≤ A 7 i + D (A 6 i) → ∃ h' : Mm, fX1_findMinutes_40 F h c 73 8 l3 (nI (i + 1)) = some h' ∧ (∀ a, a ≠ 73 → h' a = h a) ∧ (∀ v, v < 8 → h' 73 v = cI (ps A (k + 1) i D v)) := by
      intro hz
      have e : rl A i D = D := by unfold rl; rw [if_pos hz]
      rw [ps, e]
      exact ih (i + 1) h D (b + 99) F (by omega) (by omega) x hD (by rw [← e]; exact hbr) (by omega)
    have other : ¬ D (A 5 i) ≤ A 7 i + D (A 6 i) → ∃ h' : Mm, fX1_findMinutes_40 F (md_up h 73 (A 5 i) (nI (A 7 i + D (A 6 i)))) c 73 8 l3 (nI (i + 1)) = some h' ∧ (∀ a, a ≠ 73 → h' a = h a) ∧ (∀ v, v < 8 → h' 73 v = cI (ps A (k + 1) i D v)) := by
      intro hz
      have fr : ∀ a, a ≠ 73 → md_up h 73 (A 5 i) (nI (A 7 i + D (A 6 i))) a = h a := fun a ha => up_n _ _ _ ha
      obtain ⟨h', e1, e2, e3⟩ := ih (i + 1) (md_up h 73 (A 5 i) (nI (A 7 i + D (A 6 i)))) (rl A i D) (b + 99) F (by omega) (by omega) (CX_f hc fr x) (fun v hv => by
        have e : rl A i D v = if v = A 5 i then A 7 i + D (A 6 i) else D v := by unfold rl; rw [if_neg hz]
        rw [e]
        by_cases q : v = A 5 i
        · rw [if_pos q, q, u_ss, cIn (by omega)]
        · rw [if_neg q, u_sn _ _ _ q]; exact hD v hv) hbr (by omega)
      exact ⟨h', e1, fun a ha => by rw [e2 a ha, fr a ha], fun v hv => by rw [ps]; exact e3 v hv⟩
    by_cases c6 : D (A 6 i) = 1000000
    · rw [c6, cI_t, if_pos rfl, bd_s]
      exact same (by omega)
    · rw [cIn c6, if_neg (nI_nm (by omega)), nI_add]
      by_cases c5 : D (A 5 i) = 1000000
      · rw [c5, cI_t, if_pos rfl, bd_s]
        exact other (by omega)
      · rw [cIn c5, if_neg (nI_nm (by omega))]
        by_cases cz : D (A 5 i) ≤ A 7 i + D (A 6 i)
        · rw [if_pos ((n_le (by omega) (by omega)).mpr cz), bd_s]
          exact same cz
        · rw [if_neg (by rw [n_le (by omega) (by omega)]; exact cz), bd_s]
          exact other cz
