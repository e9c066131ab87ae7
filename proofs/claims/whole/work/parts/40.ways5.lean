theorem mm_42 {A : Ab} (w : WA A) : ∀ k i (h : Mm) (D : Dv) (b : Bool) F, i + k = A 0 4 → k < F → CM h A → (∀ v, v < 8 → h 104 v = nI (D v)) → (∀ v, D v ≤ 1000000) → ∃ (b' : Bool) (h' : Mm), fX8_findMinutes_42 F h b (nI i) = some (b', h') ∧ (∀ a, a ≠ 104 → h' a = h a) ∧ (∀ v, v < 8 → h' 104 v = nI (ps A k i D v)) ∧ (b' = false → b = false ∧ ps A k i D = D) ∧ (b' = true → b = true ∨ ps A k i D ≠ D) := by
  have h4 := w.2.2.2.2.1
  have h8 := w.2.2.1
  intro k
  induction k with
  | zero =>
    intro i h D b F hi hF x hD hb
    obtain ⟨F, rfl⟩ : ∃ G, F = G + 1 := ⟨F - 1, by omega⟩
    rw [fX8_findMinutes_42, x.2.2.2.2.1, if_pos ((n_le (by omega) (by omega)).mpr (by omega))]
    exact ⟨b, h, rfl, fun _ _ => rfl, hD, fun e => ⟨e, rfl⟩, fun e => .inl e⟩
  | succ k ih =>
    intro i h D b F hi hF x hD hb
    obtain ⟨F, rfl⟩ : ∃ G, F = G + 1 := ⟨F - 1, by omega⟩
    have hx := x.2.2.2.2.2.2.2.2 i (by omega)
    have hw := w.2.2.2.2.2.2.2.2 i (by omega)
    have b5 := hb (A 5 i)
    have b6 := hb (A 6 i)
    rw [fX8_findMinutes_42, x.2.2.2.2.1, if_neg (by rw [n_le (by omega) (by omega)]; omega)]
    simp only [in_t (i := i) (n := 10) (by omega) (by omega), ck_t, nI_c (n := i) (by omega), hx.1, hx.2.1, hx.2.2, in_t (i := A 6 i) (n := 8) (by omega) (by omega), in_t (i := A 5 i) (n := 8) (by omega) (by omega), nI_c (n := A 6 i) (by omega), nI_c (n := A 5 i) (by omega), lt_e, hD (A 6 i) (by omega), hD (A 5 i) (by omega), nI_1, nI_add]
    by_cases cz : D (A 5 i) ≤ A 7 i + D (A 6 i)
    · have e : rl A i D = D := by unfold rl; rw [if_pos cz]
      rw [if_pos ((n_le (by omega) (by omega)).mpr cz), b2_s, ps, e]
      exact ih (i + 1) h D b F (by omega) (by omega) x hD hb
    · have e : ∀ v, rl A i D v = if v = A 5 i then A 7 i + D (A 6 i) else D v := fun v => by unfold rl; rw [if_neg cz]
      have fr : ∀ a, a ≠ 104 → md_up h 104 (A 5 i) (nI (A 7 i + D (A 6 i))) a = h a := fun a ha => up_n _ _ _ ha
      rw [if_neg (by rw [n_le (by omega) (by omega)]; exact cz), b2_s, ps]
      obtain ⟨b', h', e1, e2, e3, e4, e5⟩ := ih (i + 1) (md_up h 104 (A 5 i) (nI (A 7 i + D (A 6 i)))) (rl A i D) true F (by omega) (by omega) (CM_f fr x) (fun v hv => by
        rw [e v]
        by_cases q : v = A 5 i
        · rw [if_pos q, q, u_ss]
        · rw [if_neg q, u_sn _ _ _ q]; exact hD v hv) (fun v => Nat.le_trans (rl_le A i D v) (hb v))
      refine ⟨b', h', e1, fun a ha => by rw [e2 a ha, fr a ha], e3, fun q => ?_, fun _ => .inr fun q => ?_⟩
      · exact absurd (e4 q).1 (by decide)
      · have h1 := ps_le A k (i + 1) (rl A i D) (A 5 i)
        rw [q, e, if_pos rfl] at h1
        omega
theorem itp_fix {A : Ab} {D : Dv} (e : pa A D = D) : ∀ r, itp A r D = D := by
  intro r
  induction r with
  | zero => rfl
  | succ r ih => rw [itp, e, ih]
theorem mm_34 {A : Ab} (w : WA A) : ∀ r (h : Mm) (D : Dv) F, r + 2 < F → CM h A → (∀ v, v < 8 → h 104 v = nI (D v)) → (∀ v, D v ≤ 1000000) → pa A (itp A r D) = itp A r D → ∃ h' : Mm, fX8_findMinutes_34 F h true = some h' ∧ (∀ a, a ≠ 104 → h' a = h a) ∧ (∀ v, v < 8 → h' 104 v = nI (itp A r D v)) := by
  have h4 := w.2.2.2.2.1
  intro r
  induction r with
  | zero =>
    intro h D F hF x hD hb hfix
    obtain ⟨F, rfl⟩ : ∃ G, F = G + 2 := ⟨F - 2, by omega⟩
    obtain ⟨b', g, c1, c2, c3, c4, c5⟩ := mm_42 w (A 0 4) 0 h D false md_N (by omega) (by unfold md_N; omega) x hD hb
    rw [fX8_findMinutes_34, if_pos rfl, show (0 : Int32) = nI 0 from rfl, c1, b2_s]
    cases b'
    · rw [fX8_findMinutes_34, if_neg (by decide)]
      exact ⟨g, rfl, c2, fun v hv => by rw [c3 v hv]; exact congrArg nI (congrFun hfix v)⟩
    · rcases c5 rfl with q | q
      · exact absurd q (by decide)
      · exact absurd hfix q
  | succ r ih =>
    intro h D F hF x hD hb hfix
    obtain ⟨F, rfl⟩ : ∃ G, F = G + 2 := ⟨F - 2, by omega⟩
    obtain ⟨b', g, c1, c2, c3, c4, c5⟩ := mm_42 w (A 0 4) 0 h D false md_N (by omega) (by unfold md_N; omega) x hD hb
    rw [fX8_findMinutes_34, if_pos rfl, show (0 : Int32) = nI 0 from rfl, c1, b2_s]
    cases b'
    · have e : pa A D = D := (c4 rfl).2
      rw [fX8_findMinutes_34, if_neg (by decide)]
      exact ⟨g, rfl, c2, fun v hv => by rw [c3 v hv, itp_fix e]; exact congrArg nI (congrFun e v)⟩
    · obtain ⟨h', d1, d2, d3⟩ := ih g (pa A D) (F + 1) (by omega) (CM_f c2 x) c3 (fun v => Nat.le_trans (ps_le A _ _ D v) (hb v)) hfix
      exact ⟨h', d1, fun a ha => by rw [d2 a ha, c2 a ha], d3⟩
theorem mm_find {h : Mm} {A : Ab} (w : WA A) (x : CM h A) {t : Nat} (ht : t < A 0 2) : ∃ h' : Mm, fX8_findMinutes h (nI t) = some h' ∧ (∀ a, a ≠ 104 → h' a = h a) ∧ (∀ v, v < 8 → h' 104 v = nI (FD A t v)) := by
  have h8 := w.2.2.1
  obtain ⟨g, c1, c2, c3, c4⟩ := mm_2 t (by omega) 8 0 h md_N (by omega) (by unfold md_N; omega)
  obtain ⟨h', d1, d2, d3⟩ := mm_34 w (A 0 2 - 1) g (D0 t) md_N (by unfold md_N; omega) (CM_f c2 x) (fun v hv => c4 v (by omega) hv) (D0_J A t).2.1 (bell w ht)
  rw [fX8_findMinutes, show (0 : Int32) = nI 0 from rfl, c1, bd_s, d1]
  exact ⟨h', rfl, fun a ha => by rw [d2 a ha, c2 a ha], d3⟩
