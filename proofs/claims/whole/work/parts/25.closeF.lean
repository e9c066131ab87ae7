theorem n_or (a b : Nat) : nI a ||| nI b = nI (a ||| b) := fa_or a b
theorem n_and (a b : Nat) : nI a &&& nI b = nI (a &&& b) := fa_and a b
theorem p31 {n : Nat} (h : n ≤ 8) {s : Nat} (hs : s < 2 ^ n) : s < 2 ^ 31 := Nat.lt_of_lt_of_le hs (Nat.pow_le_pow_right (by decide) (by omega))
theorem pw_le {n : Nat} (h : n ≤ 8) : 2 ^ n ≤ 256 := (Nat.pow_le_pow_right (by decide) h : 2 ^ n ≤ 2 ^ 8)
theorem mz_pass {h : Mm} {A : Ab} (w : WA A) (m : CM h A) : ∀ k j s (b : Bool) F, j + k = A 0 3 → k < F → s < 2 ^ A 0 2 → fX8_close_13 F h (nI s) b (nI j) = some (nI (pF A j k s), b || decide (pF A j k s ≠ s)) := by
  have w' := w
  obtain ⟨w0, w1, w2, w3, w4, w5, w6, w7, w8⟩ := w
  obtain ⟨m0, m1, m2, m3, m4, m5, m6, m7, m8⟩ := m
  intro k
  induction k with
  | zero =>
    intro j s b F hj hF hs
    obtain ⟨F, rfl⟩ : ∃ G, F = G + 1 := ⟨F - 1, by omega⟩
    rw [fX8_close_13, m3, if_pos ((n_le (by omega) (by omega)).mpr (by omega)), pF]
    simp
  | succ k ih =>
    intro j s b F hj hF hs
    obtain ⟨F, rfl⟩ : ∃ G, F = G + 1 := ⟨F - 1, by omega⟩
    obtain ⟨a1, a2, a3⟩ := w7 j (by omega)
    obtain ⟨e1, e2, e3⟩ := m7 j (by omega)
    have hs31 := p31 w2 hs
    rw [fX8_close_13, m3, if_neg (by rw [n_le (by omega) (by omega)]; omega), in_t (by omega) (by omega), ck_t, nI_c (by omega), e1, e2, e3, has_iff hs31 (by omega), bd_s]
    rw [pF]
    cases h1 : s.testBit (A 2 j)
    · rw [if_neg (by decide), b2_s, nI_1, ih (j + 1) s b F (by omega) (by omega) hs]
      simp
    · rw [if_pos rfl, ck_t, has_iff hs31 (by omega), bd_s]
      cases h2 : s.testBit (A 3 j)
      · rw [if_neg (by decide), b2_s, nI_1, ih (j + 1) s b F (by omega) (by omega) hs]
        simp
      · rw [if_pos rfl, ck_t, has_iff hs31 (by omega), bd_s]
        simp only [Bool.and_self, if_true]
        cases h3 : s.testBit (A 4 j)
        · rw [if_neg (by decide), ck_t, lt_e, b2_s, n_shl _ (by omega), n_or, nI_1, ih (j + 1) (s ||| 2 ^ A 4 j) true F (by omega) (by omega) (or_lt hs (Nat.pow_lt_pow_right (by decide) a3))]
          have hne : pF A (j + 1) k (s ||| 2 ^ A 4 j) ≠ s := fun q => by
            have := pF_sb A k (j + 1) (s ||| 2 ^ A 4 j) (A 4 j) (sb_or2 _ ((tb_2 _ _).mpr rfl))
            rw [q, h3] at this
            cases this
          rw [decide_eq_true hne]
          simp
        · rw [if_pos rfl, b2_s, nI_1, sb_bit h3, ih (j + 1) s b F (by omega) (by omega) hs]
theorem mz_close4 {h : Mm} {A : Ab} (w : WA A) (m : CM h A) : ∀ r s F, s < 2 ^ A 0 2 → 8 ≤ bc s 8 + r → r + 2 < F → fX8_close_4 F h (nI s) true = some (nI (cl A r s)) := by
  intro r
  induction r with
  | zero =>
    intro s F hs hb hF
    obtain ⟨F, rfl⟩ : ∃ G, F = G + 2 := ⟨F - 2, by omega⟩
    have hfix := cl_fix w 0 s hs hb
    rw [cl] at hfix
    rw [fX8_close_4, if_pos rfl, show (0 : Int32) = nI 0 from rfl, mz_pass w m (A 0 3) 0 s false md_N (by omega) (by have := w.2.2.2.1; unfold md_N; omega) hs, b2_s]
    unfold pR at hfix
    rw [hfix]
    simp [fX8_close_4, cl]
  | succ r ih =>
    intro s F hs hb hF
    obtain ⟨F, rfl⟩ : ∃ G, F = G + 2 := ⟨F - 2, by omega⟩
    rw [fX8_close_4, if_pos rfl, show (0 : Int32) = nI 0 from rfl, mz_pass w m (A 0 3) 0 s false md_N (by omega) (by have := w.2.2.2.1; unfold md_N; omega) hs, b2_s, cl]
    by_cases hfix : pR A s = s
    · rw [if_pos hfix]
      unfold pR at hfix
      rw [hfix]
      simp [fX8_close_4]
    · rw [if_neg hfix]
      have hlt := pF_lt w (A 0 3) 0 s (by omega) hs
      obtain ⟨i, h1, h2⟩ := ne_bit (pF_sb A (A 0 3) 0 s) hfix
      have h3 := bc_lt (pF_sb A (A 0 3) 0 s) h1 h2 8 (by have := bit_lt hlt h2; have := w.2.2.1; omega)
      rw [decide_eq_true (show pF A 0 (A 0 3) s ≠ s from hfix), Bool.false_or]
      exact ih (pR A s) (F + 1) hlt (by unfold pR; omega) (by omega)
theorem mz_close {h : Mm} {A : Ab} (w : WA A) (m : CM h A) {s : Nat} (hs : s < 2 ^ A 0 2) : fX8_close h (nI s) = some (nI (clo A s)) := by
  rw [fX8_close, mz_close4 w m 8 s md_N hs (by omega) (by unfold md_N; omega), bd_s]
  rfl
theorem tb_and (s a b : Nat) : (s &&& (2 ^ a ||| 2 ^ b) = (2 ^ a ||| 2 ^ b)) ↔ (s.testBit a && s.testBit b) = true := by
  constructor
  · intro h
    have h1 : (s &&& (2 ^ a ||| 2 ^ b)).testBit a = true := by rw [h]; exact sb_or _ ((tb_2 _ _).mpr rfl)
    have h2 : (s &&& (2 ^ a ||| 2 ^ b)).testBit b = true := by rw [h]; exact sb_or2 _ ((tb_2 _ _).mpr rfl)
    rw [Nat.testBit_and, Bool.and_eq_true] at h1 h2
    rw [h1.1, h2.1]; rfl
  · intro h
    rw [Bool.and_eq_true] at h
    refine sb_a (fun i hi => ?_) (fun i hi => ?_)
    · rw [Nat.testBit_and, Bool.and_eq_true] at hi; exact hi.2
    · rw [Nat.testBit_and, hi, Bool.and_true]
      rw [Nat.testBit_or, Bool.or_eq_true, tb_2, tb_2] at hi
      rcases hi with rfl | rfl
      · exact h.1
      · exact h.2
theorem xz_pass {h : Mm} {c : Nat} {A : Ab} (w : WA A) (m : CX h c A) (x y : Int32) : ∀ k j s F, j + k = A 0 3 → k < F → s < 2 ^ A 0 2 → fX1_joined_16 F h c (nI s) x y (nI j) = some (nI (pF A j k s)) := by
  have w' := w
  obtain ⟨w0, w1, w2, w3, w4, w5, w6, w7, w8⟩ := w
  obtain ⟨m0, m1, m2, m3, m4, m5, m6, m7, m8⟩ := m
  intro k
  induction k with
  | zero =>
    intro j s F hj hF hs
    obtain ⟨F, rfl⟩ : ∃ G, F = G + 1 := ⟨F - 1, by omega⟩
    rw [fX1_joined_16, m3, if_pos ((n_le (by omega) (by omega)).mpr (by omega)), pF]
  | succ k ih =>
    intro j s F hj hF hs
    obtain ⟨F, rfl⟩ : ∃ G, F = G + 1 := ⟨F - 1, by omega⟩
    obtain ⟨a1, a2, a3⟩ := w7 j (by omega)
    obtain ⟨e1, e2, e3⟩ := m7 j (by omega)
    have hp := pw_le w2
    have hs2 := lt_p hs w2
    have b1 : (2 : Nat) ^ A 2 j ||| 2 ^ A 3 j < 256 := lt_p (or_lt (Nat.pow_lt_pow_right (by decide) a1) (Nat.pow_lt_pow_right (by decide) a2)) w2
    have b2 : s &&& (2 ^ A 2 j ||| 2 ^ A 3 j) < 256 := Nat.lt_of_le_of_lt Nat.and_le_left hs2
    rw [fX1_joined_16, m3, if_neg (by rw [n_le (by omega) (by omega)]; omega), in_t (by omega) (by omega), ck_t, ck_t, lt_e, nI_c (by omega), e1, e2, e3, n_shl _ (by omega), n_shl _ (by omega), n_shl _ (by omega), n_or, n_and, n_or, ck_t, lt_e]
    simp only [n_eq (show s &&& (2 ^ A 2 j ||| 2 ^ A 3 j) < 1000000001 by omega) (show (2 : Nat) ^ A 2 j ||| 2 ^ A 3 j < 1000000001 by omega), tb_and]
    rw [pF, nI_1]
    cases h1 : (s.testBit (A 2 j) && s.testBit (A 3 j))
    · rw [if_neg (by decide), bd_s, ih (j + 1) s F (by omega) (by omega) hs]
      simp
    · rw [if_pos rfl, bd_s, ih (j + 1) (s ||| 2 ^ A 4 j) F (by omega) (by omega) (or_lt hs (Nat.pow_lt_pow_right (by decide) a3))]
      simp
theorem xz_joined4 {h : Mm} {c : Nat} {A : Ab} (w : WA A) (m : CX h c A) : ∀ r i s F, i + r = 8 → r < F → s < 2 ^ A 0 2 → fX1_joined_4 F h c (nI s) (nI i) = some (nI (cl A r s)) := by
  intro r
  induction r with
  | zero =>
    intro i s F hi hF hs
    obtain ⟨F, rfl⟩ : ∃ G, F = G + 1 := ⟨F - 1, by omega⟩
    rw [fX1_joined_4, show (8 : Int32) = nI 8 from rfl, if_pos ((n_le (by omega) (by omega)).mpr (by omega)), cl]
  | succ r ih =>
    intro i s F hi hF hs
    obtain ⟨F, rfl⟩ : ∃ G, F = G + 1 := ⟨F - 1, by omega⟩
    have hlt := pF_lt w (A 0 3) 0 s (by omega) hs
    have h1 := lt_p hlt w.2.2.1
    have h2 := lt_p hs w.2.2.1
    rw [fX1_joined_4, show (8 : Int32) = nI 8 from rfl, if_neg (by rw [n_le (by omega) (by omega)]; omega), show (0 : Int32) = nI 0 from rfl, xz_pass w m _ _ (A 0 3) 0 s md_N (by omega) (by have := w.2.2.2.1; unfold md_N; omega) hs, bd_s, cl, nI_1]
    simp only [n_eq (show pF A 0 (A 0 3) s < 1000000001 by omega) (show s < 1000000001 by omega)]
    by_cases hfix : pR A s = s
    · rw [if_pos hfix, if_pos (show pF A 0 (A 0 3) s = s from hfix)]
      exact congrArg (fun z => some (nI z)) hfix
    · rw [if_neg hfix, if_neg (show ¬ pF A 0 (A 0 3) s = s from hfix)]
      exact ih (i + 1) (pR A s) F (by omega) (by omega) hlt
theorem xz_joined {h : Mm} {c : Nat} {A : Ab} (w : WA A) (m : CX h c A) {s : Nat} (hs : s < 2 ^ A 0 2) : fX1_joined h c (nI s) = some (nI (clo A s)) := by
  rw [fX1_joined, show (0 : Int32) = nI 0 from rfl, xz_joined4 w m 8 0 s md_N rfl (by unfold md_N; omega) hs, bd_s]
  rfl
/-- the class's table of what follows -/
def TX (h : Mm) (c : Nat) (A : Ab) : Prop := ∀ s, s < 2 ^ A 0 2 → h (c + 9) s = nI (clo A s)
theorem xz_isSet {h : Mm} {c : Nat} {A : Ab} (w : WA A) (m : CX h c A) (l : Int32) : fX1_isSet h c l = some (decide (0 ≤ l ∧ l < nI (2 ^ A 0 2))) := by
  obtain ⟨m0, m1, m2, m3, m4, m5, m6, m7, m8⟩ := m
  rw [fX1_isSet, m2, n_shl _ (by have := w.2.2.1; omega)]
  by_cases h1 : l < 0
  · have : ¬ 0 ≤ l := by rw [fa_le]; rw [fa_lt] at h1; omega
    simp [md_bd, h1, this]
  · have h0 : 0 ≤ l := by rw [fa_le]; rw [fa_lt] at h1; omega
    by_cases h2 : nI (2 ^ A 0 2) ≤ l
    · have : ¬ l < nI (2 ^ A 0 2) := by rw [fa_lt]; rw [fa_le] at h2; omega
      simp [md_bd, h1, h2, this]
    · have : l < nI (2 ^ A 0 2) := by rw [fa_lt]; rw [fa_le] at h2; omega
      simp [md_bd, h1, h2, h0, this]
theorem set_of {A : Ab} (w : WA A) {l : Int32} (h : 0 ≤ l ∧ l < nI (2 ^ A 0 2)) : ∃ s, s < 2 ^ A 0 2 ∧ l = nI s := by
  have hp := pw_le w.2.2.1
  obtain ⟨s, h1, rfl⟩ := nI_of (x := l) (by have := h.1; rw [fa_le] at this; rw [fa_lt]; omega)
  exact ⟨s, (nI_ltI h1 (by omega)).mp h.2, rfl⟩
theorem set_in {A : Ab} (w : WA A) {s : Nat} (hs : s < 2 ^ A 0 2) : (0 : Int32) ≤ nI s ∧ nI s < nI (2 ^ A 0 2) := by
  have hp := pw_le w.2.2.1
  exact ⟨nI_pos' (by omega), (nI_ltI (by omega) (by omega)).mpr hs⟩
theorem xz_allFrom {h : Mm} {c : Nat} {A : Ab} (w : WA A) (m : CX h c A) (t : TX h c A) {s : Nat} (hs : s < 2 ^ A 0 2) : fX1_allFrom h c (nI s) = some (nI (clo A s)) := by
  have hp := pw_le w.2.2.1
  rw [fX1_allFrom, xz_isSet w m, bd_s, decide_eq_true (set_in w hs), if_pos rfl, in_t (by omega) (by omega), ck_t, nI_c (by omega), t s hs, bd_s]
