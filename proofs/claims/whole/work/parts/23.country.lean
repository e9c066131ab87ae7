/-! a country's numbers: A 0 = (gate, risk, ideas, joinings, talks, travellers), A 1 sizes, A 2 3 4 joinings, A 5 6 7 talks -/
abbrev Ab : Type := Nat → Nat → Nat
def CX (h : Mm) (c : Nat) (A : Ab) : Prop := h c 1 = nI (A 0 0) ∧ h c 2 = nI (A 0 1) ∧ h c 3 = nI (A 0 2) ∧ h c 5 = nI (A 0 3) ∧ h c 9 = nI (A 0 4) ∧ h c 14 = nI (A 0 5) ∧ (∀ i, i < A 0 2 → h (c + 1) i = nI (A 1 i)) ∧ (∀ k, k < A 0 3 → h (c + 2) k = nI (A 2 k) ∧ h (c + 3) k = nI (A 3 k) ∧ h (c + 4) k = nI (A 4 k)) ∧ (∀ k, k < A 0 4 → h (c + 5) k = nI (A 5 k) ∧ h (c + 6) k = nI (A 6 k) ∧ h (c + 7) k = nI (A 7 k))
def CM (h : Mm) (A : Ab) : Prop := h 84 0 = nI (A 0 0) ∧ h 84 1 = nI (A 0 1) ∧ h 84 2 = nI (A 0 2) ∧ h 84 4 = nI (A 0 3) ∧ h 84 8 = nI (A 0 4) ∧ h 84 12 = nI (A 0 5) ∧ (∀ i, i < A 0 2 → h 85 i = nI (A 1 i)) ∧ (∀ k, k < A 0 3 → h 86 k = nI (A 2 k) ∧ h 87 k = nI (A 3 k) ∧ h 88 k = nI (A 4 k)) ∧ (∀ k, k < A 0 4 → h 89 k = nI (A 5 k) ∧ h 90 k = nI (A 6 k) ∧ h 91 k = nI (A 7 k))
def WA (A : Ab) : Prop := A 0 0 ≤ 999 ∧ A 0 1 ≤ 99 ∧ A 0 2 ≤ 8 ∧ A 0 3 ≤ 10 ∧ A 0 4 ≤ 10 ∧ A 0 5 ≤ 5 ∧ (∀ i, i < A 0 2 → 1 ≤ A 1 i ∧ A 1 i ≤ 99) ∧ (∀ k, k < A 0 3 → A 2 k < A 0 2 ∧ A 3 k < A 0 2 ∧ A 4 k < A 0 2) ∧ (∀ k, k < A 0 4 → A 5 k < A 0 2 ∧ A 6 k < A 0 2 ∧ 1 ≤ A 7 k ∧ A 7 k ≤ 99)
/-- the size of the ideas i .. i + m - 1 of a set -/
def sF (A : Ab) (s : Nat) : Nat → Nat → Nat
  | _, 0 => 0
  | i, m + 1 => (if s.testBit i then A 1 i else 0) + sF A s (i + 1) m
theorem sF_le {A : Ab} (w : WA A) (s : Nat) : ∀ m i, i + m ≤ A 0 2 → sF A s i m ≤ 99 * m := by
  intro m
  induction m with
  | zero => intro i _; simp [sF]
  | succ m ih =>
    intro i hi
    have h1 := ih (i + 1) (by omega)
    have h2 := (w.2.2.2.2.2.2.1 i (by omega)).2
    rw [sF]
    split <;> omega
theorem mz_size {h : Mm} {A : Ab} (w : WA A) (m : CM h A) {s : Nat} (hs : s < 2 ^ 31) : ∀ k i a F, i + k = A 0 2 → k < F → a ≤ 99 * i → fX8_sizeOf_4 F h (nI s) (nI a) (nI i) = some (nI (a + sF A s i k)) := by
  obtain ⟨w0, w1, w2, w3, w4, w5, w6, w7, w8⟩ := w
  obtain ⟨m0, m1, m2, m3, m4, m5, m6, m7, m8⟩ := m
  intro k
  induction k with
  | zero =>
    intro i a F hi hF ha
    obtain ⟨F, rfl⟩ : ∃ G, F = G + 1 := ⟨F - 1, by omega⟩
    rw [fX8_sizeOf_4, m2, if_pos ((n_le (by omega) (by omega)).mpr (by omega)), sF]
    rfl
  | succ k ih =>
    intro i a F hi hF ha
    obtain ⟨F, rfl⟩ : ∃ G, F = G + 1 := ⟨F - 1, by omega⟩
    have h1 := w6 i (by omega)
    rw [fX8_sizeOf_4, m2, if_neg (by rw [n_le (by omega) (by omega)]; omega), has_iff hs (by omega), bd_s]
    rw [sF]
    cases hb : s.testBit i
    · rw [if_neg (by decide), if_neg (by decide), bd_s, lt_e, show (0 : Int32) = nI 0 from rfl, nI_add, nI_1, ih (i + 1) (a + 0) F (by omega) (by omega) (by omega)]
      simp
    · rw [if_pos rfl, if_pos rfl, in_t (by omega) (by omega), ck_t, bd_s, lt_e, nI_c (by omega), m6 i (by omega), nI_add, nI_1, ih (i + 1) (a + A 1 i) F (by omega) (by omega) (by omega)]
      rw [Nat.add_assoc]
theorem xz_size {h : Mm} {c : Nat} {A : Ab} (w : WA A) (m : CX h c A) {s : Nat} (hs : s < 2 ^ 31) : ∀ k i a F, i + k = A 0 2 → k < F → a ≤ 99 * i → fX1_sizeOf_4 F h c (nI s) (nI a) (nI i) = some (nI (a + sF A s i k)) := by
  obtain ⟨w0, w1, w2, w3, w4, w5, w6, w7, w8⟩ := w
  obtain ⟨m0, m1, m2, m3, m4, m5, m6, m7, m8⟩ := m
  intro k
  induction k with
  | zero =>
    intro i a F hi hF ha
    obtain ⟨F, rfl⟩ : ∃ G, F = G + 1 := ⟨F - 1, by omega⟩
    rw [fX1_sizeOf_4, m2, if_pos ((n_le (by omega) (by omega)).mpr (by omega)), sF]
    rfl
  | succ k ih =>
    intro i a F hi hF ha
    obtain ⟨F, rfl⟩ : ∃ G, F = G + 1 := ⟨F - 1, by omega⟩
    have h1 := w6 i (by omega)
    rw [fX1_sizeOf_4, m2, if_neg (by rw [n_le (by omega) (by omega)]; omega)]
    simp only [n_bit (s := s) (i := i) (by omega)]
    rw [sF]
    cases hb : s.testBit i
    · rw [if_pos rfl, if_neg (by decide), bd_s, lt_e, show (0 : Int32) = nI 0 from rfl, nI_add, nI_1, ih (i + 1) (a + 0) F (by omega) (by omega) (by omega)]
      simp
    · rw [if_neg (by decide), if_pos rfl, in_t (by omega) (by omega), ck_t, bd_s, lt_e, nI_c (by omega), m6 i (by omega), nI_add, nI_1, ih (i + 1) (a + A 1 i) F (by omega) (by omega) (by omega)]
      rw [Nat.add_assoc]
def sZ (A : Ab) (s : Nat) : Nat := sF A s 0 (A 0 2)
theorem sZ_le {A : Ab} (w : WA A) (s : Nat) : sZ A s ≤ 792 := by
  have := sF_le w s (A 0 2) 0 (by omega)
  have := w.2.2.1
  unfold sZ
  omega
theorem mz_sizeOf {h : Mm} {A : Ab} (w : WA A) (m : CM h A) {s : Nat} (hs : s < 2 ^ 31) : fX8_sizeOf h (nI s) = some (nI (sZ A s)) := by
  have := mz_size w m hs (A 0 2) 0 0 md_N (by omega) (by have := w.2.2.1; unfold md_N; omega) (by omega)
  rw [fX8_sizeOf, show (0 : Int32) = nI 0 from rfl, this, bd_s, Nat.zero_add]
  rfl
theorem xz_sizeOf {h : Mm} {c : Nat} {A : Ab} (w : WA A) (m : CX h c A) {s : Nat} (hs : s < 2 ^ 31) : fX1_sizeOf h c (nI s) = some (nI (sZ A s)) := by
  have := xz_size w m hs (A 0 2) 0 0 md_N (by omega) (by have := w.2.2.1; unfold md_N; omega) (by omega)
  rw [fX1_sizeOf, show (0 : Int32) = nI 0 from rfl, this, bd_s, Nat.zero_add]
  rfl
