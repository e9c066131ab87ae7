def QX (h : Mm) (n : Nat) (Q : Ab) : Prop := h 65 4 = nI n ∧ ∀ i, i < n → h 66 i = nI (Q 0 i) ∧ h 67 i = nI (Q 1 i) ∧ h 68 i = nI (Q 2 i)
def QY (h : Mm) (n : Nat) (Q : Ab) : Prop := h 84 38 = nI n ∧ ∀ i, i < n → h 105 i = nI (Q 0 i) ∧ h 106 i = nI (Q 1 i) ∧ h 107 i = nI (Q 2 i)
def WQ (n : Nat) (Q : Ab) : Prop := n ≤ 6 ∧ ∀ i, i < n → Q 0 i < 256 ∧ Q 1 i ≤ 10 ∧ Q 2 i ≤ 1
def ans (m s y : Nat) : Bool := if y = 0 then decide (m &&& s ≠ 0) else if y = 1 then decide (m &&& s = s) else decide (bc (m &&& s) 8 = y - 2)
def okq (Q : Ab) (m i : Nat) : Bool := decide (Q 2 i = if ans m (Q 0 i) (Q 1 i) then 1 else 0)
def fs (Q : Ab) (m : Nat) : Nat → Nat → Bool
  | _, 0 => true
  | i, k + 1 => okq Q m i && fs Q m (i + 1) k
theorem and_256 {m s : Nat} (hm : m < 256) : m &&& s < 256 := Nat.lt_of_le_of_lt Nat.and_le_left hm
theorem xz_isSo (h : Mm) {m s y : Nat} (hm : m < 256) (hs : s < 256) (hy : y ≤ 10) : fX5_isSo h (nI m &&& nI s) (nI s) (nI y) = some (ans m s y) := by
  have ha := and_256 (s := s) hm
  have hb := bc_le (m &&& s) 8
  rw [fX5_isSo, n_and, jz_bits h ha, bd_s, show (0 : Int32) = nI 0 from rfl, show (1 : Int32) = nI 1 from rfl, show (2 : Int32) = nI 2 from rfl, ans]
  simp only [n_eq (show y < 1000000001 by omega) (show 0 < 1000000001 by omega), n_eq (show y < 1000000001 by omega) (show 1 < 1000000001 by omega), n_eq (show m &&& s < 1000000001 by omega) (show 0 < 1000000001 by omega), n_eq (show m &&& s < 1000000001 by omega) (show s < 1000000001 by omega)]
  by_cases h0 : y = 0
  · simp only [if_pos h0]
    by_cases h1 : m &&& s = 0
    · rw [if_pos h1, decide_eq_false (by simpa using h1)]; rfl
    · rw [if_neg h1, decide_eq_true h1]; rfl
  · simp only [if_neg h0]
    by_cases h1 : y = 1
    · simp only [if_pos h1]
      by_cases h2 : m &&& s = s
      · rw [if_pos h2, decide_eq_true h2]; rfl
      · rw [if_neg h2, decide_eq_false h2]; rfl
    · simp only [if_neg h1]
      rw [n_sub (by omega)]
      simp only [n_eq (show bc (m &&& s) 8 < 1000000001 by omega) (show y - 2 < 1000000001 by omega)]
      by_cases h2 : bc (m &&& s) 8 = y - 2
      · rw [if_pos h2, decide_eq_true h2]; rfl
      · rw [if_neg h2, decide_eq_false h2]; rfl
theorem mz_answers (h : Mm) {m s y : Nat} (hm : m < 256) (hs : s < 256) (hy : y ≤ 10) : fX8_answers h (nI m) (nI s) (nI y) = some (ans m s y) := by
  have ha := and_256 (s := s) hm
  have hb := bc_le (m &&& s) 8
  rw [fX8_answers, n_and, lt_e, mz_bits h (show m &&& s < 2 ^ 31 by omega), bd_s, show (0 : Int32) = nI 0 from rfl, show (1 : Int32) = nI 1 from rfl, show (2 : Int32) = nI 2 from rfl, ans]
  simp only [n_eq (show y < 1000000001 by omega) (show 0 < 1000000001 by omega), n_eq (show y < 1000000001 by omega) (show 1 < 1000000001 by omega), n_eq (show m &&& s < 1000000001 by omega) (show 0 < 1000000001 by omega), n_eq (show m &&& s < 1000000001 by omega) (show s < 1000000001 by omega)]
  by_cases h0 : y = 0
  · simp only [if_pos h0]
    by_cases h1 : m &&& s = 0
    · rw [if_pos h1, decide_eq_false (by simpa using h1)]; rfl
    · rw [if_neg h1, decide_eq_true h1]; rfl
  · simp only [if_neg h0]
    by_cases h1 : y = 1
    · simp only [if_pos h1]
      by_cases h2 : m &&& s = s
      · rw [if_pos h2, decide_eq_true h2]; rfl
      · rw [if_neg h2, decide_eq_false h2]; rfl
    · simp only [if_neg h1]
      rw [n_sub (by omega)]
      simp only [n_eq (show bc (m &&& s) 8 < 1000000001 by omega) (show y - 2 < 1000000001 by omega)]
      by_cases h2 : bc (m &&& s) 8 = y - 2
      · rw [if_pos h2, decide_eq_true h2]; rfl
      · rw [if_neg h2, decide_eq_false h2]; rfl
theorem ok_e {b : Bool} {z : Nat} (hz : z ≤ 1) : (md_bi b = nI z) ↔ decide (z = if b then 1 else 0) = true := by
  rcases (show z = 0 ∨ z = 1 by omega) with rfl | rfl <;> cases b <;> decide
theorem xz_fits2 {h : Mm} {n : Nat} {Q : Ab} (w : WQ n Q) (x : QX h n Q) {m : Nat} (hm : m < 256) : ∀ k i F, i + k = n → k < F → fX5_fits_2 F h (nI m) (nI i) = some (if fs Q m i k then .inr () else .inl ()) := by
  have hn := w.1
  intro k
  induction k with
  | zero =>
    intro i F hi hF
    obtain ⟨F, rfl⟩ : ∃ G, F = G + 1 := ⟨F - 1, by omega⟩
    rw [fX5_fits_2, x.1, if_pos ((n_le (by omega) (by omega)).mpr (by omega))]; rfl
  | succ k ih =>
    intro i F hi hF
    obtain ⟨F, rfl⟩ : ∃ G, F = G + 1 := ⟨F - 1, by omega⟩
    have hx := x.2 i (by omega)
    have hw := w.2 i (by omega)
    rw [fX5_fits_2, x.1, if_neg (by rw [n_le (by omega) (by omega)]; omega), in_t (by omega) (by omega), ck_t, ck_t, ck_t, nI_c (by omega), hx.1, hx.2.1, hx.2.2, xz_isSo h hm hw.1 hw.2.1, bd_s, ck_t, nI_1, fs]
    by_cases hc : okq Q m i = true
    · rw [if_pos ((ok_e hw.2.2).mpr hc), hc, Bool.true_and]
      exact ih (i + 1) F (by omega) (by omega)
    · rw [if_neg (fun e => hc ((ok_e hw.2.2).mp e)), eq_false_of_ne_true hc]; rfl
theorem mz_could4 {h : Mm} {n : Nat} {Q : Ab} (w : WQ n Q) (x : QY h n Q) {m : Nat} (hm : m < 256) : ∀ k i b F, i + k = n → k < F → fX8_couldBe_4 F h (nI m) b (nI i) = some (b && fs Q m i k) := by
  have hn := w.1
  intro k
  induction k with
  | zero =>
    intro i b F hi hF
    obtain ⟨F, rfl⟩ : ∃ G, F = G + 1 := ⟨F - 1, by omega⟩
    rw [fX8_couldBe_4, x.1, if_pos ((n_le (by omega) (by omega)).mpr (by omega)), fs, Bool.and_true]
  | succ k ih =>
    intro i b F hi hF
    obtain ⟨F, rfl⟩ : ∃ G, F = G + 1 := ⟨F - 1, by omega⟩
    have hx := x.2 i (by omega)
    have hw := w.2 i (by omega)
    rw [fX8_couldBe_4, x.1, if_neg (by rw [n_le (by omega) (by omega)]; omega), in_t (by omega) (by omega), ck_t, ck_t, nI_c (by omega), hx.1, hx.2.1, hx.2.2, mz_answers h hm hw.1 hw.2.1, bd_s, ck_t, nI_1, fs]
    cases b
    · rw [if_neg (by decide), bd_s, ih (i + 1) _ F (by omega) (by omega)]; rfl
    · rw [if_pos rfl]
      by_cases hc : okq Q m i = true
      · rw [if_pos ((ok_e hw.2.2).mpr hc), hc, bd_s, ih (i + 1) _ F (by omega) (by omega)]; rfl
      · rw [if_neg (fun e => hc ((ok_e hw.2.2).mp e)), eq_false_of_ne_true hc, bd_s, ih (i + 1) _ F (by omega) (by omega)]; rfl
def ft (Q : Ab) (n m : Nat) : Bool := fs Q m 0 n
theorem xz_fits {h : Mm} {n : Nat} {Q : Ab} (w : WQ n Q) (x : QX h n Q) {m : Nat} (hm : m < 256) : fX5_fits h (nI m) = some (ft Q n m) := by
  have hn := w.1
  rw [fX5_fits, show (0 : Int32) = nI 0 from rfl, xz_fits2 w x hm n 0 md_N (by omega) (by unfold md_N; omega), ft]
  cases fs Q m 0 n <;> rfl
theorem mz_could {h : Mm} {n : Nat} {Q : Ab} (w : WQ n Q) (x : QY h n Q) {m : Nat} (hm : m < 256) : fX8_couldBe h (nI m) = some (ft Q n m) := by
  have hn := w.1
  rw [fX8_couldBe, show (0 : Int32) = nI 0 from rfl, mz_could4 w x hm n 0 true md_N (by omega) (by unfold md_N; omega), ft]; rfl
