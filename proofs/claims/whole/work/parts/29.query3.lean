theorem nI_m1 (b : Nat) (hb : b < 1000) : ¬ nI b < 0 := by
  rw [show (0 : Int32) = nI 0 from rfl, n_lt (by omega) (by omega)]; omega
theorem nI_n1 : ∀ b, b < 1000 → ¬ nI b = (-1 : Int32) := by decide +kernel
def oS (A : Ab) (v : Int32) : Prop := v = -1 ∨ ∃ b, b < 2 ^ A 0 2 ∧ v = nI b
section QT
variable {h : Mm} {A : Ab} {B : Nat → Nat}
theorem pt_loop (q : QS h A B) {j : Nat} (hj : j < A 0 2) (x : Int32) : ∀ k i (v : Int32) F, i + k = 2 ^ A 0 2 → k < F → oS A v → ∃ r, fX7_cheapestParts_15 F h (nI j) v (nI (2 ^ A 0 2)) (nI i) = some r ∧ fX8_parts_29 F h (nI j) x v (nI i) = some r ∧ oS A r := by
  have q' := q
  obtain ⟨w, xx, tt, m, p, pm, wb⟩ := q
  have h8 := w.2.2.1
  have hB := p31 h8 wb.1
  have hp := pw_le h8
  intro k
  induction k with
  | zero =>
    intro i v F hi hF hv
    obtain ⟨F, rfl⟩ : ∃ G, F = G + 1 := ⟨F - 1, by omega⟩
    have hc : nI (2 ^ A 0 2) ≤ nI i := (n_le (by omega) (by omega)).mpr (by omega)
    rw [fX7_cheapestParts_15, fX8_parts_29, m.2.2.1, n_shl (A 0 2) (by omega), if_pos hc, if_pos hc]
    exact ⟨_, rfl, rfl, hv⟩
  | succ k ih =>
    intro i v F hi hF hv
    obtain ⟨F, rfl⟩ : ∃ G, F = G + 1 := ⟨F - 1, by omega⟩
    have hc : ¬ (nI (2 ^ A 0 2) ≤ nI i) := by rw [n_le (by omega) (by omega)]; omega
    have hi2 : i < 2 ^ A 0 2 := by omega
    have hi3 := p31 h8 hi2
    have ho := or_lt wb.1 hi2
    have hcl := p31 h8 (clo_lt w ho)
    have hiv : oS A (nI i) := .inr ⟨i, hi2, rfl⟩
    rw [fX7_cheapestParts_15, fX8_parts_29, m.2.2.1, n_shl (A 0 2) (by omega), if_neg hc, if_neg hc]
    simp only [in_0, ck_t, c_0, m_now q' (show 0 < 9 by omega), p.1, has_iff hi3 (show j < 31 by omega), bd_s, nI_1, n_shl j (by omega), fa_bit (n := i) (j := j) (by omega), n_or, xz_allFrom w xx tt ho, mz_close w m ho, has_iff hcl (show j < 31 by omega), fa_bit (n := clo A (B 0 ||| i)) (j := j) (by omega)]
    cases i.testBit j
    · simp only [if_true, bd_s, Bool.false_eq_true, if_false]
      rcases hv with rfl | ⟨b, hb, rfl⟩
      · have e : (-1 : Int32) < 0 := by decide
        simp only [if_pos e, bd_s, if_true]
        cases (clo A (B 0 ||| i)).testBit j
        · simp only [if_true, bd_s, Bool.false_eq_true, if_false]
          exact ih (i + 1) _ F (by omega) (by omega) (.inl rfl)
        · simp only [if_true, bd_s, Bool.true_eq_false, if_false]
          exact ih (i + 1) _ F (by omega) (by omega) hiv
      · have e := nI_m1 b (by omega)
        have e2 := nI_n1 b (by omega)
        have hbv : oS A (nI b) := .inr ⟨b, hb, rfl⟩
        simp only [if_neg e, if_neg e2, bd_s, xz_sizeOf w xx hi3, xz_sizeOf w xx (p31 h8 hb), mz_sizeOf w m hi3, mz_sizeOf w m (p31 h8 hb)]
        by_cases hz : nI (sZ A b) ≤ nI (sZ A i)
        · simp only [if_pos hz, bd_s, Bool.false_eq_true, if_false, ite_self]
          exact ih (i + 1) _ F (by omega) (by omega) hbv
        · simp only [if_neg hz, bd_s, if_true]
          cases (clo A (B 0 ||| i)).testBit j
          · simp only [if_true, bd_s, Bool.false_eq_true, if_false]
            exact ih (i + 1) _ F (by omega) (by omega) hbv
          · simp only [if_true, bd_s, Bool.true_eq_false, if_false]
            exact ih (i + 1) _ F (by omega) (by omega) hiv
    · simp only [Bool.true_eq_false, Bool.false_eq_true, if_false, if_true, bd_s]
      exact ih (i + 1) _ F (by omega) (by omega) hv
theorem eq_parts (q : QS h A B) (l l2 : Int32) : ∃ r, fX7_parts h l l2 = some r ∧ fX8_parts h l l2 = some r := by
  have q' := q
  obtain ⟨w, xx, tt, m, p, pm, wb⟩ := q
  have h8 := w.2.2.1
  have hp := pw_le h8
  rw [fX7_parts, fX8_parts, xz_isIdea xx, mz_isIdea w m, bd_s, bd_s]
  by_cases hl : 0 ≤ l ∧ l < nI (A 0 2)
  · obtain ⟨t, ht, rfl⟩ := ix_of (by omega) hl
    rw [decide_eq_true hl, if_pos rfl, if_pos rfl, x_in2, show (0 : Int64) = (0 : Int32).toInt64 from rfl, show (1 : Int64) = (1 : Int32).toInt64 from rfl, m_in, bd_s]
    by_cases h2 : 0 ≤ l2 ∧ l2 ≤ 1
    · rw [if_pos h2, decide_eq_true h2, if_pos rfl]
      obtain ⟨r, e1, e2, e3⟩ := pt_loop q' ht l2 (2 ^ A 0 2) 0 (-1) md_N (by omega) (by unfold md_N; omega) (.inl rfl)
      rw [fX7_cheapestParts, xx.2.2.1, n_shl (A 0 2) (by omega), lt_e, show (0 : Int32) = nI 0 from rfl, e1, e2]
      simp only [bd_s]
      rcases e3 with rfl | ⟨b, hb, rfl⟩
      · have e : (-1 : Int32) < nI 0 := by decide
        simp only [if_pos e, bd_s, if_true]
        by_cases hz : l2 = nI 0
        · rw [if_pos hz]; exact ⟨_, rfl, rfl⟩
        · rw [if_neg hz]; exact ⟨_, rfl, rfl⟩
      · have e : ¬ nI b < nI 0 := nI_m1 b (by omega)
        have e2 := nI_n1 b (by omega)
        simp only [if_neg e, if_neg e2, bd_s, xz_sizeOf w xx (p31 h8 hb), mz_sizeOf w m (p31 h8 hb)]
        by_cases hz : l2 = nI 0
        · simp only [if_pos hz]; exact ⟨_, rfl, rfl⟩
        · simp only [if_neg hz]; exact ⟨_, rfl, rfl⟩
    · rw [if_neg h2, decide_eq_false h2]
      exact ⟨_, rfl, rfl⟩
  · rw [decide_eq_false hl]
    exact ⟨_, rfl, rfl⟩
end QT
theorem mz_bits4 (h : Mm) {s : Nat} (hs : s < 2 ^ 31) : ∀ k i F, i + k = 8 → k < F → fX8_bits_4 F h (nI s) (nI (bc s i)) (nI i) = some (nI (bc s 8)) := by
  intro k
  induction k with
  | zero =>
    intro i F hi hF
    obtain ⟨F, rfl⟩ : ∃ G, F = G + 1 := ⟨F - 1, by omega⟩
    obtain rfl : i = 8 := by omega
    rw [fX8_bits_4, if_pos (by decide)]
  | succ k ih =>
    intro i F hi hF
    obtain ⟨F, rfl⟩ : ∃ G, F = G + 1 := ⟨F - 1, by omega⟩
    have hc : ¬ ((8 : Int32) ≤ nI i) := by rw [show (8 : Int32) = nI 8 from rfl, n_le (by omega) (by omega)]; omega
    rw [fX8_bits_4, if_neg hc, lt_e, n_shr hs (by omega), n_and1, nI_1, nI_add]
    have e : bc s i + s / 2 ^ i % 2 = bc s (i + 1) := by
      rw [bc, Nat.testBit_eq_decide_div_mod_eq]
      have := Nat.mod_two_eq_zero_or_one (s / 2 ^ i)
      rcases this with e | e <;> rw [e] <;> rfl
    rw [e]
    exact ih (i + 1) F (by omega) (by omega)
theorem mz_bits (h : Mm) {s : Nat} (hs : s < 2 ^ 31) : fX8_bits h (nI s) = some (nI (bc s 8)) := by
  have := mz_bits4 h hs 8 0 md_N (by omega) (by unfold md_N; omega)
  rw [fX8_bits, show (0 : Int32) = nI 0 from rfl]
  rw [show bc s 0 = 0 from rfl] at this
  rw [this, bd_s]
theorem jz_c : ∀ s, s < 256 → fJ6_bitCount_0f7a4 (fun _ _ => 0) (nI s) = some (nI (bc s 8)) := by
  unfold fJ6_bitCount_0f7a4
  simp only [lt_e]
  decide +kernel
theorem jz_bits (h : Mm) {s : Nat} (hs : s < 256) : fJ6_bitCount_0f7a4 h (nI s) = some (nI (bc s 8)) := jz_c s hs
