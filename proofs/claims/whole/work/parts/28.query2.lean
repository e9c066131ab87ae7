theorem m_in (h : Mm) (l a b : Int32) : fX8_in h l.toInt64 a.toInt64 b.toInt64 = some (decide (a ≤ l ∧ l ≤ b)) := by
  rw [in_iff]
  congr 1
  apply decide_eq_decide.mpr
  rw [fa_wide_le, fa_wide_le]
theorem i_nlt {a b : Int32} : ¬ a < b ↔ b ≤ a := by rw [fa_lt, fa_le]; omega
theorem i_nle {a b : Int32} : ¬ a ≤ b ↔ b < a := by rw [fa_lt, fa_le]; omega
theorem x_in2 {α : Type} (l u : Int32) (X Z : α) : (if l < 0 then Z else (if l ≤ u then X else Z)) = if (0 ≤ l ∧ l ≤ u) then X else Z := by
  by_cases h1 : l < 0
  · have : ¬ 0 ≤ l := i_nle.mpr h1
    rw [if_pos h1, if_neg (fun q => this q.1)]
  · have h0 : 0 ≤ l := i_nlt.mp h1
    rw [if_neg h1]
    by_cases h2 : l ≤ u
    · rw [if_pos h2, if_pos ⟨h0, h2⟩]
    · rw [if_neg h2, if_neg (fun q => h2 q.2)]
theorem bi_t : md_bi true = 1 := rfl
section QR
variable {h : Mm} {A : Ab} {B : Nat → Nat}
theorem eq_better (q : QS h A B) (l l2 : Int32) : ∃ r, fX7_better h l l2 = some r ∧ fX8_better h l l2 = some r := by
  have h5 := q.1.2.2.2.2.2.1
  rw [fX7_better, fX8_better, xz_isTr q.2.1, mz_isTr q.1 q.2.2.2.1, bd_s, bd_s]
  by_cases hl : 0 ≤ l ∧ l < nI (A 0 5)
  · obtain ⟨t, ht, rfl⟩ := ix_of (by omega) hl
    have hs := q.2.2.2.2.2.2.2.2.1 t (by omega)
    rw [decide_eq_true hl, if_pos rfl, if_pos rfl, x_in2, show (0 : Int64) = (0 : Int32).toInt64 from rfl, show (9999 : Int64) = (9999 : Int32).toInt64 from rfl, m_in, bd_s]
    by_cases h2 : 0 ≤ l2 ∧ l2 ≤ 9999
    · rw [if_pos h2, decide_eq_true h2, if_pos rfl, xq_gone q (by omega), mq_gone q (by omega), bd_s, bd_s]
      cases (B 1).testBit t
      · rw [if_neg (by decide), if_neg (by decide), xq_mind q (by omega), bd_s, xq_stuck q hs, mq_stuck q (by omega), bd_s, bd_s]
        by_cases h3 : A 0 0 < sZ A (B (2 + t))
        · rw [decide_eq_true h3]
          exact ⟨_, rfl, rfl⟩
        · rw [decide_eq_false h3, if_neg (by decide), if_neg (by decide), xq_duty q (by omega), bd_s, in_2t (by omega), ck_t, cl_2t (by omega), m_now q (by omega), mq_owed q hs, bd_s, q.2.1.2.1, q.2.2.2.1.2.1]
          by_cases h4 : (nI (A 0 1) * l2) / 100 < nI (dZ A (B (2 + t)) (clo A (B 0)))
          · rw [if_pos h4, if_neg (i_nle.mpr h4)]; exact ⟨_, rfl, rfl⟩
          · rw [if_neg h4, if_pos (i_nlt.mp h4)]; exact ⟨_, rfl, rfl⟩
      · exact ⟨_, rfl, rfl⟩
    · rw [if_neg h2, decide_eq_false h2]
      exact ⟨_, rfl, rfl⟩
  · rw [decide_eq_false hl]
    exact ⟨_, rfl, rfl⟩
theorem gl_loop (e : h (md_dx (h 0 7)) 2 = h 84 1) : ∀ k i n (v : Int64) F, i + k = n → n ≤ 60 → k < F → ∃ r, fX7_glacier_20 F h (nI n) v (nI i) = some r ∧ fX8_glacier_22 F h (nI n) v (nI i) = some r := by
  intro k
  induction k with
  | zero =>
    intro i n v F hi hn hF
    obtain ⟨F, rfl⟩ : ∃ G, F = G + 1 := ⟨F - 1, by omega⟩
    rw [fX7_glacier_20, fX8_glacier_22, if_pos ((n_le (by omega) (by omega)).mpr (by omega)), if_pos ((n_le (by omega) (by omega)).mpr (by omega))]
    exact ⟨_, rfl, rfl⟩
  | succ k ih =>
    intro i n v F hi hn hF
    obtain ⟨F, rfl⟩ : ∃ G, F = G + 1 := ⟨F - 1, by omega⟩
    rw [fX7_glacier_20, fX8_glacier_22, if_neg (by rw [n_le (by omega) (by omega)]; omega), if_neg (by rw [n_le (by omega) (by omega)]; omega), lt_e, lt_e, e, nI_1]
    exact ih (i + 1) n _ F (by omega) hn (by omega)
theorem eq_glacier (q : QS h A B) (l : Int32) : ∃ r, fX7_glacier h l = some r ∧ fX8_glacier h l = some r := by
  rw [fX7_glacier, fX8_glacier, x_in2, show (0 : Int64) = (0 : Int32).toInt64 from rfl, show (60 : Int64) = (60 : Int32).toInt64 from rfl, m_in, bd_s]
  by_cases h2 : 0 ≤ l ∧ l ≤ 60
  · rw [if_pos h2, decide_eq_true h2, if_pos rfl, lt_e, lt_e]
    obtain ⟨n, hn, rfl⟩ := nI_of2 (M := 60) (n := 60) (by decide) (i_nlt.mpr h2.1) h2.2
    obtain ⟨r, h3, h4⟩ := gl_loop (h := h) (by rw [q.2.1.2.1, q.2.2.2.1.2.1]) n 0 n 1000000000 md_N (by omega) hn (by unfold md_N; omega)
    rw [show (0 : Int32) = nI 0 from rfl, h3, h4]
    exact ⟨_, rfl, rfl⟩
  · rw [if_neg h2, decide_eq_false h2]
    exact ⟨_, rfl, rfl⟩
theorem st_loop (q : QS h A B) : ∀ k i (v : Nat) F, i + k = A 0 5 → k < F → ∃ r, fX7_stuckOnes_4 F h (nI v) (nI i) = some r ∧ fX8_stuckOnes_4 F h (nI v) (nI i) = some r := by
  have h5 := q.1.2.2.2.2.2.1
  intro k
  induction k with
  | zero =>
    intro i v F hi hF
    obtain ⟨F, rfl⟩ : ∃ G, F = G + 1 := ⟨F - 1, by omega⟩
    rw [fX7_stuckOnes_4, fX8_stuckOnes_4, q.2.1.2.2.2.2.2.1, q.2.2.2.1.2.2.2.2.2.1, if_pos ((n_le (by omega) (by omega)).mpr (by omega)), if_pos ((n_le (by omega) (by omega)).mpr (by omega))]
    exact ⟨_, rfl, rfl⟩
  | succ k ih =>
    intro i v F hi hF
    obtain ⟨F, rfl⟩ : ∃ G, F = G + 1 := ⟨F - 1, by omega⟩
    have hs := q.2.2.2.2.2.2.2.2.1 i (by omega)
    rw [fX7_stuckOnes_4, fX8_stuckOnes_4, q.2.1.2.2.2.2.2.1, q.2.2.2.1.2.2.2.2.2.1, if_neg (by rw [n_le (by omega) (by omega)]; omega), if_neg (by rw [n_le (by omega) (by omega)]; omega), xq_gone q (by omega), mq_gone q (by omega), bd_s, bd_s, nI_1]
    cases (B 1).testBit i
    · rw [if_neg (by decide), if_neg (by decide), xq_mind q (by omega), bd_s, xq_stuck q hs, mq_stuck q (by omega), bd_s, bd_s, n_shl i (by omega)]
      cases decide (A 0 0 < sZ A (B (2 + i)))
      · rw [if_neg (by decide), if_neg (by decide), bd_s, bd_s, lt_e, show (0 : Int32) = nI 0 from rfl, n_or, Nat.or_zero]
        exact ih (i + 1) v F (by omega) (by omega)
      · rw [if_pos rfl, if_pos rfl, lt_e, bd_s, bd_s, lt_e, n_or]
        exact ih (i + 1) (v ||| 2 ^ i) F (by omega) (by omega)
    · rw [if_pos rfl, if_pos rfl, bd_s, bd_s, lt_e, show (0 : Int32) = nI 0 from rfl, n_or, Nat.or_zero]
      exact ih (i + 1) v F (by omega) (by omega)
theorem eq_stuckOnes (q : QS h A B) : ∃ r, fX7_stuckOnes h = some r ∧ fX8_stuckOnes h = some r := by
  obtain ⟨r, h1, h2⟩ := st_loop q (A 0 5) 0 0 md_N (by omega) (by have := q.1.2.2.2.2.2.1; unfold md_N; omega)
  rw [fX7_stuckOnes, fX8_stuckOnes, show (0 : Int32) = nI 0 from rfl, h1, h2]
  exact ⟨_, rfl, rfl⟩
theorem sh_loop (q : QS h A B) (x : Int32) : ∀ k i (v : Nat) F, i + k = A 0 5 → k < F → ∃ r, fX7_share_32 F h x (nI v) (nI i) = some r ∧ fX8_share_26 F h x (nI v) (nI i) = some r := by
  have h5 := q.1.2.2.2.2.2.1
  intro k
  induction k with
  | zero =>
    intro i v F hi hF
    obtain ⟨F, rfl⟩ : ∃ G, F = G + 1 := ⟨F - 1, by omega⟩
    rw [fX7_share_32, fX8_share_26, q.2.1.2.2.2.2.2.1, q.2.2.2.1.2.2.2.2.2.1, if_pos ((n_le (by omega) (by omega)).mpr (by omega)), if_pos ((n_le (by omega) (by omega)).mpr (by omega))]
    exact ⟨_, rfl, rfl⟩
  | succ k ih =>
    intro i v F hi hF
    obtain ⟨F, rfl⟩ : ∃ G, F = G + 1 := ⟨F - 1, by omega⟩
    have hs := q.2.2.2.2.2.2.2.2.1 i (by omega)
    rw [fX7_share_32, fX8_share_26, q.2.1.2.2.2.2.2.1, q.2.2.2.1.2.2.2.2.2.1, if_neg (by rw [n_le (by omega) (by omega)]; omega), if_neg (by rw [n_le (by omega) (by omega)]; omega), xq_gone q (by omega), mq_gone q (by omega), bd_s, bd_s, nI_1]
    cases (B 1).testBit i
    · rw [if_neg (by decide), if_neg (by decide), xq_duty q (by omega), bd_s, in_2t (by omega), ck_t, cl_2t (by omega), m_now q (by omega), mq_owed q hs, bd_s, bd_s, bd_s, lt_e, lt_e, nI_add]
      exact ih (i + 1) _ F (by omega) (by omega)
    · rw [if_pos rfl, if_pos rfl, bd_s, bd_s, lt_e, lt_e, show (0 : Int32) = nI 0 from rfl, nI_add]
      exact ih (i + 1) _ F (by omega) (by omega)
theorem eq_share (q : QS h A B) (l : Int32) : ∃ r, fX7_share h l = some r ∧ fX8_share h l = some r := by
  have h5 := q.1.2.2.2.2.2.1
  rw [fX7_share, fX8_share, xz_isTr q.2.1, mz_isTr q.1 q.2.2.2.1, bd_s, bd_s]
  by_cases hl : 0 ≤ l ∧ l < nI (A 0 5)
  · obtain ⟨t, ht, rfl⟩ := ix_of (by omega) hl
    have hs := q.2.2.2.2.2.2.2.2.1 t (by omega)
    rw [decide_eq_true hl, if_pos rfl, if_pos rfl, xq_gone q (by omega), mq_gone q (by omega), bd_s, bd_s]
    cases (B 1).testBit t
    · rw [if_neg (by decide), if_neg (by decide)]
      obtain ⟨r, h1, h2⟩ := sh_loop q (nI t) (A 0 5) 0 0 md_N (by omega) (by unfold md_N; omega)
      rw [show (0 : Int32) = nI 0 from rfl, h1, h2]
      simp only [bd_s, xq_duty q (show t < 5 by omega), in_2t (t := t) (by omega), ck_t, cl_2t (t := t) (by omega), m_now q (show 2 + t < 9 by omega), mq_owed q hs]
      by_cases h3 : r = nI 0
      · rw [if_pos h3]; exact ⟨_, rfl, rfl⟩
      · rw [if_neg h3, decide_eq_true h3]; exact ⟨_, rfl, rfl⟩
    · exact ⟨_, rfl, rfl⟩
  · rw [decide_eq_false hl]
    exact ⟨_, rfl, rfl⟩
theorem nd_loop (q : QS h A B) : ∀ k i (v : Nat) F, i + k = A 0 2 → k < F → ∃ r, fX7_needless_9 F h (nI (clo A (B 0))) (nI v) (nI i) = some r ∧ fX8_needless_4 F h (nI v) (nI i) = some r := by
  have q' := q
  obtain ⟨w, x, tt, m, p, pm, wb⟩ := q
  have h8 := w.2.2.1
  have hB := p31 h8 wb.1
  intro k
  induction k with
  | zero =>
    intro i v F hi hF
    obtain ⟨F, rfl⟩ : ∃ G, F = G + 1 := ⟨F - 1, by omega⟩
    rw [fX7_needless_9, fX8_needless_4, x.2.2.1, m.2.2.1, if_pos ((n_le (by omega) (by omega)).mpr (by omega)), if_pos ((n_le (by omega) (by omega)).mpr (by omega))]
    exact ⟨_, rfl, rfl⟩
  | succ k ih =>
    intro i v F hi hF
    obtain ⟨F, rfl⟩ : ∃ G, F = G + 1 := ⟨F - 1, by omega⟩
    have hpi : 2 ^ i < 2 ^ 31 := Nat.pow_lt_pow_right (by decide) (by omega)
    have ha := an_lt (b := 2 ^ i) wb.1
    have hc : ¬ (nI (A 0 2) ≤ nI i) := by rw [n_le (by omega) (by omega)]; omega
    rw [fX7_needless_9, fX8_needless_4, x.2.2.1, m.2.2.1, if_neg hc, if_neg hc]
    simp only [in_0, ck_t, c_0, mq_cl0 q', m_now q' (show 0 < 9 by omega), p.1, has_iff hB (show i < 31 by omega), bd_s, nI_1, n_shl i (by omega), fa_bit (n := B 0) (j := i) (by omega), n_an hB hpi, xz_allFrom w x tt ha, mz_close w m ha]
    cases (B 0).testBit i
    · simp only [if_true, bd_s, Bool.false_eq_true, if_false, lt_e]
      rw [show (0 : Int32) = nI 0 from rfl, n_or, Nat.or_zero]
      exact ih (i + 1) v F (by omega) (by omega)
    · simp only [Bool.true_eq_false, if_false, if_true, bd_s]
      have e : fX8_close h (nI (B 0)) = some (nI (clo A (B 0))) := mz_close w m wb.1
      simp only [e, bd_s]
      by_cases hc : nI (clo A (an (B 0) (2 ^ i))) = nI (clo A (B 0))
      · simp only [if_pos hc, lt_e, bd_s, if_true, n_or]
        exact ih (i + 1) _ F (by omega) (by omega)
      · simp only [if_neg hc, bd_s, lt_e, Bool.false_eq_true, if_false]
        rw [show (0 : Int32) = nI 0 from rfl, n_or, Nat.or_zero]
        exact ih (i + 1) v F (by omega) (by omega)
theorem eq_needless (q : QS h A B) : ∃ r, fX7_needless h = some r ∧ fX8_needless h = some r := by
  obtain ⟨r, h1, h2⟩ := nd_loop q (A 0 2) 0 0 md_N (by omega) (by have := q.1.2.2.1; unfold md_N; omega)
  rw [fX7_needless, fX8_needless, xq_in q, bd_s, show (0 : Int32) = nI 0 from rfl, h1, h2]
  exact ⟨_, rfl, rfl⟩
end QR
