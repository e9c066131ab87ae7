/-! the post's numbers: B 0 registered, B 1 gone, B (2 + t) the mind of t, B 7 paid, B 8 minutes -/
def PX (h : Mm) (p : Nat) (B : Nat → Nat) : Prop := h p 1 = nI (B 0) ∧ h p 2 = nI (B 1) ∧ (∀ t, t < 5 → h (p + 1) t = nI (B (2 + t))) ∧ h p 3 = nI (B 7) ∧ h p 4 = nI (B 8)
def PM (row : Nat → Int32) (o : Nat) (B : Nat → Nat) : Prop := ∀ k, k < 9 → row (o + k) = nI (B k)
def WB (A : Ab) (B : Nat → Nat) : Prop := B 0 < 2 ^ A 0 2 ∧ B 1 < 2 ^ A 0 5 ∧ (∀ t, t < 5 → B (2 + t) < 2 ^ A 0 2) ∧ B 7 ≤ 999999 ∧ B 8 ≤ 999999
def QS (h : Mm) (A : Ab) (B : Nat → Nat) : Prop := WA A ∧ CX h (md_dx (h 0 7)) A ∧ TX h (md_dx (h 0 7)) A ∧ CM h A ∧ PX h 13 B ∧ PM (h 92) 0 B ∧ WB A B
theorem in_0 : md_in (0 : Int32) 9 = true := by decide
theorem in_1 : md_in (1 : Int32) 9 = true := by decide
theorem in_7 : md_in (7 : Int32) 9 = true := by decide
theorem in_8 : md_in (8 : Int32) 9 = true := by decide
theorem in_2t {t : Nat} (ht : t < 7) : md_in ((2 : Int32) + nI t) 9 = true := by
  rw [show (2 : Int32) = nI 2 from rfl, nI_add]; exact in_t (by omega) (by omega)
theorem cl_2t {t : Nat} (ht : t < 7) : ((2 : Int32) + nI t).toNatClampNeg = 2 + t := by
  rw [show (2 : Int32) = nI 2 from rfl, nI_add]; exact nI_c (by omega)
theorem c_0 : (0 : Int32).toNatClampNeg = 0 := by decide
theorem c_1 : (1 : Int32).toNatClampNeg = 1 := by decide
theorem c_7 : (7 : Int32).toNatClampNeg = 7 := by decide
theorem c_8 : (8 : Int32).toNatClampNeg = 8 := by decide
theorem g31 {A : Ab} (w : WA A) {x : Nat} (h : x < 2 ^ A 0 5) : x < 32 := Nat.lt_of_lt_of_le h (Nat.pow_le_pow_right (by decide) w.2.2.2.2.2.1 : 2 ^ A 0 5 ≤ 2 ^ 5)
section QQ
variable {h : Mm} {A : Ab} {B : Nat → Nat}
theorem xq_in (q : QS h A B) : fX7_inTheCountry h = some (nI (clo A (B 0))) := by
  obtain ⟨w, x, t, m, p, pm, wb⟩ := q
  rw [fX7_inTheCountry, p.1, xz_allFrom w x t wb.1, bd_s]
theorem m_now (q : QS h A B) {k : Nat} (hk : k < 9) : h 92 k = nI (B k) := by
  have := q.2.2.2.2.2.1 k hk
  rwa [Nat.zero_add] at this
theorem mq_cl0 (q : QS h A B) : fX8_close h (h 92 0) = some (nI (clo A (B 0))) := by
  have h0 := m_now q (k := 0) (by omega)
  obtain ⟨w, x, t, m, p, pm, wb⟩ := q
  rw [h0, mz_close w m wb.1]
theorem xq_mind (q : QS h A B) {t : Nat} (ht : t < 5) : fX4_mindOf h 13 (nI t) = some (nI (B (2 + t))) := by
  obtain ⟨w, x, tt, m, p, pm, wb⟩ := q
  rw [fX4_mindOf, if_neg (nI_pos (by omega)), show (5 : Int32) = nI 5 from rfl, if_neg (by rw [n_le (by omega) (by omega)]; omega), in_t (by omega) (by omega), ck_t, bd_s, nI_c (by omega), p.2.2.1 t ht]
theorem xq_gone (q : QS h A B) {t : Nat} (ht : t < 31) : fX4_isGone h 13 (nI t) = some ((B 1).testBit t) := by
  obtain ⟨w, x, tt, m, p, pm, wb⟩ := q
  rw [fX4_isGone, p.2.1]
  simp only [n_bit (s := B 1) (i := t) ht]
  cases (B 1).testBit t <;> rfl
theorem mq_gone (q : QS h A B) {t : Nat} (ht : t < 31) : fX8_isGone h (nI t) = some ((B 1).testBit t) := by
  have h0 := m_now q (k := 1) (by omega)
  obtain ⟨w, x, tt, m, p, pm, wb⟩ := q
  have := g31 w wb.2.1
  rw [fX8_isGone, in_1, ck_t, c_1, h0, has_iff (by omega) ht, bd_s]
theorem xq_duty (q : QS h A B) {t : Nat} (ht : t < 5) : fX7_dutyOf h (nI t) = some (nI (dZ A (B (2 + t)) (clo A (B 0)))) := by
  rw [fX7_dutyOf, xq_mind q ht, bd_s, xq_in q, bd_s]
  obtain ⟨w, x, tt, m, p, pm, wb⟩ := q
  rw [xz_duty w x tt (wb.2.2.1 t ht) (clo_lt w wb.1), bd_s]
theorem mq_owed (q : QS h A B) {s : Nat} (hs : s < 2 ^ A 0 2) : fX8_owedFor h (nI s) = some (nI (dZ A s (clo A (B 0)))) := by
  rw [fX8_owedFor, in_0, ck_t, c_0, mq_cl0 q, bd_s]
  obtain ⟨w, x, tt, m, p, pm, wb⟩ := q
  rw [mz_owedWhere w m hs (clo_lt w wb.1), bd_s]
theorem xq_stuck (q : QS h A B) {s : Nat} (hs : s < 2 ^ A 0 2) : fX1_isStuck h (md_dx (h 0 7)) (nI s) = some (decide (A 0 0 < sZ A s)) := by
  obtain ⟨w, x, tt, m, p, pm, wb⟩ := q
  have h1 := sZ_le w s
  have h2 := w.1
  rw [fX1_isStuck, xz_sizeOf w x (p31 w.2.2.1 hs), bd_s, x.1]
  simp only [n_le (show sZ A s < 1000000001 by omega) (show A 0 0 < 1000000001 by omega)]
  by_cases hc : sZ A s ≤ A 0 0
  · rw [if_pos hc, bd_s, decide_eq_false (by omega)]
  · rw [if_neg hc, bd_s, decide_eq_true (by omega)]
theorem mq_stuck (q : QS h A B) {t : Nat} (ht : t < 5) : fX8_isStuck h (nI t) = some (decide (A 0 0 < sZ A (B (2 + t)))) := by
  have h0 := m_now q (k := 2 + t) (by omega)
  obtain ⟨w, x, tt, m, p, pm, wb⟩ := q
  have hs := wb.2.2.1 t ht
  have h1 := sZ_le w (B (2 + t))
  have h2 := w.1
  rw [fX8_isStuck, in_2t (by omega), ck_t, cl_2t (by omega), h0, mz_sizeOf w m (p31 w.2.2.1 hs), bd_s, m.1]
  simp only [n_le (show sZ A (B (2 + t)) < 1000000001 by omega) (show A 0 0 < 1000000001 by omega)]
  by_cases hc : sZ A (B (2 + t)) ≤ A 0 0
  · rw [if_pos hc, bd_s, decide_eq_false (by omega)]
  · rw [if_neg hc, bd_s, decide_eq_true (by omega)]
theorem eq_follows (q : QS h A B) (l : Int32) : ∃ r, fX7_follows h l = some r ∧ fX8_follows h l = some r := by
  obtain ⟨w, x, tt, m, p, pm, wb⟩ := q
  rw [fX7_follows, fX8_follows, xz_isSet w x, mz_isSet w m, bd_s, bd_s]
  by_cases hl : 0 ≤ l ∧ l < nI (2 ^ A 0 2)
  · obtain ⟨s, hs, rfl⟩ := set_of w hl
    rw [decide_eq_true hl, if_pos rfl, if_pos rfl, xz_allFrom w x tt hs, mz_close w m hs]
    exact ⟨_, rfl, rfl⟩
  · rw [decide_eq_false hl]
    exact ⟨_, rfl, rfl⟩
theorem eq_owed (q : QS h A B) (l : Int32) : ∃ r, fX7_owed h l = some r ∧ fX8_owed h l = some r := by
  rw [fX7_owed, fX8_owed, xz_isSet q.1 q.2.1, mz_isSet q.1 q.2.2.2.1, bd_s, bd_s]
  by_cases hl : 0 ≤ l ∧ l < nI (2 ^ A 0 2)
  · obtain ⟨s, hs, rfl⟩ := set_of q.1 hl
    rw [decide_eq_true hl, if_pos rfl, if_pos rfl, xq_in q, mq_owed q hs, bd_s]
    obtain ⟨w, x, tt, m, p, pm, wb⟩ := q
    rw [xz_duty w x tt hs (clo_lt w wb.1)]
    exact ⟨_, rfl, rfl⟩
  · rw [decide_eq_false hl]
    exact ⟨_, rfl, rfl⟩
theorem eq_size (q : QS h A B) (l : Int32) : ∃ r, fX7_size h l = some r ∧ fX8_size h l = some r := by
  obtain ⟨w, x, tt, m, p, pm, wb⟩ := q
  have h8 := w.2.2.1
  rw [fX7_size, fX8_size, xz_isIdea x, mz_isIdea w m, bd_s, bd_s]
  by_cases hl : 0 ≤ l ∧ l < nI (A 0 2)
  · obtain ⟨s, hs, rfl⟩ := ix_of (by omega) hl
    rw [decide_eq_true hl, if_pos rfl, if_pos rfl, in_t (by omega) (by omega), ck_t, ck_t, nI_c (by omega), x.2.2.2.2.2.2.1 s hs, m.2.2.2.2.2.2.1 s hs]
    exact ⟨_, rfl, rfl⟩
  · rw [decide_eq_false hl]
    exact ⟨_, rfl, rfl⟩
theorem eq_free (q : QS h A B) : ∃ r, fX7_free h = some r ∧ fX8_free h = some r := by
  rw [fX7_free, fX8_free, xq_in q, in_0, ck_t, c_0, mq_cl0 q, bd_s, bd_s, ck_t, m_now q (by omega), q.2.2.2.2.1.1]
  exact ⟨_, rfl, rfl⟩
theorem eq_traveller (q : QS h A B) (l l2 : Int32) : ∃ r, fX7_traveller h l l2 = some r ∧ fX8_traveller h l l2 = some r := by
  have h5 := q.1.2.2.2.2.2.1
  rw [fX7_traveller, fX8_traveller, xz_isTr q.2.1, mz_isTr q.1 q.2.2.2.1, bd_s, bd_s]
  by_cases hl : 0 ≤ l ∧ l < nI (A 0 5)
  · obtain ⟨t, ht, rfl⟩ := ix_of (by omega) hl
    have hs := q.2.2.2.2.2.2.2.2.1 t (by omega)
    rw [decide_eq_true hl, if_pos rfl, if_pos rfl, xq_mind q (by omega), in_2t (by omega), ck_t, ck_t, ck_t, cl_2t (by omega), m_now q (by omega), xq_duty q (by omega), xq_gone q (by omega), mq_gone q (by omega), mq_owed q hs]
    simp only [bd_s]
    rw [xz_sizeOf q.1 q.2.1 (p31 q.1.2.2.1 hs), mz_sizeOf q.1 q.2.2.2.1 (p31 q.1.2.2.1 hs)]
    simp only [bd_s]
    by_cases e0 : l2 = 0
    · rw [if_pos e0]; exact ⟨_, rfl, rfl⟩
    · rw [if_neg e0]
      by_cases e1 : l2 = 1
      · rw [if_pos e1]; exact ⟨_, rfl, rfl⟩
      · rw [if_neg e1]
        by_cases e2 : l2 = 2
        · rw [if_pos e2]; exact ⟨_, rfl, rfl⟩
        · rw [if_neg e2]
          by_cases e3 : l2 = 3
          · rw [if_pos e3]
            cases (B 1).testBit t <;> exact ⟨_, rfl, rfl⟩
          · rw [if_neg e3]; exact ⟨_, rfl, rfl⟩
  · rw [decide_eq_false hl]
    exact ⟨_, rfl, rfl⟩
theorem eq_gains (q : QS h A B) (l l2 : Int32) : ∃ r, fX7_gains h l l2 = some r ∧ fX8_gains h l l2 = some r := by
  have h5 := q.1.2.2.2.2.2.1
  rw [fX7_gains, fX8_gains, xz_isTr q.2.1, mz_isTr q.1 q.2.2.2.1, bd_s, bd_s]
  by_cases hl : 0 ≤ l ∧ l < nI (A 0 5)
  · obtain ⟨t, ht, rfl⟩ := ix_of (by omega) hl
    have hs := q.2.2.2.2.2.2.2.2.1 t (by omega)
    rw [decide_eq_true hl, if_pos rfl, if_pos rfl, xz_isSet q.1 q.2.1, mz_isSet q.1 q.2.2.2.1, bd_s, bd_s]
    by_cases hl2 : 0 ≤ l2 ∧ l2 < nI (2 ^ A 0 2)
    · obtain ⟨s, hs2, rfl⟩ := set_of q.1 hl2
      rw [decide_eq_true hl2, if_pos rfl, if_pos rfl, xq_gone q (by omega), mq_gone q (by omega), bd_s, bd_s]
      cases (B 1).testBit t
      · rw [if_neg (by decide), if_neg (by decide), xq_mind q (by omega), bd_s]
        simp only [in_2t (t := t) (by omega), ck_t, cl_2t (t := t) (by omega), m_now q (show 2 + t < 9 by omega), mq_owed q hs, xq_duty q (show t < 5 by omega), bd_s]
        obtain ⟨w, x, tt, m, p, pm, wb⟩ := q
        rw [xz_allFrom w x tt hs2, mz_close w m hs2]
        simp only [bd_s]
        rw [xz_duty w x tt hs (clo_lt w hs2), mz_owedWhere w m hs (clo_lt w hs2)]
        exact ⟨_, rfl, rfl⟩
      · exact ⟨_, rfl, rfl⟩
    · rw [decide_eq_false hl2]
      exact ⟨_, rfl, rfl⟩
  · rw [decide_eq_false hl]
    exact ⟨_, rfl, rfl⟩
end QQ
