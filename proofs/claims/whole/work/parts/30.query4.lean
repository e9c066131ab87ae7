theorem clo_id {A : Ab} (w : WA A) {s : Nat} (hs : s < 2 ^ A 0 2) : clo A (clo A s) = clo A s := by
  have h1 := clo_join w hs (sb_r s) hs
  have e : s ||| clo A s = clo A s := sb_a (sb_orl (cl_sb A 8 s) (sb_r _)) sb_or2
  rwa [e] at h1
theorem bc_eq {a b n : Nat} (hn : n ≤ 8) (hb : b < 2 ^ n) (h : sb a b) (e : bc b 8 ≤ bc a 8) : b = a := by
  apply Classical.byContradiction
  intro hne
  obtain ⟨i, h1, h2⟩ := ne_bit h hne
  have h3 := bit_lt hb h2
  have := bc_lt h h1 h2 8 (by omega)
  omega
theorem is_if {α : Type} {c : Prop} [Decidable c] {a b : Option α} (ha : a.isSome = true) (hb : b.isSome = true) : (if c then a else b).isSome = true := by
  by_cases hc : c
  · rw [if_pos hc]; exact ha
  · rw [if_neg hc]; exact hb
section QU
variable {h : Mm} {A : Ab} {B : Nat → Nat}
theorem sm_loop (q : QS h A B) : ∀ k i (v u : Int32) F, i + k = 2 ^ A 0 2 → k < F → ((v = nI (clo A (B 0)) ∧ u = -1 ∧ i ≤ clo A (B 0)) ∨ (∃ b, b < 2 ^ A 0 2 ∧ v = nI b ∧ u = nI b)) → ∃ r, fX7_smallestRegister_20 F h (nI (clo A (B 0))) v (nI (2 ^ A 0 2)) (nI i) = some r ∧ fX8_smallestSet_15 F h (nI (clo A (B 0))) u (nI i) = some r := by
  have q' := q
  obtain ⟨w, xx, tt, m, p, pm, wb⟩ := q
  have h8 := w.2.2.1
  have hB := p31 h8 wb.1
  have hp := pw_le h8
  have hT := clo_lt w wb.1
  have hid := clo_id w wb.1
  generalize clo A (B 0) = T at hT hid
  intro k
  induction k with
  | zero =>
    intro i v u F hi hF hv
    obtain ⟨F, rfl⟩ : ∃ G, F = G + 1 := ⟨F - 1, by omega⟩
    have hc : nI (2 ^ A 0 2) ≤ nI i := (n_le (by omega) (by omega)).mpr (by omega)
    rw [fX7_smallestRegister_20, fX8_smallestSet_15, m.2.2.1, n_shl (A 0 2) (by omega), if_pos hc, if_pos hc]
    rcases hv with ⟨_, _, h3⟩ | ⟨b, hb, rfl, rfl⟩
    · omega
    · exact ⟨_, rfl, rfl⟩
  | succ k ih =>
    intro i v u F hi hF hv
    obtain ⟨F, rfl⟩ : ∃ G, F = G + 1 := ⟨F - 1, by omega⟩
    have hc : ¬ (nI (2 ^ A 0 2) ≤ nI i) := by rw [n_le (by omega) (by omega)]; omega
    have hi2 : i < 2 ^ A 0 2 := by omega
    have hi3 := p31 h8 hi2
    have hcl := clo_lt w hi2
    have hbi := bc_le i 8
    rw [fX7_smallestRegister_20, fX8_smallestSet_15, m.2.2.1, n_shl (A 0 2) (by omega), if_neg hc, if_neg hc]
    rcases hv with ⟨rfl, rfl, h3⟩ | ⟨b, hb, rfl, rfl⟩
    · have e : (-1 : Int32) < 0 := by decide
      have hbT := bc_le T 8
      simp only [if_pos e, bd_s, if_true, nI_1, jz_bits h (show i < 256 by omega), jz_bits h (show T < 256 by omega), xz_allFrom w xx tt hi2, mz_close w m hi2, n_eq (show clo A i < 1000000001 by omega) (show T < 1000000001 by omega), n_le (show bc T 8 < 1000000001 by omega) (show bc i 8 < 1000000001 by omega)]
      by_cases hz : clo A i = T
      · have hsb : sb i T := hz ▸ cl_sb A 8 i
        simp only [if_pos hz, bd_s]
        by_cases hy : bc T 8 ≤ bc i 8
        · have e := bc_eq h8 hT hsb hy
          simp only [if_pos hy, bd_s]
          exact ih (i + 1) _ _ F (by omega) (by omega) (.inr ⟨i, hi2, by rw [e], rfl⟩)
        · simp only [if_neg hy, bd_s]
          exact ih (i + 1) _ _ F (by omega) (by omega) (.inr ⟨i, hi2, rfl, rfl⟩)
      · have hne : i ≠ T := fun e => hz (by rw [e]; exact hid)
        simp only [if_neg hz, bd_s, ite_self]
        exact ih (i + 1) _ _ F (by omega) (by omega) (.inl ⟨rfl, rfl, by omega⟩)
    · have e := nI_m1 b (by omega)
      have hbv := fun (s : Nat) (hs : s < 2 ^ A 0 2) => (⟨s, hs, rfl, rfl⟩ : ∃ b, b < 2 ^ A 0 2 ∧ nI s = nI b ∧ nI s = nI b)
      simp only [if_neg e, bd_s, nI_1, jz_bits h (show i < 256 by omega), jz_bits h (show b < 256 by omega), mz_bits h hi3, mz_bits h (p31 h8 hb), xz_allFrom w xx tt hi2, mz_close w m hi2]
      by_cases hy : nI (bc b 8) ≤ nI (bc i 8)
      · simp only [if_pos hy, bd_s, Bool.false_eq_true, if_false]
        exact ih (i + 1) _ _ F (by omega) (by omega) (.inr (hbv b hb))
      · simp only [if_neg hy, bd_s, if_true]
        by_cases hz : nI (clo A i) = nI T
        · simp only [if_pos hz, bd_s]
          exact ih (i + 1) _ _ F (by omega) (by omega) (.inr (hbv i hi2))
        · simp only [if_neg hz, bd_s]
          exact ih (i + 1) _ _ F (by omega) (by omega) (.inr (hbv b hb))
theorem eq_smallest (q : QS h A B) (l : Int32) : ∃ r, fX7_smallest h l = some r ∧ fX8_smallest h l = some r := by
  have h8 := q.1.2.2.1
  have hp := pw_le h8
  rw [fX7_smallest, fX8_smallest, x_in2]
  by_cases h0 : l = 0
  · subst h0
    have e : (0 : Int32) ≤ 0 ∧ (0 : Int32) ≤ 1 := by decide
    obtain ⟨r, h1, h2⟩ := sm_loop q (2 ^ A 0 2) 0 (nI (clo A (B 0))) (-1) md_N (by omega) (by unfold md_N; omega) (.inl ⟨rfl, rfl, Nat.zero_le _⟩)
    simp only [if_pos e, if_true, fX7_smallestRegister, fX8_smallestSet, xq_in q, bd_s, in_0, ck_t, c_0, mq_cl0 q, q.2.1.2.2.1, n_shl (A 0 2) (show A 0 2 < 31 by omega), lt_e]
    rw [show (0 : Int32) = nI 0 from rfl, h1, h2]
    exact ⟨_, rfl, rfl⟩
  · by_cases h1 : l = 1
    · subst h1
      obtain ⟨r, h1, h2⟩ := eq_needless q
      have e : (0 : Int32) ≤ 1 ∧ (1 : Int32) ≤ 1 := by decide
      rw [if_pos e, if_neg h0, if_neg h0, if_pos rfl, h1, h2]
      exact ⟨_, rfl, rfl⟩
    · have e : ¬ (0 ≤ l ∧ l ≤ 1) := by
        intro e
        obtain ⟨n, hn, rfl⟩ := nI_of2 (M := 1) (n := 1) (by decide) (i_nlt.mpr e.1) e.2
        rcases (show n = 0 ∨ n = 1 by omega) with rfl | rfl
        · exact h0 rfl
        · exact h1 rfl
      rw [if_neg e, if_neg h0, if_neg h1]
      exact ⟨_, rfl, rfl⟩
def oQ (v u : Int32) : Prop := (v = -1 ∧ u = 1000000) ∨ ∃ d, 1 ≤ d ∧ d ≤ 99 ∧ v = nI d ∧ u = nI d
theorem qk_loop {c : Nat} (w : WA A) (x : CX h c A) (m : CM h A) (l1 l2 : Int32) : ∀ k i (v u : Int32) F, i + k = A 0 4 → k < F → oQ v u → ∃ v' u', fX1_quickest_5 F h c l1 l2 v (nI i) = some v' ∧ fX8_quickest_7 F h l1 l2 u (nI i) = some u' ∧ oQ v' u' := by
  have h4 := w.2.2.2.2.1
  intro k
  induction k with
  | zero =>
    intro i v u F hi hF hv
    obtain ⟨F, rfl⟩ : ∃ G, F = G + 1 := ⟨F - 1, by omega⟩
    have hc : nI (A 0 4) ≤ nI i := (n_le (by omega) (by omega)).mpr (by omega)
    rw [fX1_quickest_5, fX8_quickest_7, x.2.2.2.2.1, m.2.2.2.2.1, if_pos hc, if_pos hc]
    exact ⟨_, _, rfl, rfl, hv⟩
  | succ k ih =>
    intro i v u F hi hF hv
    obtain ⟨F, rfl⟩ : ∃ G, F = G + 1 := ⟨F - 1, by omega⟩
    have hc : ¬ nI (A 0 4) ≤ nI i := by rw [n_le (by omega) (by omega)]; omega
    have hx := x.2.2.2.2.2.2.2.2 i (by omega)
    have hm := m.2.2.2.2.2.2.2.2 i (by omega)
    have hw := w.2.2.2.2.2.2.2.2 i (by omega)
    rw [fX1_quickest_5, fX8_quickest_7, x.2.2.2.2.1, m.2.2.2.2.1, if_neg hc, if_neg hc]
    simp only [in_t (i := i) (n := 10) (by omega) (by omega), ck_t, nI_c (n := i) (by omega), hx.1, hx.2.1, hx.2.2, hm.1, hm.2.1, hm.2.2, nI_1, lt_e]
    have go := fun v u (hv : oQ v u) => ih (i + 1) v u F (by omega) (by omega) hv
    by_cases c1 : nI (A 5 i) = l1
    · simp only [if_pos c1]
      by_cases c2 : nI (A 6 i) = l2
      · simp only [if_pos c2, bd_s, if_true]
        rcases hv with ⟨rfl, rfl⟩ | ⟨d, d1, d2, rfl, rfl⟩
        · have e : ¬ (1000000 : Int32) ≤ nI (A 7 i) := by rw [show (1000000 : Int32) = nI 1000000 from rfl, n_le (by omega) (by omega)]; omega
          simp only [if_true, if_neg e, bd_s]
          exact go _ _ (.inr ⟨A 7 i, hw.2.2.1, hw.2.2.2, rfl, rfl⟩)
        · have e := nI_n1 d (by omega)
          by_cases c3 : nI d ≤ nI (A 7 i)
          · simp only [if_neg e, if_pos c3, bd_s]
            exact go _ _ (.inr ⟨d, d1, d2, rfl, rfl⟩)
          · simp only [if_neg e, if_neg c3, bd_s]
            exact go _ _ (.inr ⟨A 7 i, hw.2.2.1, hw.2.2.2, rfl, rfl⟩)
      · simp only [if_neg c2, bd_s, Bool.false_eq_true, if_false]
        exact go _ _ hv
    · simp only [if_neg c1, bd_s, Bool.false_eq_true, if_false]
      exact go _ _ hv
theorem eq_quickest {c : Nat} (w : WA A) (x : CX h c A) (m : CM h A) (l1 l2 : Int32) : ∃ v u, fX1_quickest h c l1 l2 = some v ∧ fX8_quickest h l1 l2 = some u ∧ oQ v u := by
  have h4 := w.2.2.2.2.1
  obtain ⟨v, u, e1, e2, e3⟩ := qk_loop w x m l1 l2 (A 0 4) 0 (-1) 1000000 md_N (by omega) (by unfold md_N; omega) (.inl ⟨rfl, rfl⟩)
  rw [fX1_quickest, fX8_quickest, show (0 : Int32) = nI 0 from rfl, e1, e2]
  exact ⟨v, u, rfl, rfl, e3⟩
def BK (h : Mm) : Prop := ∃ n, n ≤ 15 ∧ h 70 2 = nI n ∧ h 84 43 = nI n ∧ ∀ i, i < n → h 71 i = h 109 i ∧ h 72 i = h 110 i
theorem jd_loop {n : Nat} (hn : n ≤ 15) (e1 : h 70 2 = nI n) (e2 : h 84 43 = nI n) (e3 : ∀ i, i < n → h 71 i = h 109 i ∧ h 72 i = h 110 i) (s : Int32) : ∀ k i F, i + k = n → k < F → ∃ r, fX0_firstWrong_2 F h s (nI i) = some r ∧ fX8_judge_13 F h s (nI i) = some r := by
  intro k
  induction k with
  | zero =>
    intro i F hi hF
    obtain ⟨F, rfl⟩ : ∃ G, F = G + 1 := ⟨F - 1, by omega⟩
    have hc : nI n ≤ nI i := (n_le (by omega) (by omega)).mpr (by omega)
    rw [fX0_firstWrong_2, fX8_judge_13, e1, e2, if_pos hc, if_pos hc]
    exact ⟨_, rfl, rfl⟩
  | succ k ih =>
    intro i F hi hF
    obtain ⟨F, rfl⟩ : ∃ G, F = G + 1 := ⟨F - 1, by omega⟩
    have hc : ¬ nI n ≤ nI i := by rw [n_le (by omega) (by omega)]; omega
    have h3 := e3 i (by omega)
    rw [fX0_firstWrong_2, fX8_judge_13, e1, e2, if_neg hc, if_neg hc, in_t (by omega) (by omega), ck_t, ck_t, ck_t, ck_t, nI_c (by omega), h3.1, h3.2, nI_1]
    by_cases c1 : (s >>> (h 109 i &&& 31)) &&& (1 : Int32) = h 110 i
    · rw [if_pos c1, if_pos c1]; exact ih (i + 1) F (by omega) (by omega)
    · rw [if_neg c1, if_neg c1]; exact ⟨_, rfl, rfl⟩
theorem eq_judge (q : QS h A B) (b : BK h) : ∃ r, fX7_judge h = some r ∧ fX8_judge h = some r := by
  obtain ⟨n, hn, e1, e2, e3⟩ := b
  obtain ⟨r, h1, h2⟩ := jd_loop hn e1 e2 e3 (nI (clo A (B 0))) n 0 md_N (by omega) (by unfold md_N; omega)
  rw [fX7_judge, fX8_judge, xq_in q, bd_s, fX0_firstWrong, in_0, ck_t, c_0, mq_cl0 q, bd_s, show (0 : Int32) = nI 0 from rfl, h1, h2]
  cases r <;> exact ⟨_, rfl, rfl⟩
theorem eq_told (q : QS h A B) (e1 : h 1 1 = h 84 16) (e2 : h 65 4 = h 84 38) (e3 : h 70 2 = h 84 43) (e4 : h 15 2 = h 84 35) (l : Int32) : ∃ r, fX7_told h l = some r ∧ fX8_told h l = some r := by
  obtain ⟨s, s1, s2⟩ := eq_stuckOnes q
  have q' := q
  obtain ⟨w, x, tt, m, p, pm, wb⟩ := q
  have hx : fX7_told h l = fX8_told h l := by
    simp only [fX7_told, fX8_told, s1, s2, mz_close w m wb.1, in_0, in_1, in_7, in_8, ck_t, c_0, c_1, c_7, c_8, mq_cl0 q', xq_in q', bd_s, e1, e2, e3, e4, x.1, x.2.1, x.2.2.1, x.2.2.2.1, x.2.2.2.2.1, x.2.2.2.2.2.1, m.1, m.2.1, m.2.2.1, m.2.2.2.1, m.2.2.2.2.1, m.2.2.2.2.2.1, p.1, p.2.1, p.2.2.2.1, p.2.2.2.2, m_now q' (show 0 < 9 by omega), m_now q' (show 1 < 9 by omega), m_now q' (show 7 < 9 by omega), m_now q' (show 8 < 9 by omega)]
  have hy : (fX8_told h l).isSome = true := by
    simp only [fX8_told, s2, in_0, in_1, in_7, in_8, ck_t, c_0, mq_cl0 q', bd_s]
    repeat (refine is_if rfl ?_)
    rfl
  obtain ⟨r, hr⟩ := Option.isSome_iff_exists.mp hy
  exact ⟨r, hx.trans hr, hr⟩
end QU
