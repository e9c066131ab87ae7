/-! what is owed -/
theorem mz_isSet {h : Mm} {A : Ab} (w : WA A) (m : CM h A) (l : Int32) : fX8_isSet h l = some (decide (0 ≤ l ∧ l < nI (2 ^ A 0 2))) := by
  obtain ⟨m0, m1, m2, m3, m4, m5, m6, m7, m8⟩ := m
  have hp := pw_le w.2.2.1
  have h1 : 1 ≤ 2 ^ A 0 2 := Nat.one_le_two_pow
  rw [fX8_isSet, m2, n_shl _ (by have := w.2.2.1; omega), in_iff, bd_s, show (1 : Int32) = nI 1 from rfl, n_sub h1]
  congr 1
  apply decide_eq_decide.mpr
  rw [show (0 : Int64) = (0 : Int32).toInt64 from rfl, fa_wide_le, fa_wide_le]
  refine and_congr Iff.rfl ?_
  rw [fa_le l, fa_lt l, nI_toInt (by omega), nI_toInt (by omega)]
  omega
theorem mz_isIdea {h : Mm} {A : Ab} (w : WA A) (m : CM h A) (l : Int32) : fX8_isIdea h l = some (decide (0 ≤ l ∧ l < nI (A 0 2))) := by
  obtain ⟨m0, m1, m2, m3, m4, m5, m6, m7, m8⟩ := m
  have h8 := w.2.2.1
  rw [fX8_isIdea, m2, in_iff, bd_s]
  congr 1
  apply decide_eq_decide.mpr
  rw [show (0 : Int64) = (0 : Int32).toInt64 from rfl, fa_wide_le, fa_wide_le]
  refine and_congr Iff.rfl ?_
  rw [fa_le l, fa_lt l, nI_toInt (by omega), show (1 : Int32) = nI 1 from rfl, pk_sub_toInt (by omega) (by omega)]
  omega
theorem mz_isTr {h : Mm} {A : Ab} (w : WA A) (m : CM h A) (l : Int32) : fX8_isTraveller h l = some (decide (0 ≤ l ∧ l < nI (A 0 5))) := by
  obtain ⟨m0, m1, m2, m3, m4, m5, m6, m7, m8⟩ := m
  have h8 := w.2.2.2.2.2.1
  rw [fX8_isTraveller, m5, in_iff, bd_s]
  congr 1
  apply decide_eq_decide.mpr
  rw [show (0 : Int64) = (0 : Int32).toInt64 from rfl, fa_wide_le, fa_wide_le]
  refine and_congr Iff.rfl ?_
  rw [fa_le l, fa_lt l, nI_toInt (by omega), show (1 : Int32) = nI 1 from rfl, pk_sub_toInt (by omega) (by omega)]
  omega
theorem x_in3 (l u : Int32) : (md_bd (if l < 0 then some false else (if u ≤ l then some false else some true)) (fun v : Bool => some v)) = some (decide (0 ≤ l ∧ l < u)) := by
  by_cases h1 : l < 0
  · have : ¬ 0 ≤ l := by rw [fa_le]; rw [fa_lt] at h1; omega
    simp [md_bd, h1, this]
  · have h0 : 0 ≤ l := by rw [fa_le]; rw [fa_lt] at h1; omega
    by_cases h2 : u ≤ l
    · have : ¬ l < u := by rw [fa_lt]; rw [fa_le] at h2; omega
      simp [md_bd, h1, h2, this]
    · have : l < u := by rw [fa_lt]; rw [fa_le] at h2; omega
      simp [md_bd, h1, h2, h0, this]
theorem xz_isIdea {h : Mm} {c : Nat} {A : Ab} (m : CX h c A) (l : Int32) : fX1_isIdea h c l = some (decide (0 ≤ l ∧ l < nI (A 0 2))) := by
  rw [fX1_isIdea, m.2.2.1]; exact x_in3 l _
theorem xz_isTr {h : Mm} {c : Nat} {A : Ab} (m : CX h c A) (l : Int32) : fX1_isTraveller h c l = some (decide (0 ≤ l ∧ l < nI (A 0 5))) := by
  rw [fX1_isTraveller, m.2.2.2.2.2.1]; exact x_in3 l _
theorem ix_of {n : Nat} (hn : n < 1000) {l : Int32} (h : 0 ≤ l ∧ l < nI n) : ∃ s, s < n ∧ l = nI s := by
  obtain ⟨s, h1, rfl⟩ := nI_of (x := l) (by have := h.1; rw [fa_le] at this; rw [fa_lt]; omega)
  exact ⟨s, (nI_ltI h1 (by omega)).mp h.2, rfl⟩
/-- owed for the ideas i .. i + m - 1 of a set, where the set u is in the country -/
def dF (A : Ab) (s u : Nat) : Nat → Nat → Nat
  | _, 0 => 0
  | i, m + 1 => (if s.testBit i && !u.testBit i then (if (clo A (an s (2 ^ i))).testBit i then A 1 i / 2 else A 1 i) else 0) + dF A s u (i + 1) m
theorem dF_le {A : Ab} (w : WA A) (s u : Nat) : ∀ m i, i + m ≤ A 0 2 → dF A s u i m ≤ 99 * m := by
  intro m
  induction m with
  | zero => intro i _; simp [dF]
  | succ m ih =>
    intro i hi
    have h1 := ih (i + 1) (by omega)
    have h2 := (w.2.2.2.2.2.2.1 i (by omega)).2
    have h3 : A 1 i / 2 ≤ A 1 i := Nat.div_le_self _ _
    rw [dF]
    split
    · split <;> omega
    · omega
theorem an_lt {a b n : Nat} (ha : a < 2 ^ n) : an a b < 2 ^ n := Nat.xor_lt_two_pow ha (Nat.lt_of_le_of_lt Nat.and_le_left ha)
theorem mz_owed5 {h : Mm} {A : Ab} (w : WA A) (m : CM h A) {s u : Nat} (hs : s < 2 ^ A 0 2) (hu : u < 2 ^ A 0 2) : ∀ k i a F, i + k = A 0 2 → k < F → a ≤ 99 * i → fX8_owedWhere_5 F h (nI s) (nI u) (nI a) (nI i) = some (nI (a + dF A s u i k)) := by
  have w' := w
  have m' := m
  obtain ⟨w0, w1, w2, w3, w4, w5, w6, w7, w8⟩ := w
  obtain ⟨m0, m1, m2, m3, m4, m5, m6, m7, m8⟩ := m
  have hs31 := p31 w2 hs
  have hu31 := p31 w2 hu
  intro k
  induction k with
  | zero =>
    intro i a F hi hF ha
    obtain ⟨F, rfl⟩ : ∃ G, F = G + 1 := ⟨F - 1, by omega⟩
    rw [fX8_owedWhere_5, m2, if_pos ((n_le (by omega) (by omega)).mpr (by omega)), dF]
    rfl
  | succ k ih =>
    intro i a F hi hF ha
    obtain ⟨F, rfl⟩ : ∃ G, F = G + 1 := ⟨F - 1, by omega⟩
    have h1 := w6 i (by omega)
    have hd : A 1 i / 2 ≤ A 1 i := Nat.div_le_self _ _
    have hpi : 2 ^ i < 2 ^ 31 := Nat.pow_lt_pow_right (by decide) (by omega)
    have hcl := clo_lt w' (an_lt (b := 2 ^ i) hs)
    rw [fX8_owedWhere_5, m2, if_neg (by rw [n_le (by omega) (by omega)]; omega), has_iff hs31 (by omega), bd_s, dF]
    cases hb : s.testBit i
    · rw [if_neg (by decide), bd_s, nI_1, ih (i + 1) a F (by omega) (by omega) (by omega)]
      simp
    · rw [if_pos rfl, has_iff hu31 (by omega), bd_s]
      cases hc : u.testBit i
      · rw [if_neg (by decide), n_shl i (by omega), n_an hs31 hpi, mz_close w' m' (an_lt hs), bd_s, has_iff (p31 w2 hcl) (by omega), bd_s, in_t (by omega) (by omega), ck_t, ck_t, nI_c (by omega), m6 i (by omega), show (2 : Int32) = nI 2 from rfl, pk_div (by omega) (by omega) (by omega)]
        simp only [Bool.not_false, Bool.and_self, if_true]
        cases he : (clo A (an s (2 ^ i))).testBit i
        · rw [if_neg (by decide), if_neg (by decide), bd_s, lt_e, bd_s, nI_add, nI_1, ih (i + 1) (a + A 1 i) F (by omega) (by omega) (by omega), Nat.add_assoc]
        · rw [if_pos rfl, if_pos rfl, bd_s, lt_e, bd_s, nI_add, nI_1, ih (i + 1) (a + A 1 i / 2) F (by omega) (by omega) (by omega), Nat.add_assoc]
      · rw [if_pos rfl, bd_s, nI_1, ih (i + 1) a F (by omega) (by omega) (by omega)]
        simp
def dZ (A : Ab) (s u : Nat) : Nat := dF A s u 0 (A 0 2)
theorem dZ_le {A : Ab} (w : WA A) (s u : Nat) : dZ A s u ≤ 792 := by
  have := dF_le w s u (A 0 2) 0 (by omega)
  have := w.2.2.1
  unfold dZ
  omega
theorem mz_owedWhere {h : Mm} {A : Ab} (w : WA A) (m : CM h A) {s u : Nat} (hs : s < 2 ^ A 0 2) (hu : u < 2 ^ A 0 2) : fX8_owedWhere h (nI s) (nI u) = some (nI (dZ A s u)) := by
  have := mz_owed5 w m hs hu (A 0 2) 0 0 md_N (by omega) (by have := w.2.2.1; unfold md_N; omega) (by omega)
  rw [fX8_owedWhere, show (0 : Int32) = nI 0 from rfl, this, bd_s, Nat.zero_add]
  rfl
theorem xz_duty5 {h : Mm} {c : Nat} {A : Ab} (w : WA A) (m : CX h c A) (t : TX h c A) {s u : Nat} (hs : s < 2 ^ A 0 2) (hu : u < 2 ^ A 0 2) : ∀ k i a F, i + k = A 0 2 → k < F → a ≤ 99 * i → fX1_duty_5 F h c (nI s) (nI u) (nI a) (nI i) = some (nI (a + dF A s u i k)) := by
  have w' := w
  have m' := m
  obtain ⟨w0, w1, w2, w3, w4, w5, w6, w7, w8⟩ := w
  obtain ⟨m0, m1, m2, m3, m4, m5, m6, m7, m8⟩ := m
  have hs31 := p31 w2 hs
  have hu31 := p31 w2 hu
  intro k
  induction k with
  | zero =>
    intro i a F hi hF ha
    obtain ⟨F, rfl⟩ : ∃ G, F = G + 1 := ⟨F - 1, by omega⟩
    rw [fX1_duty_5, m2, if_pos ((n_le (by omega) (by omega)).mpr (by omega)), dF]
    rfl
  | succ k ih =>
    intro i a F hi hF ha
    obtain ⟨F, rfl⟩ : ∃ G, F = G + 1 := ⟨F - 1, by omega⟩
    have h1 := w6 i (by omega)
    have hd : A 1 i / 2 ≤ A 1 i := Nat.div_le_self _ _
    have hpi : 2 ^ i < 2 ^ 31 := Nat.pow_lt_pow_right (by decide) (by omega)
    have hcl := clo_lt w' (an_lt (b := 2 ^ i) hs)
    rw [fX1_duty_5, m2, if_neg (by rw [n_le (by omega) (by omega)]; omega), lt_e, n_an hs31 hu31]
    simp only [n_bit (s := an s u) (i := i) (by omega), an_t]
    rw [dF]
    cases hb : (s.testBit i && !u.testBit i)
    · rw [if_pos rfl, bd_s, nI_1, ih (i + 1) a F (by omega) (by omega) (by omega)]
      simp
    · rw [if_neg (by decide), n_shl i (by omega), n_an hs31 hpi, xz_allFrom w' m' t (an_lt hs), bd_s, ← n_shl i (by omega)]
      simp only [n_bit (s := clo A (an s (2 ^ i))) (i := i) (by omega)]
      rw [in_t (by omega) (by omega), ck_t, ck_t, nI_c (by omega), m6 i (by omega), show (2 : Int32) = nI 2 from rfl, pk_div (by omega) (by omega) (by omega)]
      simp only [if_true]
      cases he : (clo A (an s (2 ^ i))).testBit i
      · simp only [if_true, bd_s, lt_e, Bool.false_eq_true, if_false]
        rw [nI_add, nI_1, ih (i + 1) (a + A 1 i) F (by omega) (by omega) (by omega), Nat.add_assoc]
      · simp only [if_true, bd_s, lt_e, Bool.true_eq_false, if_false]
        rw [nI_add, nI_1, ih (i + 1) (a + A 1 i / 2) F (by omega) (by omega) (by omega), Nat.add_assoc]
theorem xz_duty {h : Mm} {c : Nat} {A : Ab} (w : WA A) (m : CX h c A) (t : TX h c A) {s u : Nat} (hs : s < 2 ^ A 0 2) (hu : u < 2 ^ A 0 2) : fX1_duty h c (nI s) (nI u) = some (nI (dZ A s u)) := by
  have := xz_duty5 w m t hs hu (A 0 2) 0 0 md_N (by omega) (by have := w.2.2.1; unfold md_N; omega) (by omega)
  rw [fX1_duty, show (0 : Int32) = nI 0 from rfl, this, bd_s, Nat.zero_add]
  rfl
