def aT (A : Ab) (s k : Nat) : Nat := an s (2 ^ A 5 k) ||| 2 ^ A 6 k
def gM (A : Ab) (G : Nat → Nat) (s : Nat) : Nat → Nat
  | 0 => 1000000
  | k + 1 => if s.testBit (A 5 k) then min (gM A G s k) (min 1000000 (A 7 k + G (aT A s k))) else gM A G s k
def gF (A : Ab) : Nat → Nat → Nat
  | 0, s => if A 0 0 < sZ A s then 1000000 else 0
  | r + 1, s => if A 0 0 < sZ A s then gM A (gF A r) s (A 0 4) else 0
def cI (p : Nat) : Int32 := if p = 1000000 then -1 else nI p
theorem gM_top (A : Ab) (G : Nat → Nat) (s : Nat) : ∀ i, gM A G s i ≤ 1000000 := by
  intro i
  induction i with
  | zero => exact Nat.le_refl _
  | succ i ih => rw [gM]; split <;> omega
theorem gM_le (A : Ab) (G : Nat → Nat) (s : Nat) : ∀ i j, j < i → s.testBit (A 5 j) = true → gM A G s i ≤ min 1000000 (A 7 j + G (aT A s j)) := by
  intro i
  induction i with
  | zero => intro j hj; omega
  | succ i ih =>
    intro j hj hb
    rw [gM]
    rcases Nat.eq_or_lt_of_le (Nat.le_of_lt_succ hj) with e | e
    · subst e; rw [if_pos hb]; omega
    · have := ih j e hb
      split <;> omega
theorem gM_ex (A : Ab) (G : Nat → Nat) (s : Nat) : ∀ i, gM A G s i = 1000000 ∨ ∃ j, j < i ∧ s.testBit (A 5 j) = true ∧ gM A G s i = min 1000000 (A 7 j + G (aT A s j)) := by
  intro i
  induction i with
  | zero => exact .inl rfl
  | succ i ih =>
    rw [gM]
    by_cases hb : s.testBit (A 5 i) = true
    · rw [if_pos hb]
      by_cases hm : gM A G s i ≤ min 1000000 (A 7 i + G (aT A s i))
      · rw [Nat.min_eq_left hm]
        rcases ih with e | ⟨j, h1, h2, h3⟩
        · exact .inl e
        · exact .inr ⟨j, by omega, h2, h3⟩
      · exact .inr ⟨i, by omega, hb, by omega⟩
    · rw [if_neg hb]
      rcases ih with e | ⟨j, h1, h2, h3⟩
      · exact .inl e
      · exact .inr ⟨j, by omega, h2, h3⟩
theorem gM_mono (A : Ab) {G H : Nat → Nat} (hg : ∀ s, G s ≤ H s) (s : Nat) : ∀ i, gM A G s i ≤ gM A H s i := by
  intro i
  induction i with
  | zero => exact Nat.le_refl _
  | succ i ih => rw [gM, gM]; have := hg (aT A s i); split <;> omega
theorem gF_mono (A : Ab) : ∀ r s, gF A (r + 1) s ≤ gF A r s := by
  intro r
  induction r with
  | zero => intro s; rw [gF, gF]; have := gM_top A (gF A 0) s (A 0 4); split <;> omega
  | succ r ih => intro s; rw [gF, gF]; have := gM_mono A ih s (A 0 4); split <;> omega
theorem gF_top (A : Ab) : ∀ r s, gF A r s ≤ 1000000 := by
  intro r s
  cases r with
  | zero => rw [gF]; split <;> omega
  | succ r => rw [gF]; have := gM_top A (gF A r) s (A 0 4); split <;> omega
theorem gM_b {A : Ab} (w : WA A) {G : Nat → Nat} {b : Nat} (hb : b ≤ 1000) (hG : ∀ s, G s = 1000000 ∨ G s ≤ b) (s : Nat) : ∀ i, i ≤ A 0 4 → gM A G s i = 1000000 ∨ gM A G s i ≤ 99 + b := by
  intro i
  induction i with
  | zero => intro _; exact .inl rfl
  | succ i ih =>
    intro hi
    have h1 := ih (by omega)
    have h2 := (w.2.2.2.2.2.2.2.2 i (by omega)).2.2.2
    have h3 := hG (aT A s i)
    rw [gM]; split <;> omega
theorem gF_b {A : Ab} (w : WA A) : ∀ r, r ≤ 3 → ∀ s, gF A r s = 1000000 ∨ gF A r s ≤ 99 * r := by
  intro r
  induction r with
  | zero => intro _ s; rw [gF]; split <;> omega
  | succ r ih =>
    intro hr s
    have h1 := gM_b w (b := 99 * r) (by omega) (ih (by omega)) s (A 0 4) (Nat.le_refl _)
    rw [gF]; split <;> omega
def mF (A : Ab) : Nat → Nat → Nat → Nat
  | 0, _, s => if A 0 0 < sZ A s then 1000000 else 0
  | r + 1, c, s => if 10 ≤ c % 11 then mF A r (c / 11) s else if A 0 4 ≤ c % 11 then 1000000 else if s.testBit (A 5 (c % 11)) then min 1000000 (A 7 (c % 11) + mF A r (c / 11) (aT A s (c % 11))) else 1000000
theorem gF_mF (A : Ab) : ∀ r c s, gF A r s ≤ mF A r c s := by
  intro r
  induction r with
  | zero => intro c s; rw [gF, mF]; exact Nat.le_refl _
  | succ r ih =>
    intro c s
    have h1 := gF_mono A r s
    have h2 := ih (c / 11) s
    have h3 := gF_top A (r + 1) s
    rw [mF]
    split
    · omega
    · split
      · omega
      · split
        · rename_i h4 h5 h6
          have h7 := ih (c / 11) (aT A s (c % 11))
          have h8 := gM_le A (gF A r) s (A 0 4) (c % 11) (by omega) h6
          rw [gF] at h3 ⊢
          split <;> omega
        · omega
def tn : Nat → Nat
  | 0 => 0
  | r + 1 => 10 + 11 * tn r
theorem tn_lt : ∀ r, tn r < 11 ^ r := by
  intro r
  induction r with
  | zero => decide
  | succ r ih => rw [tn, Nat.pow_succ]; omega
theorem mF_tn (A : Ab) : ∀ r s, mF A r (tn r) s = if A 0 0 < sZ A s then 1000000 else 0 := by
  intro r
  induction r with
  | zero => intro s; rfl
  | succ r ih =>
    intro s
    have e1 : (10 + 11 * tn r) % 11 = 10 := by omega
    have e2 : (10 + 11 * tn r) / 11 = tn r := by omega
    rw [mF, tn, e1, e2, if_pos (by omega), ih]
theorem mF_ex {A : Ab} (w : WA A) : ∀ r s, ∃ c, c < 11 ^ r ∧ mF A r c s = gF A r s := by
  have h4 := w.2.2.2.2.1
  intro r
  induction r with
  | zero => intro s; exact ⟨0, by decide, rfl⟩
  | succ r ih =>
    intro s
    by_cases hs : A 0 0 < sZ A s
    · rw [gF, if_pos hs]
      rcases gM_ex A (gF A r) s (A 0 4) with e | ⟨j, h1, h2, h3⟩
      · exact ⟨tn (r + 1), tn_lt _, by rw [mF_tn, if_pos hs, e]⟩
      · obtain ⟨c, hc, e⟩ := ih (aT A s j)
        refine ⟨j + 11 * c, by rw [Nat.pow_succ]; omega, ?_⟩
        have e1 : (j + 11 * c) % 11 = j := by omega
        have e2 : (j + 11 * c) / 11 = c := by omega
        rw [mF, e1, e2, if_neg (by omega), if_neg (by omega), if_pos h2, e, h3]
    · exact ⟨tn (r + 1), tn_lt _, by rw [mF_tn, gF, if_neg hs, if_neg hs]⟩
theorem aT_lt {A : Ab} (w : WA A) {s k : Nat} (hs : s < 2 ^ A 0 2) (hk : k < A 0 4) : aT A s k < 2 ^ A 0 2 :=
  or_lt (an_lt hs) (Nat.pow_lt_pow_right (by decide) (w.2.2.2.2.2.2.2.2 k hk).2.1)
theorem aT_e {A : Ab} (w : WA A) {s k : Nat} (hs : s < 2 ^ A 0 2) (hk : k < A 0 4) : (nI s &&& (((1 : Int32) <<< (nI (A 5 k) &&& 31)) ^^^ (-1 : Int32))) ||| ((1 : Int32) <<< (nI (A 6 k) &&& 31)) = nI (aT A s k) := by
  have h8 := w.2.2.1
  have h9 := w.2.2.2.2.2.2.2.2 k hk
  rw [n_shl (A 5 k) (by omega), n_shl (A 6 k) (by omega), n_an (p31 h8 hs) (Nat.pow_lt_pow_right (by decide) (by omega)), n_or]; rfl
theorem cI_n {p : Nat} (hp : p ≤ 999) : cI p = nI p := if_neg (by omega)
theorem cI_m {p : Nat} (hp : p ≤ 999) : ¬ cI p = (-1 : Int32) := by rw [cI_n hp]; exact nI_n1 p (by omega)
theorem cI_t : cI 1000000 = (-1 : Int32) := rfl
theorem nI_div11 : ∀ c, c < 2000 → nI c / (11 : Int32) = nI (c / 11) := by decide +kernel
section QV
variable {h : Mm} {A : Ab} {B : Nat → Nat}
theorem fm_loop {c : Nat} (w : WA A) (x : CX h c A) {r s : Nat} (hr : r < 3) (hs : s < 2 ^ A 0 2) (rec : Int32 → Int32 → Option Int32) (hrec : ∀ s', s' < 2 ^ A 0 2 → rec (nI s') (nI r) = some (cI (gF A r s'))) : ∀ k i F, i + k = A 0 4 → k < F → fX7_fewestMinutes_21 rec F h c (nI s) (nI (r + 1)) (cI (gM A (gF A r) s i)) (nI i) = some (cI (gM A (gF A r) s (A 0 4))) := by
  have h4 := w.2.2.2.2.1
  have h8 := w.2.2.1
  intro k
  induction k with
  | zero =>
    intro i F hi hF
    obtain ⟨F, rfl⟩ : ∃ G, F = G + 1 := ⟨F - 1, by omega⟩
    obtain rfl : i = A 0 4 := by omega
    rw [fX7_fewestMinutes_21, x.2.2.2.2.1, if_pos ((n_le (by omega) (by omega)).mpr (by omega))]
  | succ k ih =>
    intro i F hi hF
    obtain ⟨F, rfl⟩ : ∃ G, F = G + 1 := ⟨F - 1, by omega⟩
    have hc : ¬ nI (A 0 4) ≤ nI i := by rw [n_le (by omega) (by omega)]; omega
    have hx := x.2.2.2.2.2.2.2.2 i (by omega)
    have hw := w.2.2.2.2.2.2.2.2 i (by omega)
    have hat := aT_lt w hs (show i < A 0 4 by omega)
    have e1 : nI (r + 1) - (1 : Int32) = nI r := by rw [show (1 : Int32) = nI 1 from rfl, n_sub (by omega)]; rfl
    have go := ih (i + 1) F (by omega) (by omega)
    rw [gM] at go
    rw [fX7_fewestMinutes_21, x.2.2.2.2.1, if_neg hc]
    simp only [in_t (i := i) (n := 10) (by omega) (by omega), ck_t, nI_c (n := i) (by omega), hx.1, hx.2.1, hx.2.2, lt_e, fX7_afterTalk, bd_s, aT_e w hs (show i < A 0 4 by omega), e1, hrec _ hat, nI_1]
    rw [n_shl (A 5 i) (by omega)]
    simp only [fa_bit (n := s) (j := A 5 i) (by omega)]
    have b1 := gF_b w r (by omega) (aT A s i)
    have b2 := gM_b w (b := 99 * r) (by omega) (gF_b w r (by omega)) s i (by omega)
    by_cases hb : s.testBit (A 5 i) = true
    · rw [if_pos hb] at go
      simp only [hb, Bool.true_eq_false, if_false]
      rcases b1 with b1 | b1
      · rw [b1] at go ⊢
        rw [cI_t, if_pos rfl, bd_s]
        rw [Nat.min_eq_left (Nat.le_add_left 1000000 (A 7 i)), Nat.min_eq_left (gM_top A _ s i)] at go
        exact go
      · have e2 : nI (A 7 i) + cI (gF A r (aT A s i)) = nI (A 7 i + gF A r (aT A s i)) := by rw [cI_n (by omega), nI_add]
        rw [if_neg (cI_m (by omega)), e2]
        rcases b2 with b2 | b2
        · rw [b2] at go ⊢
          rw [cI_t, if_pos rfl, bd_s]
          rw [show min 1000000 (min 1000000 (A 7 i + gF A r (aT A s i))) = A 7 i + gF A r (aT A s i) by omega, cI_n (by omega)] at go
          exact go
        · rw [if_neg (cI_m (by omega)), cI_n (by omega)]
          rw [cI_n (by omega)] at go
          by_cases hz : gM A (gF A r) s i ≤ A 7 i + gF A r (aT A s i)
          · rw [if_pos ((n_le (by omega) (by omega)).mpr hz), bd_s]
            rw [show min (gM A (gF A r) s i) (min 1000000 (A 7 i + gF A r (aT A s i))) = gM A (gF A r) s i by omega] at go
            exact go
          · rw [if_neg (by rw [n_le (by omega) (by omega)]; exact hz), bd_s]
            rw [show min (gM A (gF A r) s i) (min 1000000 (A 7 i + gF A r (aT A s i))) = A 7 i + gF A r (aT A s i) by omega] at go
            exact go
    · rw [if_neg hb] at go
      have hb' : s.testBit (A 5 i) = false := by cases e : s.testBit (A 5 i); rfl; exact absurd e hb
      simp only [hb', if_true, bd_s]
      exact go
theorem xq_stuckc {c : Nat} (w : WA A) (x : CX h c A) {s : Nat} (hs : s < 2 ^ A 0 2) : fX1_isStuck h c (nI s) = some (decide (A 0 0 < sZ A s)) := by
  have hz := sZ_le w s
  have h0 := w.1
  rw [fX1_isStuck, xz_sizeOf w x (p31 w.2.2.1 hs), bd_s, x.1]
  simp only [n_le (show sZ A s < 1000000001 by omega) (show A 0 0 < 1000000001 by omega)]
  by_cases hc : sZ A s ≤ A 0 0
  · rw [if_pos hc, decide_eq_false (by omega)]; rfl
  · rw [if_neg hc, decide_eq_true (by omega)]; rfl
theorem xz_fewest {c : Nat} (w : WA A) (x : CX h c A) : ∀ r d s, r < d → r ≤ 3 → s < 2 ^ A 0 2 → gX7_fewestMinutes d h c (nI s) (nI r) = some (cI (gF A r s)) := by
  have h4 := w.2.2.2.2.1
  intro r
  induction r with
  | zero =>
    intro d s hd hr hs
    obtain ⟨d, rfl⟩ : ∃ G, d = G + 1 := ⟨d - 1, by omega⟩
    rw [gX7_fewestMinutes, xq_stuckc w x hs, bd_s, gF]
    by_cases hc : A 0 0 < sZ A s
    · rw [decide_eq_true hc, if_pos rfl, if_pos hc, if_neg (by decide)]; rfl
    · rw [decide_eq_false hc, if_neg hc]; rfl
  | succ r ih =>
    intro d s hd hr hs
    obtain ⟨d, rfl⟩ : ∃ G, d = G + 1 := ⟨d - 1, by omega⟩
    rw [gX7_fewestMinutes, xq_stuckc w x hs, bd_s, gF]
    by_cases hc : A 0 0 < sZ A s
    · have hlt : (0 : Int32) < nI (r + 1) := by rw [show (0 : Int32) = nI 0 from rfl, n_lt (by omega) (by omega)]; omega
      have hl := fm_loop w x (r := r) (by omega) hs (fun x y => gX7_fewestMinutes d h c x y) (fun s' hs' => ih d s' (by omega) (by omega) hs') (A 0 4) 0 md_N (by omega) (by unfold md_N; omega)
      rw [decide_eq_true hc, if_pos rfl, if_pos hc, if_pos hlt, show (-1 : Int32) = cI (gM A (gF A r) s 0) from rfl, show (0 : Int32) = nI 0 from rfl, hl]; rfl
    · rw [decide_eq_false hc, if_neg hc]; rfl
theorem mz_min (w : WA A) (m : CM h A) : ∀ k i c s a F, i + k = 3 → k < F → c < 2000 → s < 2 ^ A 0 2 → a ≤ 99 * i → md_bS (fX8_minutesOf_11 F h (nI s) (nI a) (nI c) (nI i)) (fun q_6 : Unit => some (1000000 : Int32)) (fun q_7 : Int32 × Int32 => md_bd (fX8_sizeOf h q_7.1) (fun r_8 => md_bd ((if r_8 ≤ (h 84 0) then some q_7.2 else some (1000000 : Int32))) (fun (v_9 : Int32) => some v_9))) = some (nI (min 1000000 (a + mF A k c s))) := by
  have h4 := w.2.2.2.2.1
  have h8 := w.2.2.1
  have h0 := w.1
  have big : ∀ x : Nat, min 1000000 (x + 1000000) = 1000000 := fun x => Nat.min_eq_left (Nat.le_add_left 1000000 x)
  intro k
  induction k with
  | zero =>
    intro i c s a F hi hF hc hs ha
    obtain ⟨F, rfl⟩ : ∃ G, F = G + 1 := ⟨F - 1, by omega⟩
    obtain rfl : i = 3 := by omega
    have hz := sZ_le w s
    rw [fX8_minutesOf_11, if_pos (by decide), bS_r, mz_sizeOf w m (p31 h8 hs), bd_s, m.1, mF]
    by_cases hc : sZ A s ≤ A 0 0
    · rw [if_pos ((n_le (by omega) (by omega)).mpr hc), if_neg (by omega), Nat.add_zero, Nat.min_eq_right (by omega)]; rfl
    · rw [if_neg (by rw [n_le (by omega) (by omega)]; exact hc), if_pos (by omega), big]; rfl
  | succ k ih =>
    intro i c s a F hi hF hc hs ha
    obtain ⟨F, rfl⟩ : ∃ G, F = G + 1 := ⟨F - 1, by omega⟩
    have hc3 : ¬ (3 : Int32) ≤ nI i := by rw [show (3 : Int32) = nI 3 from rfl, n_le (by omega) (by omega)]; omega
    have e1 : nI c - nI c / (11 : Int32) * (11 : Int32) = nI (c % 11) := pk_rem (by omega) (by decide) (by decide)
    have e2 : nI c / (11 : Int32) = nI (c / 11) := nI_div11 c hc
    rw [fX8_minutesOf_11, if_neg hc3, e1, e2, lt_e, lt_e, mF, nI_1]
    have hd : c % 11 < 11 := Nat.mod_lt _ (by decide)
    generalize hdd : c % 11 = d at hd
    have hq : c / 11 < 2000 := by omega
    by_cases c1 : 10 ≤ d
    · rw [if_pos (by rw [show (10 : Int32) = nI 10 from rfl, n_le (by omega) (by omega)]; exact c1), if_pos c1]
      exact ih (i + 1) _ _ _ F (by omega) (by omega) hq hs (by omega)
    · rw [if_neg (by rw [show (10 : Int32) = nI 10 from rfl, n_le (by omega) (by omega)]; exact c1), if_neg c1, m.2.2.2.2.1]
      by_cases c2 : A 0 4 ≤ d
      · rw [if_pos ((n_le (by omega) (by omega)).mpr c2), if_pos c2, bS_l, big]; rfl
      · have hm := m.2.2.2.2.2.2.2.2 d (by omega)
        have hw := w.2.2.2.2.2.2.2.2 d (by omega)
        rw [if_neg (by rw [n_le (by omega) (by omega)]; exact c2), if_neg c2, in_t (by omega) (by omega), nI_c (by omega), hm.1, hm.2.1, hm.2.2, has_iff (p31 h8 hs) (by omega), ck_t, bd_s]
        by_cases c3 : s.testBit (A 5 d) = true
        · rw [if_pos c3, if_pos c3, ck_t, ck_t, fX8_talked, aT_e w hs (by omega), bd_s, ck_t, nI_add, lt_e]
          rw [ih (i + 1) _ _ _ F (by omega) (by omega) hq (aT_lt w hs (by omega)) (by omega)]
          congr 2
          omega
        · rw [if_neg c3, if_neg c3, bS_l, big]; rfl
theorem mz_minutesOf (w : WA A) (m : CM h A) {c s : Nat} (hc : c < 2000) (hs : s < 2 ^ A 0 2) : fX8_minutesOf h (nI c) (nI s) = some (nI (min 1000000 (mF A 3 c s))) := by
  have := mz_min w m 3 0 c s 0 md_N (by omega) (by unfold md_N; omega) hc hs (by omega)
  rw [Nat.zero_add] at this
  exact this
theorem mz_soon (q : QS h A B) {t : Nat} (ht : t < 5) : ∀ k i p F, i + k = 1331 → k < F → p ≤ 1000000 → ∃ R, fX8_soonest_28 F h (nI t) (nI p) (nI i) = some (nI R) ∧ R ≤ p ∧ (∀ c, i ≤ c → c < 1331 → R ≤ mF A 3 c (B (2 + t))) ∧ (R = p ∨ ∃ c, R = min 1000000 (mF A 3 c (B (2 + t)))) := by
  have hs := q.2.2.2.2.2.2.2.2.1 t ht
  intro k
  induction k with
  | zero =>
    intro i p F hi hF hp
    obtain ⟨F, rfl⟩ : ∃ G, F = G + 1 := ⟨F - 1, by omega⟩
    have hc : (1331 : Int32) ≤ nI i := by rw [show (1331 : Int32) = nI 1331 from rfl, n_le (by omega) (by omega)]; omega
    rw [fX8_soonest_28, if_pos hc]
    exact ⟨p, rfl, Nat.le_refl _, fun c h1 h2 => by omega, .inl rfl⟩
  | succ k ih =>
    intro i p F hi hF hp
    obtain ⟨F, rfl⟩ : ∃ G, F = G + 1 := ⟨F - 1, by omega⟩
    have hc : ¬ (1331 : Int32) ≤ nI i := by rw [show (1331 : Int32) = nI 1331 from rfl, n_le (by omega) (by omega)]; omega
    have hmn : min 1000000 (mF A 3 i (B (2 + t))) ≤ 1000000 := Nat.min_le_left _ _
    have hml : min 1000000 (mF A 3 i (B (2 + t))) ≤ mF A 3 i (B (2 + t)) := Nat.min_le_right _ _
    rw [fX8_soonest_28, if_neg hc, in_2t (by omega), ck_t, cl_2t (by omega), m_now q (by omega), mz_minutesOf q.1 q.2.2.2.1 (by omega) hs, bd_s, nI_1]
    by_cases c1 : p ≤ min 1000000 (mF A 3 i (B (2 + t)))
    · rw [if_pos ((n_le (by omega) (by omega)).mpr c1), bd_s]
      obtain ⟨R, e1, e2, e3, e4⟩ := ih (i + 1) p F (by omega) (by omega) hp
      refine ⟨R, e1, e2, fun c h1 h2 => ?_, e4⟩
      rcases Nat.eq_or_lt_of_le h1 with e | e
      · subst e; omega
      · exact e3 c e h2
    · rw [if_neg (by rw [n_le (by omega) (by omega)]; exact c1), bd_s]
      obtain ⟨R, e1, e2, e3, e4⟩ := ih (i + 1) _ F (by omega) (by omega) hmn
      refine ⟨R, e1, by omega, fun c h1 h2 => ?_, ?_⟩
      · rcases Nat.eq_or_lt_of_le h1 with e | e
        · subst e; omega
        · exact e3 c e h2
      · rcases e4 with e | e
        · exact .inr ⟨i, e⟩
        · exact .inr e
theorem eq_soonest (q : QS h A B) (l : Int32) : ∃ r, fX7_soonest h l = some r ∧ fX8_soonest h l = some r := by
  have h5 := q.1.2.2.2.2.2.1
  rw [fX7_soonest, fX8_soonest, xz_isTr q.2.1, mz_isTr q.1 q.2.2.2.1, bd_s, bd_s]
  by_cases hl : 0 ≤ l ∧ l < nI (A 0 5)
  · obtain ⟨t, ht, rfl⟩ := ix_of (by omega) hl
    have hs := q.2.2.2.2.2.2.2.2.1 t (by omega)
    rw [decide_eq_true hl, if_pos rfl, if_pos rfl, xq_gone q (by omega), mq_gone q (by omega), bd_s, bd_s]
    cases (B 1).testBit t
    · obtain ⟨R, e1, e2, e3, e4⟩ := mz_soon q (show t < 5 by omega) 1331 0 1000000 md_N (by omega) (by unfold md_N; omega) (Nat.le_refl _)
      obtain ⟨c, hc, e5⟩ := mF_ex q.1 3 (B (2 + t))
      have hR : R = gF A 3 (B (2 + t)) := by
        have g1 := e3 c (Nat.zero_le _) hc
        have g2 := gF_top A 3 (B (2 + t))
        rcases e4 with e | ⟨c', e⟩
        · omega
        · have g3 := gF_mF A 3 c' (B (2 + t))
          omega
      rw [if_neg (by decide), if_neg (by decide), xq_mind q (by omega), bd_s, fX7_fewestMinutes, show (3 : Int32) = nI 3 from rfl, xz_fewest q.1 q.2.1 3 10 _ (by omega) (by omega) hs, bd_s, show (1000000 : Int32) = nI 1000000 from rfl, show (0 : Int32) = nI 0 from rfl, e1, bd_s, bd_s, ← hR]
      by_cases hz : R = 1000000
      · rw [if_pos ((n_le (by omega) (by omega)).mpr (by omega)), hz]
        exact ⟨_, rfl, rfl⟩
      · rw [if_neg (by rw [n_le (by omega) (by omega)]; omega), cI, if_neg hz]
        exact ⟨_, rfl, rfl⟩
    · exact ⟨_, rfl, rfl⟩
  · rw [decide_eq_false hl]
    exact ⟨_, rfl, rfl⟩
end QV
