theorem Db_itp {A : Ab} (w : WA A) : ∀ r (D : Dv) b, b + 990 * r ≤ 900000 → Db D b → Db (itp A r D) (b + 990 * r) := by
  have h4 := w.2.2.2.2.1
  intro r
  induction r with
  | zero => intro D b _ h; exact h
  | succ r ih =>
    intro D b hb h
    have h1 := Db_ps w (A 0 4) 0 D b (by omega) (by omega) h
    have h2 : Db (pa A D) (b + 990) := fun v => by
      have := h1 v
      unfold pa
      omega
    have h3 := ih (pa A D) (b + 990) (by omega) h2
    rw [itp, show b + 990 * (r + 1) = b + 990 + 990 * r by omega]
    exact h3
theorem FD_b {A : Ab} (w : WA A) (t : Nat) : Db (FD A t) 7000 := by
  have h8 := w.2.2.1
  have := Db_itp w (A 0 2 - 1) (D0 t) 0 (by omega) (D0_b t)
  intro v
  have := this v
  unfold FD
  omega
def gn (A : Ab) (t a j : Nat) : Prop := A 5 j = a ∧ FD A t a < 1000000 ∧ A 7 j + FD A t (A 6 j) = FD A t a
def sn (A : Ab) (t a i : Nat) (v : Int32) : Prop := (v = -1 ∧ ∀ j, j < i → ¬ gn A t a j) ∨ ∃ b, b < 8 ∧ v = nI b ∧ (∃ j, j < A 0 4 ∧ gn A t a j ∧ A 6 j = b) ∧ ∀ j, j < i → gn A t a j → b ≤ A 6 j
theorem xn_loop {h : Mm} {A : Ab} (w : WA A) (x : CX h (md_dx (h 0 7)) A) {t a : Nat} (ha : a < 8) (hD : ∀ v, v < 8 → h 73 v = cI (FD A t v)) : ∀ k i v F, i + k = A 0 4 → k < F → sn A t a i v → ∃ r, fX7_nextOnTheWay_4 F h (nI a) v (nI i) = some r ∧ sn A t a (A 0 4) r := by
  have h4 := w.2.2.2.2.1
  have h8 := w.2.2.1
  intro k
  induction k with
  | zero =>
    intro i v F hi hF hs
    obtain ⟨F, rfl⟩ : ∃ G, F = G + 1 := ⟨F - 1, by omega⟩
    rw [fX7_nextOnTheWay_4, x.2.2.2.2.1, if_pos ((n_le (by omega) (by omega)).mpr (by omega))]
    rw [show i = A 0 4 by omega] at hs
    exact ⟨v, rfl, hs⟩
  | succ k ih =>
    intro i v F hi hF hs
    obtain ⟨F, rfl⟩ : ∃ G, F = G + 1 := ⟨F - 1, by omega⟩
    have hx := x.2.2.2.2.2.2.2.2 i (by omega)
    have hw := w.2.2.2.2.2.2.2.2 i (by omega)
    have b6 := FD_b w t (A 6 i)
    have ba := FD_b w t a
    have go := fun v hv => ih (i + 1) v F (by omega) (by omega) hv
    rw [fX7_nextOnTheWay_4, x.2.2.2.2.1, if_neg (by rw [n_le (by omega) (by omega)]; omega)]
    simp only [in_t (i := i) (n := 10) (by omega) (by omega), ck_t, nI_c (n := i) (by omega), hx.1, hx.2.1, hx.2.2, lt_e, in_t (i := A 6 i) (n := 8) (by omega) (by omega), in_t (i := a) (n := 8) (by omega) (by omega), nI_c (n := A 6 i) (by omega), nI_c (n := a) (by omega), hD (A 6 i) (by omega), hD a (by omega), nI_1, n_eq (show A 5 i < 1000000001 by omega) (show a < 1000000001 by omega)]
    have skip : ¬ gn A t a i → sn A t a (i + 1) v := by
      intro hn
      rcases hs with ⟨e1, e2⟩ | ⟨b, e1, e2, e3, e4⟩
      · exact .inl ⟨e1, fun j hj g => by
          rcases Nat.eq_or_lt_of_le (Nat.le_of_lt_succ hj) with e | e
          · subst e; exact hn g
          · exact e2 j e g⟩
      · exact .inr ⟨b, e1, e2, e3, fun j hj g => by
          rcases Nat.eq_or_lt_of_le (Nat.le_of_lt_succ hj) with e | e
          · subst e; exact absurd g hn
          · exact e4 j e g⟩
    by_cases c1 : A 5 i = a
    · rw [if_pos c1]
      by_cases c2 : FD A t (A 6 i) = 1000000
      · rw [c2, cI_t, if_pos rfl, bd_s, if_neg (by decide), bd_s]
        exact go v (skip fun g => by have := g.2.1; have := g.2.2; omega)
      · rw [cIn c2, if_neg (nI_nm (by omega)), nI_add]
        by_cases c3 : gn A t a i
        · have e : nI (A 7 i + FD A t (A 6 i)) = cI (FD A t a) := by rw [c3.2.2, cIn (by have := c3.2.1; omega)]
          rw [if_pos e, bd_s, if_pos rfl]
          rcases hs with ⟨e1, e2⟩ | ⟨b, e1, e2, e3, e4⟩
          · rw [if_pos e1, bd_s]
            exact go _ (.inr ⟨A 6 i, by omega, rfl, ⟨i, by omega, c3, rfl⟩, fun j hj g => by
              rcases Nat.eq_or_lt_of_le (Nat.le_of_lt_succ hj) with e | e
              · subst e; exact Nat.le_refl _
              · exact absurd g (e2 j e)⟩)
          · rw [e2, if_neg (nI_nm (by omega))]
            by_cases c4 : b ≤ A 6 i
            · rw [if_pos ((n_le (by omega) (by omega)).mpr c4), bd_s]
              exact go _ (.inr ⟨b, e1, rfl, e3, fun j hj g => by
                rcases Nat.eq_or_lt_of_le (Nat.le_of_lt_succ hj) with e | e
                · subst e; exact c4
                · exact e4 j e g⟩)
            · rw [if_neg (by rw [n_le (by omega) (by omega)]; exact c4), bd_s]
              exact go _ (.inr ⟨A 6 i, by omega, rfl, ⟨i, by omega, c3, rfl⟩, fun j hj g => by
                rcases Nat.eq_or_lt_of_le (Nat.le_of_lt_succ hj) with e | e
                · subst e; exact Nat.le_refl _
                · have := e4 j e g; omega⟩)
        · have e : ¬ nI (A 7 i + FD A t (A 6 i)) = cI (FD A t a) := by
            intro e
            by_cases ca : FD A t a = 1000000
            · rw [ca, cI_t] at e; exact nI_nm (by omega) e
            · rw [cIn ca, n_eq (by omega) (by omega)] at e
              exact c3 ⟨c1, by omega, e⟩
          rw [if_neg e, bd_s, if_neg (by decide), bd_s]
          exact go v (skip c3)
    · rw [if_neg c1, bd_s, if_neg (by decide), bd_s]
      exact go v (skip fun g => c1 g.1)
