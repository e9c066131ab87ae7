abbrev Dv : Type := Nat → Nat
def rl (A : Ab) (k : Nat) (D : Dv) : Dv := if D (A 5 k) ≤ A 7 k + D (A 6 k) then D else fun v => if v = A 5 k then A 7 k + D (A 6 k) else D v
def ps (A : Ab) : Nat → Nat → Dv → Dv
  | 0, _, D => D
  | k + 1, i, D => ps A k (i + 1) (rl A i D)
def pa (A : Ab) (D : Dv) : Dv := ps A (A 0 4) 0 D
def itp (A : Ab) : Nat → Dv → Dv
  | 0, D => D
  | r + 1, D => itp A r (pa A D)
theorem rl_le (A : Ab) (k : Nat) (D : Dv) (v : Nat) : rl A k D v ≤ D v := by
  unfold rl
  split
  · exact Nat.le_refl _
  · show (if v = A 5 k then A 7 k + D (A 6 k) else D v) ≤ D v
    split
    · rename_i h1 h2; subst h2; omega
    · exact Nat.le_refl _
theorem ps_le (A : Ab) : ∀ m i (D : Dv) v, ps A m i D v ≤ D v := by
  intro m
  induction m with
  | zero => intro i D v; exact Nat.le_refl _
  | succ m ih => intro i D v; rw [ps]; exact Nat.le_trans (ih _ _ v) (rl_le A i D v)
theorem rl_at (A : Ab) (k : Nat) (D : Dv) : rl A k D (A 5 k) ≤ A 7 k + D (A 6 k) := by
  unfold rl
  split
  · assumption
  · show (if A 5 k = A 5 k then A 7 k + D (A 6 k) else D (A 5 k)) ≤ _
    rw [if_pos rfl]; exact Nat.le_refl _
theorem ps_at (A : Ab) : ∀ m i (D : Dv) k, i ≤ k → k < i + m → ps A m i D (A 5 k) ≤ A 7 k + D (A 6 k) := by
  intro m
  induction m with
  | zero => intro i D k h1 h2; omega
  | succ m ih =>
    intro i D k h1 h2
    rw [ps]
    rcases Nat.eq_or_lt_of_le h1 with e | e
    · subst e; exact Nat.le_trans (ps_le A _ _ _ _) (rl_at A i D)
    · have := ih (i + 1) (rl A i D) k e (by omega)
      have := rl_le A i D (A 6 k)
      omega
def clF (A : Ab) (F : Dv) : Prop := ∀ k, k < A 0 4 → F (A 5 k) ≤ A 7 k + F (A 6 k)
theorem rl_low {A : Ab} {F D : Dv} (c : clF A F) (h : ∀ v, F v ≤ D v) {k : Nat} (hk : k < A 0 4) : ∀ v, F v ≤ rl A k D v := by
  intro v
  unfold rl
  split
  · exact h v
  · show F v ≤ (if v = A 5 k then A 7 k + D (A 6 k) else D v)
    split
    · rename_i h1 h2; subst h2; have := c k hk; have := h (A 6 k); omega
    · exact h v
theorem ps_low {A : Ab} {F : Dv} (c : clF A F) : ∀ m i (D : Dv), i + m ≤ A 0 4 → (∀ v, F v ≤ D v) → ∀ v, F v ≤ ps A m i D v := by
  intro m
  induction m with
  | zero => intro i D _ h; exact h
  | succ m ih => intro i D hi h; rw [ps]; exact ih (i + 1) _ (by omega) (rl_low c h (by omega))
theorem pa_fix {A : Ab} {D : Dv} (h : pa A D = D) : clF A D := by
  intro k hk
  have := ps_at A (A 0 4) 0 D k (by omega) (by omega)
  rw [show ps A (A 0 4) 0 D = D from h] at this
  exact this
def JD (A : Ab) (t : Nat) (D : Dv) : Prop := D t = 0 ∧ (∀ v, D v ≤ 1000000) ∧ ∀ v, D v < 1000000 → v = t ∨ ∃ k, k < A 0 4 ∧ A 5 k = v ∧ A 7 k + D (A 6 k) ≤ D v
theorem rl_J {A : Ab} (w : WA A) {t : Nat} {D : Dv} (j : JD A t D) {k : Nat} (hk : k < A 0 4) : JD A t (rl A k D) := by
  have hw := w.2.2.2.2.2.2.2.2 k hk
  have hle := rl_le A k D
  refine ⟨by have := hle t; have := j.1; omega, fun v => Nat.le_trans (hle v) (j.2.1 v), fun v hv => ?_⟩
  by_cases hc : D (A 5 k) ≤ A 7 k + D (A 6 k)
  · have e : rl A k D = D := by unfold rl; rw [if_pos hc]
    rw [e] at hv ⊢
    exact j.2.2 v hv
  · have e : ∀ u, rl A k D u = if u = A 5 k then A 7 k + D (A 6 k) else D u := fun u => by unfold rl; rw [if_neg hc]
    by_cases hv2 : v = A 5 k
    · right
      refine ⟨k, hk, hv2.symm, ?_⟩
      have h1 := hle (A 6 k)
      rw [e v, if_pos hv2]
      omega
    · have ev : rl A k D v = D v := by rw [e v, if_neg hv2]
      rw [ev] at hv
      rcases j.2.2 v hv with h1 | ⟨k', h1, h2, h3⟩
      · exact .inl h1
      · have := hle (A 6 k')
        exact .inr ⟨k', h1, h2, by rw [ev]; omega⟩
theorem ps_J {A : Ab} (w : WA A) {t : Nat} : ∀ m i (D : Dv), i + m ≤ A 0 4 → JD A t D → JD A t (ps A m i D) := by
  intro m
  induction m with
  | zero => intro i D _ j; exact j
  | succ m ih => intro i D hi j; rw [ps]; exact ih (i + 1) _ (by omega) (rl_J w j (by omega))
theorem ps_out {A : Ab} (w : WA A) : ∀ m i (D : Dv) v, i + m ≤ A 0 4 → A 0 2 ≤ v → ps A m i D v = D v := by
  intro m
  induction m with
  | zero => intro i D v _ _; rfl
  | succ m ih =>
    intro i D v hi hv
    have hw := w.2.2.2.2.2.2.2.2 i (by omega)
    rw [ps, ih (i + 1) _ v (by omega) hv]
    unfold rl
    split
    · rfl
    · show (if v = A 5 i then A 7 i + D (A 6 i) else D v) = D v
      rw [if_neg (by omega)]
def cq (p : Nat → Bool) : Nat → Nat
  | 0 => 0
  | n + 1 => cq p n + if p n then 1 else 0
theorem cq_le {p q : Nat → Bool} (h : ∀ v, p v = true → q v = true) : ∀ n, cq p n ≤ cq q n := by
  intro n
  induction n with
  | zero => exact Nat.le_refl _
  | succ n ih =>
    rw [cq, cq]
    cases hp : p n
    · simp; omega
    · rw [h n hp]; simp; omega
theorem cq_lt {p q : Nat → Bool} (h : ∀ v, p v = true → q v = true) {u : Nat} (h1 : p u = false) (h2 : q u = true) : ∀ n, u < n → cq p n < cq q n := by
  intro n
  induction n with
  | zero => intro hu; omega
  | succ n ih =>
    intro hu
    rw [cq, cq]
    rcases Nat.eq_or_lt_of_le (Nat.le_of_lt_succ hu) with e | e
    · subst e
      have := cq_le h u
      rw [h1, h2]; simp; omega
    · have := ih e
      cases hp : p n
      · simp; omega
      · rw [h n hp]; simp; omega
theorem cq_0 {p : Nat → Bool} : ∀ n, cq p n = 0 → ∀ v, v < n → p v = false := by
  intro n
  induction n with
  | zero => intro _ v hv; omega
  | succ n ih =>
    intro h v hv
    rw [cq] at h
    rcases Nat.eq_or_lt_of_le (Nat.le_of_lt_succ hv) with e | e
    · subst e
      cases hp : p v
      · rfl
      · rw [hp] at h; simp at h
    · exact ih (by omega) v e
theorem cq_top (p : Nat → Bool) : ∀ n, cq p n ≤ n := by
  intro n
  induction n with
  | zero => exact Nat.le_refl _
  | succ n ih => rw [cq]; split <;> omega
