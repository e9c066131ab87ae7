/-! what follows -/
def sb (a b : Nat) : Prop := ∀ i, a.testBit i = true → b.testBit i = true
theorem sb_r (a : Nat) : sb a a := fun _ h => h
theorem sb_t {a b c : Nat} (h1 : sb a b) (h2 : sb b c) : sb a c := fun i h => h2 i (h1 i h)
theorem sb_a {a b : Nat} (h1 : sb a b) (h2 : sb b a) : a = b := Nat.eq_of_testBit_eq fun i => by
  cases ha : a.testBit i
  · cases hb : b.testBit i
    · rfl
    · rw [h2 i hb] at ha; cases ha
  · exact (h1 i ha).symm
theorem sb_or {a b : Nat} : sb a (a ||| b) := fun i h => by rw [Nat.testBit_or, h]; rfl
theorem sb_or2 {a b : Nat} : sb b (a ||| b) := fun i h => by rw [Nat.testBit_or, h, Bool.or_true]
theorem sb_orl {a b c : Nat} (h1 : sb a c) (h2 : sb b c) : sb (a ||| b) c := fun i h => by
  rw [Nat.testBit_or, Bool.or_eq_true] at h
  rcases h with h | h
  · exact h1 i h
  · exact h2 i h
theorem tb_2 (k i : Nat) : (2 ^ k).testBit i = true ↔ i = k := by
  rw [Nat.testBit_two_pow]; simp; omega
theorem sb_bit {s k : Nat} (h : s.testBit k = true) : s ||| 2 ^ k = s := sb_a (sb_orl (sb_r s) (fun i hi => by rw [tb_2] at hi; rw [hi]; exact h)) sb_or
theorem or_lt {a b n : Nat} (ha : a < 2 ^ n) (hb : b < 2 ^ n) : a ||| b < 2 ^ n := Nat.or_lt_two_pow ha hb
theorem lt_p {s n : Nat} (hs : s < 2 ^ n) (hn : n ≤ 8) : s < 256 := Nat.lt_of_lt_of_le hs (Nat.pow_le_pow_right (by decide) hn : 2 ^ n ≤ 2 ^ 8)
/-- one round over the joinings k .. k + m - 1 -/
def pF (A : Ab) : Nat → Nat → Nat → Nat
  | _, 0, s => s
  | k, m + 1, s => pF A (k + 1) m (if s.testBit (A 2 k) && s.testBit (A 3 k) then s ||| 2 ^ A 4 k else s)
theorem pF_sb (A : Ab) : ∀ m k s, sb s (pF A k m s) := by
  intro m
  induction m with
  | zero => intro k s; exact sb_r s
  | succ m ih =>
    intro k s
    rw [pF]
    refine sb_t ?_ (ih (k + 1) _)
    split
    · exact sb_or
    · exact sb_r s
theorem pF_lt {A : Ab} (w : WA A) : ∀ m k s, k + m ≤ A 0 3 → s < 2 ^ A 0 2 → pF A k m s < 2 ^ A 0 2 := by
  intro m
  induction m with
  | zero => intro k s _ hs; exact hs
  | succ m ih =>
    intro k s hk hs
    rw [pF]
    refine ih (k + 1) _ (by omega) ?_
    split
    · exact or_lt hs (Nat.pow_lt_pow_right (by decide) (w.2.2.2.2.2.2.2.1 k (by omega)).2.2)
    · exact hs
def clsd (A : Ab) (U : Nat) : Prop := ∀ k, k < A 0 3 → U.testBit (A 2 k) = true → U.testBit (A 3 k) = true → U.testBit (A 4 k) = true
theorem pF_low {A : Ab} {U : Nat} (hU : clsd A U) : ∀ m k s, k + m ≤ A 0 3 → sb s U → sb (pF A k m s) U := by
  intro m
  induction m with
  | zero => intro k s _ hs; exact hs
  | succ m ih =>
    intro k s hk hs
    rw [pF]
    refine ih (k + 1) _ (by omega) ?_
    split
    · rename_i h1
      rw [Bool.and_eq_true] at h1
      refine sb_orl hs (fun i hi => ?_)
      rw [tb_2] at hi
      rw [hi]
      exact hU k (by omega) (hs _ h1.1) (hs _ h1.2)
    · exact hs
theorem pF_fix {A : Ab} : ∀ m k s, pF A k m s = s → ∀ j, k ≤ j → j < k + m → s.testBit (A 2 j) = true → s.testBit (A 3 j) = true → s.testBit (A 4 j) = true := by
  intro m
  induction m with
  | zero => intro k s _ j h1 h2; omega
  | succ m ih =>
    intro k s hs j h1 h2 h3 h4
    rw [pF] at hs
    have hst : (if s.testBit (A 2 k) && s.testBit (A 3 k) then s ||| 2 ^ A 4 k else s) = s := by
      refine sb_a ?_ ?_
      · have := pF_sb A m (k + 1) (if s.testBit (A 2 k) && s.testBit (A 3 k) then s ||| 2 ^ A 4 k else s)
        rw [hs] at this
        exact this
      · split
        · exact sb_or
        · exact sb_r s
    rw [hst] at hs
    rcases Nat.eq_or_lt_of_le h1 with e | e
    · subst e
      rw [h3, h4] at hst
      simp only [Bool.and_self, if_true] at hst
      rw [← hst]
      exact sb_or2 _ ((tb_2 _ _).mpr rfl)
    · exact ih (k + 1) s hs j e (by omega) h3 h4
def pR (A : Ab) (s : Nat) : Nat := pF A 0 (A 0 3) s
theorem pR_fix {A : Ab} {s : Nat} (h : pR A s = s) : clsd A s := fun k hk => pF_fix (A 0 3) 0 s h k (Nat.zero_le k) (by omega)
def bc (s : Nat) : Nat → Nat
  | 0 => 0
  | i + 1 => bc s i + (if s.testBit i then 1 else 0)
theorem bc_le (s : Nat) : ∀ k, bc s k ≤ k := by
  intro k
  induction k with
  | zero => exact Nat.le_refl 0
  | succ k ih => rw [bc]; split <;> omega
theorem bc_mono {a b : Nat} (h : sb a b) : ∀ k, bc a k ≤ bc b k := by
  intro k
  induction k with
  | zero => exact Nat.le_refl 0
  | succ k ih =>
    rw [bc, bc]
    cases ha : a.testBit k
    · simp; omega
    · rw [h k ha]; simp; omega
theorem bc_lt {a b i : Nat} (h : sb a b) (ha : a.testBit i = false) (hb : b.testBit i = true) : ∀ k, i < k → bc a k < bc b k := by
  intro k
  induction k with
  | zero => intro hi; omega
  | succ k ih =>
    intro hi
    rw [bc, bc]
    rcases Nat.eq_or_lt_of_le (Nat.le_of_lt_succ hi) with e | e
    · subst e
      have := bc_mono h i
      rw [ha, hb]; simp; omega
    · have h1 := ih e
      cases hk : a.testBit k
      · simp; omega
      · rw [h k hk]; simp; omega
theorem bc_full {a : Nat} : ∀ k, bc a k = k → ∀ i, i < k → a.testBit i = true := by
  intro k
  induction k with
  | zero => intro _ i hi; omega
  | succ k ih =>
    intro h i hi
    rw [bc] at h
    have h1 := bc_le a k
    cases hk : a.testBit k
    · rw [hk] at h; simp at h; omega
    · rw [hk] at h; simp at h
      rcases Nat.eq_or_lt_of_le (Nat.le_of_lt_succ hi) with e | e
      · rw [e]; exact hk
      · exact ih (by omega) i e
theorem ne_bit {a b : Nat} (h : sb a b) (hne : b ≠ a) : ∃ i, a.testBit i = false ∧ b.testBit i = true := by
  apply Classical.byContradiction
  intro hc
  apply hne
  refine sb_a (fun i hi => ?_) h
  cases ha : a.testBit i
  · exact absurd ⟨i, ha, hi⟩ hc
  · rfl
theorem bit_lt {b i n : Nat} (hb : b < 2 ^ n) (h : b.testBit i = true) : i < n := by
  rcases Nat.lt_or_ge i n with q | q
  · exact q
  · rw [Nat.testBit_lt_two_pow (Nat.lt_of_lt_of_le hb (Nat.pow_le_pow_right (by decide) q))] at h; cases h
def cl (A : Ab) : Nat → Nat → Nat
  | 0, s => s
  | r + 1, s => if pR A s = s then s else cl A r (pR A s)
theorem cl_sb (A : Ab) : ∀ r s, sb s (cl A r s) := by
  intro r
  induction r with
  | zero => intro s; exact sb_r s
  | succ r ih =>
    intro s
    rw [cl]
    split
    · exact sb_r s
    · exact sb_t (pF_sb A _ _ s) (ih _)
theorem cl_lt {A : Ab} (w : WA A) : ∀ r s, s < 2 ^ A 0 2 → cl A r s < 2 ^ A 0 2 := by
  intro r
  induction r with
  | zero => intro s hs; exact hs
  | succ r ih =>
    intro s hs
    rw [cl]
    split
    · exact hs
    · exact ih _ (pF_lt w _ 0 s (by omega) hs)
theorem cl_low {A : Ab} {U : Nat} (hU : clsd A U) : ∀ r s, sb s U → sb (cl A r s) U := by
  intro r
  induction r with
  | zero => intro s hs; exact hs
  | succ r ih =>
    intro s hs
    rw [cl]
    split
    · exact hs
    · exact ih _ (pF_low hU _ 0 s (by omega) hs)
theorem cl_fix {A : Ab} (w : WA A) : ∀ r s, s < 2 ^ A 0 2 → 8 ≤ bc s 8 + r → pR A (cl A r s) = cl A r s := by
  intro r
  induction r with
  | zero =>
    intro s hs hb
    rw [cl]
    have h1 := bc_le s 8
    have hf := bc_full 8 (by omega : bc s 8 = 8)
    refine sb_a (fun i hi => ?_) (pF_sb A _ _ s)
    have := bit_lt (pF_lt w _ 0 s (by omega) hs) hi
    exact hf i (by have := w.2.2.1; omega)
  | succ r ih =>
    intro s hs hb
    rw [cl]
    split
    · rename_i h; exact h
    · rename_i h
      obtain ⟨i, h1, h2⟩ := ne_bit (pF_sb A (A 0 3) 0 s) h
      have hlt := pF_lt w (A 0 3) 0 s (by omega) hs
      have h3 := bc_lt (pF_sb A (A 0 3) 0 s) h1 h2 8 (by have := bit_lt hlt h2; have := w.2.2.1; omega)
      exact ih _ hlt (by unfold pR; omega)
/-- what follows from a set -/
def clo (A : Ab) (s : Nat) : Nat := cl A 8 s
theorem clo_c {A : Ab} (w : WA A) {s : Nat} (hs : s < 2 ^ A 0 2) : clsd A (clo A s) := pR_fix (cl_fix w 8 s hs (by omega))
theorem clo_lt {A : Ab} (w : WA A) {s : Nat} (hs : s < 2 ^ A 0 2) : clo A s < 2 ^ A 0 2 := cl_lt w 8 s hs
theorem clo_join {A : Ab} (w : WA A) {s t : Nat} (hs : s < 2 ^ A 0 2) (ht : sb t s) (htl : t < 2 ^ A 0 2) : clo A (s ||| clo A t) = clo A s := by
  have h1 : s ||| clo A t < 2 ^ A 0 2 := or_lt hs (clo_lt w htl)
  refine sb_a ?_ ?_
  · exact cl_low (clo_c w hs) 8 _ (sb_orl (cl_sb A 8 s) (cl_low (clo_c w hs) 8 _ (sb_t ht (cl_sb A 8 s))))
  · exact cl_low (clo_c w h1) 8 _ (sb_t sb_or (cl_sb A 8 _))
