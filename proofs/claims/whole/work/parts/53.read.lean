/-! what is read so far: class in the country c, model in its own rows -/
def KX (h : Mm) (c : Nat) (A : Ab) (R : Nat) (M : Nat → Nat) : Prop := CX h c A ∧ h c 0 = nI (if A 0 0 = 0 then 0 else 1) ∧ h c 13 = nI R ∧ ∀ t, t < A 0 5 → h (c + 8) t = nI (M t)
def KM (h : Mm) (A : Ab) (R : Nat) (M : Nat → Nat) : Prop := h 94 0 = nI (A 0 0) ∧ h 94 1 = nI (A 0 1) ∧ h 84 22 = nI (A 0 2) ∧ h 84 24 = nI (A 0 3) ∧ h 84 28 = nI (A 0 4) ∧ h 84 33 = nI (A 0 5) ∧ h 84 32 = nI R ∧ (∀ i, i < A 0 2 → h 95 i = nI (A 1 i)) ∧ (∀ k, k < A 0 3 → h 96 k = nI (A 2 k) ∧ h 97 k = nI (A 3 k) ∧ h 98 k = nI (A 4 k)) ∧ (∀ k, k < A 0 4 → h 99 k = nI (A 5 k) ∧ h 100 k = nI (A 6 k) ∧ h 101 k = nI (A 7 k)) ∧ ∀ t, t < A 0 5 → h 102 t = nI (M t)
def WK (A : Ab) (R : Nat) (M : Nat → Nat) : Prop := WA A ∧ R < 2 ^ A 0 2 ∧ ∀ t, t < A 0 5 → M t < 2 ^ A 0 2
section KK
variable {h h' : Mm} {c R : Nat} {A : Ab} {M : Nat → Nat}
theorem KX_t (f : ∀ a j, c ≤ a → a ≤ c + 8 → h' a j = h a j) (x : KX h c A R M) : KX h' c A R M :=
  ⟨CX_t (fun a j h1 h2 => f a j h1 (by omega)) x.1, by rw [f c 0 (by omega) (by omega)]; exact x.2.1, by rw [f c 13 (by omega) (by omega)]; exact x.2.2.1, fun t ht => by rw [f (c + 8) t (by omega) (by omega)]; exact x.2.2.2 t ht⟩
theorem KM_t (f : ∀ a j, (a = 84 ∧ 22 ≤ j ∧ j ≤ 33 ∨ 94 ≤ a ∧ a ≤ 102) → h' a j = h a j) (x : KM h A R M) : KM h' A R M := by
  obtain ⟨a0, a1, a2, a3, a4, a5, a6, a7, a8, a9, a10⟩ := x
  exact ⟨by rw [f 94 0 (by omega)]; exact a0, by rw [f 94 1 (by omega)]; exact a1, by rw [f 84 22 (by omega)]; exact a2, by rw [f 84 24 (by omega)]; exact a3, by rw [f 84 28 (by omega)]; exact a4, by rw [f 84 33 (by omega)]; exact a5, by rw [f 84 32 (by omega)]; exact a6, fun i hi => by rw [f 95 i (by omega)]; exact a7 i hi, fun k hk => by rw [f 96 k (by omega), f 97 k (by omega), f 98 k (by omega)]; exact a8 k hk, fun k hk => by rw [f 99 k (by omega), f 100 k (by omega), f 101 k (by omega)]; exact a9 k hk, fun t ht => by rw [f 102 t (by omega)]; exact a10 t ht⟩
def gA (A : Ab) (v1 v2 : Nat) : Ab := fun x y => if x = 0 then (if y = 0 then v1 else if y = 1 then v2 else A 0 y) else A x y
theorem KX_g {v1 v2 : Nat} (x : KX h c A R M) (hv : v1 ≠ 0) (f : ∀ a j, c ≤ a → a ≤ c + 8 → (a ≠ c ∨ 3 ≤ j) → h' a j = h a j) (e0 : h' c 0 = 1) (e1 : h' c 1 = nI v1) (e2 : h' c 2 = nI v2) : KX h' c (gA A v1 v2) R M := by
  obtain ⟨⟨m0, m1, m2, m3, m4, m5, m6, m7, m8⟩, x1, x2, x3⟩ := x
  refine ⟨⟨e1, e2, by rw [f c 3 (by omega) (by omega) (by omega)]; exact m2, by rw [f c 5 (by omega) (by omega) (by omega)]; exact m3, by rw [f c 9 (by omega) (by omega) (by omega)]; exact m4, by rw [f c 14 (by omega) (by omega) (by omega)]; exact m5, fun i hi => by rw [f (c + 1) i (by omega) (by omega) (by omega)]; exact m6 i hi, fun k hk => by rw [f (c + 2) k (by omega) (by omega) (by omega), f (c + 3) k (by omega) (by omega) (by omega), f (c + 4) k (by omega) (by omega) (by omega)]; exact m7 k hk, fun k hk => by rw [f (c + 5) k (by omega) (by omega) (by omega), f (c + 6) k (by omega) (by omega) (by omega), f (c + 7) k (by omega) (by omega) (by omega)]; exact m8 k hk⟩, ?_, by rw [f c 13 (by omega) (by omega) (by omega)]; exact x2, fun t ht => by rw [f (c + 8) t (by omega) (by omega) (by omega)]; exact x3 t ht⟩
  rw [e0, if_neg (show ¬ gA A v1 v2 0 0 = 0 from hv)]; rfl
theorem KM_g {v1 v2 : Nat} (x : KM h A R M) (f : ∀ a j, (a = 84 ∧ 22 ≤ j ∧ j ≤ 33 ∨ 95 ≤ a ∧ a ≤ 102) → h' a j = h a j) (e1 : h' 94 0 = nI v1) (e2 : h' 94 1 = nI v2) : KM h' (gA A v1 v2) R M := by
  obtain ⟨a0, a1, a2, a3, a4, a5, a6, a7, a8, a9, a10⟩ := x
  exact ⟨e1, e2, by rw [f 84 22 (by omega)]; exact a2, by rw [f 84 24 (by omega)]; exact a3, by rw [f 84 28 (by omega)]; exact a4, by rw [f 84 33 (by omega)]; exact a5, by rw [f 84 32 (by omega)]; exact a6, fun i hi => by rw [f 95 i (by omega)]; exact a7 i hi, fun k hk => by rw [f 96 k (by omega), f 97 k (by omega), f 98 k (by omega)]; exact a8 k hk, fun k hk => by rw [f 99 k (by omega), f 100 k (by omega), f 101 k (by omega)]; exact a9 k hk, fun t ht => by rw [f 102 t (by omega)]; exact a10 t ht⟩
theorem WK_g {v1 v2 : Nat} (w : WK A R M) (h1 : v1 ≤ 999) (h2 : v2 ≤ 99) : WK (gA A v1 v2) R M :=
  ⟨⟨h1, h2, w.1.2.2⟩, w.2⟩
def iA (A : Ab) (v : Nat) : Ab := fun x y => if x = 0 then (if y = 2 then A 0 2 + 1 else A 0 y) else if x = 1 then (if y = A 0 2 then v else A 1 y) else A x y
theorem KX_i {v : Nat} (x : KX h c A R M) (f : ∀ a j, c ≤ a → a ≤ c + 8 → (a ≠ c ∨ j ≠ 3) → (a ≠ c + 1 ∨ j ≠ A 0 2) → h' a j = h a j) (e0 : h' c 3 = nI (A 0 2 + 1)) (e1 : h' (c + 1) (A 0 2) = nI v) : KX h' c (iA A v) R M := by
  obtain ⟨⟨m0, m1, m2, m3, m4, m5, m6, m7, m8⟩, x1, x2, x3⟩ := x
  refine ⟨⟨by rw [f c 1 (by omega) (by omega) (by omega) (by omega)]; exact m0, by rw [f c 2 (by omega) (by omega) (by omega) (by omega)]; exact m1, e0, by rw [f c 5 (by omega) (by omega) (by omega) (by omega)]; exact m3, by rw [f c 9 (by omega) (by omega) (by omega) (by omega)]; exact m4, by rw [f c 14 (by omega) (by omega) (by omega) (by omega)]; exact m5, fun i hi => ?_, fun k hk => by rw [f (c + 2) k (by omega) (by omega) (by omega) (by omega), f (c + 3) k (by omega) (by omega) (by omega) (by omega), f (c + 4) k (by omega) (by omega) (by omega) (by omega)]; exact m7 k hk, fun k hk => by rw [f (c + 5) k (by omega) (by omega) (by omega) (by omega), f (c + 6) k (by omega) (by omega) (by omega) (by omega), f (c + 7) k (by omega) (by omega) (by omega) (by omega)]; exact m8 k hk⟩, by rw [f c 0 (by omega) (by omega) (by omega) (by omega)]; exact x1, by rw [f c 13 (by omega) (by omega) (by omega) (by omega)]; exact x2, fun t ht => by rw [f (c + 8) t (by omega) (by omega) (by omega) (by omega)]; exact x3 t ht⟩
  have hi' : i < A 0 2 + 1 := hi
  show h' (c + 1) i = nI (if i = A 0 2 then v else A 1 i)
  by_cases e : i = A 0 2
  · rw [if_pos e, e]; exact e1
  · rw [if_neg e, f (c + 1) i (by omega) (by omega) (by omega) (by omega)]; exact m6 i (by omega)
theorem KM_i {v : Nat} (x : KM h A R M) (f : ∀ a j, (a = 84 ∧ 22 ≤ j ∧ j ≤ 33 ∨ 94 ≤ a ∧ a ≤ 102) → (a ≠ 84 ∨ j ≠ 22) → (a ≠ 95 ∨ j ≠ A 0 2) → h' a j = h a j) (e0 : h' 84 22 = nI (A 0 2 + 1)) (e1 : h' 95 (A 0 2) = nI v) : KM h' (iA A v) R M := by
  obtain ⟨a0, a1, a2, a3, a4, a5, a6, a7, a8, a9, a10⟩ := x
  refine ⟨by rw [f 94 0 (by omega) (by omega) (by omega)]; exact a0, by rw [f 94 1 (by omega) (by omega) (by omega)]; exact a1, e0, by rw [f 84 24 (by omega) (by omega) (by omega)]; exact a3, by rw [f 84 28 (by omega) (by omega) (by omega)]; exact a4, by rw [f 84 33 (by omega) (by omega) (by omega)]; exact a5, by rw [f 84 32 (by omega) (by omega) (by omega)]; exact a6, fun i hi => ?_, fun k hk => by rw [f 96 k (by omega) (by omega) (by omega), f 97 k (by omega) (by omega) (by omega), f 98 k (by omega) (by omega) (by omega)]; exact a8 k hk, fun k hk => by rw [f 99 k (by omega) (by omega) (by omega), f 100 k (by omega) (by omega) (by omega), f 101 k (by omega) (by omega) (by omega)]; exact a9 k hk, fun t ht => by rw [f 102 t (by omega) (by omega) (by omega)]; exact a10 t ht⟩
  have hi' : i < A 0 2 + 1 := hi
  show h' 95 i = nI (if i = A 0 2 then v else A 1 i)
  by_cases e : i = A 0 2
  · rw [if_pos e, e]; exact e1
  · rw [if_neg e, f 95 i (by omega) (by omega) (by omega)]; exact a7 i (by omega)
theorem WK_i {v : Nat} (w : WK A R M) (hi : A 0 2 < 8) (h1 : 1 ≤ v) (h2 : v ≤ 99) : WK (iA A v) R M := by
  obtain ⟨⟨w0, w1, w2, w3, w4, w5, w6, w7, w8⟩, wr, wm⟩ := w
  have hp : 2 ^ A 0 2 ≤ 2 ^ (A 0 2 + 1) := Nat.pow_le_pow_right (by decide) (by omega)
  refine ⟨⟨w0, w1, show A 0 2 + 1 ≤ 8 by omega, w3, w4, w5, fun i hi' => ?_, fun k hk => ?_, fun k hk => ?_⟩, show R < 2 ^ (A 0 2 + 1) by omega, fun t ht => ?_⟩
  · have hi'' : i < A 0 2 + 1 := hi'
    show 1 ≤ (if i = A 0 2 then v else A 1 i) ∧ (if i = A 0 2 then v else A 1 i) ≤ 99
    by_cases e : i = A 0 2
    · rw [if_pos e]; exact ⟨h1, h2⟩
    · rw [if_neg e]; exact w6 i (by omega)
  · have := w7 k hk
    show A 2 k < A 0 2 + 1 ∧ A 3 k < A 0 2 + 1 ∧ A 4 k < A 0 2 + 1
    omega
  · have := w8 k hk
    show A 5 k < A 0 2 + 1 ∧ A 6 k < A 0 2 + 1 ∧ 1 ≤ A 7 k ∧ A 7 k ≤ 99
    omega
  · have := wm t ht
    show M t < 2 ^ (A 0 2 + 1)
    omega
def jA (A : Ab) (v1 v2 v3 : Nat) : Ab := fun x y => if x = 0 then (if y = 3 then A 0 3 + 1 else A 0 y) else if x = 2 then (if y = A 0 3 then v1 else A 2 y) else if x = 3 then (if y = A 0 3 then v2 else A 3 y) else if x = 4 then (if y = A 0 3 then v3 else A 4 y) else A x y
theorem KX_j {v1 v2 v3 : Nat} (x : KX h c A R M) (f : ∀ a j, c ≤ a → a ≤ c + 8 → (a ≠ c ∨ j ≠ 5) → (a < c + 2 ∨ c + 4 < a ∨ j ≠ A 0 3) → h' a j = h a j) (e0 : h' c 5 = nI (A 0 3 + 1)) (e1 : h' (c + 2) (A 0 3) = nI v1) (e2 : h' (c + 3) (A 0 3) = nI v2) (e3 : h' (c + 4) (A 0 3) = nI v3) : KX h' c (jA A v1 v2 v3) R M := by
  obtain ⟨⟨m0, m1, m2, m3, m4, m5, m6, m7, m8⟩, x1, x2, x3⟩ := x
  refine ⟨⟨by rw [f c 1 (by omega) (by omega) (by omega) (by omega)]; exact m0, by rw [f c 2 (by omega) (by omega) (by omega) (by omega)]; exact m1, by rw [f c 3 (by omega) (by omega) (by omega) (by omega)]; exact m2, e0, by rw [f c 9 (by omega) (by omega) (by omega) (by omega)]; exact m4, by rw [f c 14 (by omega) (by omega) (by omega) (by omega)]; exact m5, fun i hi => by rw [f (c + 1) i (by omega) (by omega) (by omega) (by omega)]; exact m6 i hi, fun k hk => ?_, fun k hk => by rw [f (c + 5) k (by omega) (by omega) (by omega) (by omega), f (c + 6) k (by omega) (by omega) (by omega) (by omega), f (c + 7) k (by omega) (by omega) (by omega) (by omega)]; exact m8 k hk⟩, by rw [f c 0 (by omega) (by omega) (by omega) (by omega)]; exact x1, by rw [f c 13 (by omega) (by omega) (by omega) (by omega)]; exact x2, fun t ht => by rw [f (c + 8) t (by omega) (by omega) (by omega) (by omega)]; exact x3 t ht⟩
  have hk' : k < A 0 3 + 1 := hk
  show h' (c + 2) k = nI (if k = A 0 3 then v1 else A 2 k) ∧ h' (c + 3) k = nI (if k = A 0 3 then v2 else A 3 k) ∧ h' (c + 4) k = nI (if k = A 0 3 then v3 else A 4 k)
  by_cases e : k = A 0 3
  · rw [if_pos e, if_pos e, if_pos e, e]; exact ⟨e1, e2, e3⟩
  · rw [if_neg e, if_neg e, if_neg e, f (c + 2) k (by omega) (by omega) (by omega) (by omega), f (c + 3) k (by omega) (by omega) (by omega) (by omega), f (c + 4) k (by omega) (by omega) (by omega) (by omega)]; exact m7 k (by omega)
theorem KM_j {v1 v2 v3 : Nat} (x : KM h A R M) (f : ∀ a j, (a = 84 ∧ 22 ≤ j ∧ j ≤ 33 ∨ 94 ≤ a ∧ a ≤ 102) → (a ≠ 84 ∨ j ≠ 24) → (a < 96 ∨ 98 < a ∨ j ≠ A 0 3) → h' a j = h a j) (e0 : h' 84 24 = nI (A 0 3 + 1)) (e1 : h' 96 (A 0 3) = nI v1) (e2 : h' 97 (A 0 3) = nI v2) (e3 : h' 98 (A 0 3) = nI v3) : KM h' (jA A v1 v2 v3) R M := by
  obtain ⟨a0, a1, a2, a3, a4, a5, a6, a7, a8, a9, a10⟩ := x
  refine ⟨by rw [f 94 0 (by omega) (by omega) (by omega)]; exact a0, by rw [f 94 1 (by omega) (by omega) (by omega)]; exact a1, by rw [f 84 22 (by omega) (by omega) (by omega)]; exact a2, e0, by rw [f 84 28 (by omega) (by omega) (by omega)]; exact a4, by rw [f 84 33 (by omega) (by omega) (by omega)]; exact a5, by rw [f 84 32 (by omega) (by omega) (by omega)]; exact a6, fun i hi => by rw [f 95 i (by omega) (by omega) (by omega)]; exact a7 i hi, fun k hk => ?_, fun k hk => by rw [f 99 k (by omega) (by omega) (by omega), f 100 k (by omega) (by omega) (by omega), f 101 k (by omega) (by omega) (by omega)]; exact a9 k hk, fun t ht => by rw [f 102 t (by omega) (by omega) (by omega)]; exact a10 t ht⟩
  have hk' : k < A 0 3 + 1 := hk
  show h' 96 k = nI (if k = A 0 3 then v1 else A 2 k) ∧ h' 97 k = nI (if k = A 0 3 then v2 else A 3 k) ∧ h' 98 k = nI (if k = A 0 3 then v3 else A 4 k)
  by_cases e : k = A 0 3
  · rw [if_pos e, if_pos e, if_pos e, e]; exact ⟨e1, e2, e3⟩
  · rw [if_neg e, if_neg e, if_neg e, f 96 k (by omega) (by omega) (by omega), f 97 k (by omega) (by omega) (by omega), f 98 k (by omega) (by omega) (by omega)]; exact a8 k (by omega)
theorem WK_j {v1 v2 v3 : Nat} (w : WK A R M) (hi : A 0 3 < 10) (h1 : v1 < A 0 2) (h2 : v2 < A 0 2) (h3 : v3 < A 0 2) : WK (jA A v1 v2 v3) R M := by
  obtain ⟨⟨w0, w1, w2, w3, w4, w5, w6, w7, w8⟩, wr, wm⟩ := w
  refine ⟨⟨w0, w1, w2, show A 0 3 + 1 ≤ 10 by omega, w4, w5, w6, fun k hk => ?_, w8⟩, wr, wm⟩
  have hk' : k < A 0 3 + 1 := hk
  show (if k = A 0 3 then v1 else A 2 k) < A 0 2 ∧ (if k = A 0 3 then v2 else A 3 k) < A 0 2 ∧ (if k = A 0 3 then v3 else A 4 k) < A 0 2
  by_cases e : k = A 0 3
  · rw [if_pos e, if_pos e, if_pos e]; exact ⟨h1, h2, h3⟩
  · rw [if_neg e, if_neg e, if_neg e]; exact w7 k (by omega)
def eA (A : Ab) (v1 v2 v3 : Nat) : Ab := fun x y => if x = 0 then (if y = 4 then A 0 4 + 1 else A 0 y) else if x = 5 then (if y = A 0 4 then v1 else A 5 y) else if x = 6 then (if y = A 0 4 then v2 else A 6 y) else if x = 7 then (if y = A 0 4 then v3 else A 7 y) else A x y
theorem KX_e {v1 v2 v3 : Nat} (x : KX h c A R M) (f : ∀ a j, c ≤ a → a ≤ c + 8 → (a ≠ c ∨ j ≠ 9) → (a < c + 5 ∨ c + 7 < a ∨ j ≠ A 0 4) → h' a j = h a j) (e0 : h' c 9 = nI (A 0 4 + 1)) (e1 : h' (c + 5) (A 0 4) = nI v1) (e2 : h' (c + 6) (A 0 4) = nI v2) (e3 : h' (c + 7) (A 0 4) = nI v3) : KX h' c (eA A v1 v2 v3) R M := by
  obtain ⟨⟨m0, m1, m2, m3, m4, m5, m6, m7, m8⟩, x1, x2, x3⟩ := x
  refine ⟨⟨by rw [f c 1 (by omega) (by omega) (by omega) (by omega)]; exact m0, by rw [f c 2 (by omega) (by omega) (by omega) (by omega)]; exact m1, by rw [f c 3 (by omega) (by omega) (by omega) (by omega)]; exact m2, by rw [f c 5 (by omega) (by omega) (by omega) (by omega)]; exact m3, e0, by rw [f c 14 (by omega) (by omega) (by omega) (by omega)]; exact m5, fun i hi => by rw [f (c + 1) i (by omega) (by omega) (by omega) (by omega)]; exact m6 i hi, fun k hk => by rw [f (c + 2) k (by omega) (by omega) (by omega) (by omega), f (c + 3) k (by omega) (by omega) (by omega) (by omega), f (c + 4) k (by omega) (by omega) (by omega) (by omega)]; exact m7 k hk, fun k hk => ?_⟩, by rw [f c 0 (by omega) (by omega) (by omega) (by omega)]; exact x1, by rw [f c 13 (by omega) (by omega) (by omega) (by omega)]; exact x2, fun t ht => by rw [f (c + 8) t (by omega) (by omega) (by omega) (by omega)]; exact x3 t ht⟩
  have hk' : k < A 0 4 + 1 := hk
  show h' (c + 5) k = nI (if k = A 0 4 then v1 else A 5 k) ∧ h' (c + 6) k = nI (if k = A 0 4 then v2 else A 6 k) ∧ h' (c + 7) k = nI (if k = A 0 4 then v3 else A 7 k)
  by_cases e : k = A 0 4
  · rw [if_pos e, if_pos e, if_pos e, e]; exact ⟨e1, e2, e3⟩
  · rw [if_neg e, if_neg e, if_neg e, f (c + 5) k (by omega) (by omega) (by omega) (by omega), f (c + 6) k (by omega) (by omega) (by omega) (by omega), f (c + 7) k (by omega) (by omega) (by omega) (by omega)]; exact m8 k (by omega)
theorem KM_e {v1 v2 v3 : Nat} (x : KM h A R M) (f : ∀ a j, (a = 84 ∧ 22 ≤ j ∧ j ≤ 33 ∨ 94 ≤ a ∧ a ≤ 102) → (a ≠ 84 ∨ j ≠ 28) → (a < 99 ∨ 101 < a ∨ j ≠ A 0 4) → h' a j = h a j) (e0 : h' 84 28 = nI (A 0 4 + 1)) (e1 : h' 99 (A 0 4) = nI v1) (e2 : h' 100 (A 0 4) = nI v2) (e3 : h' 101 (A 0 4) = nI v3) : KM h' (eA A v1 v2 v3) R M := by
  obtain ⟨a0, a1, a2, a3, a4, a5, a6, a7, a8, a9, a10⟩ := x
  refine ⟨by rw [f 94 0 (by omega) (by omega) (by omega)]; exact a0, by rw [f 94 1 (by omega) (by omega) (by omega)]; exact a1, by rw [f 84 22 (by omega) (by omega) (by omega)]; exact a2, by rw [f 84 24 (by omega) (by omega) (by omega)]; exact a3, e0, by rw [f 84 33 (by omega) (by omega) (by omega)]; exact a5, by rw [f 84 32 (by omega) (by omega) (by omega)]; exact a6, fun i hi => by rw [f 95 i (by omega) (by omega) (by omega)]; exact a7 i hi, fun k hk => by rw [f 96 k (by omega) (by omega) (by omega), f 97 k (by omega) (by omega) (by omega), f 98 k (by omega) (by omega) (by omega)]; exact a8 k hk, fun k hk => ?_, fun t ht => by rw [f 102 t (by omega) (by omega) (by omega)]; exact a10 t ht⟩
  have hk' : k < A 0 4 + 1 := hk
  show h' 99 k = nI (if k = A 0 4 then v1 else A 5 k) ∧ h' 100 k = nI (if k = A 0 4 then v2 else A 6 k) ∧ h' 101 k = nI (if k = A 0 4 then v3 else A 7 k)
  by_cases e : k = A 0 4
  · rw [if_pos e, if_pos e, if_pos e, e]; exact ⟨e1, e2, e3⟩
  · rw [if_neg e, if_neg e, if_neg e, f 99 k (by omega) (by omega) (by omega), f 100 k (by omega) (by omega) (by omega), f 101 k (by omega) (by omega) (by omega)]; exact a9 k (by omega)
theorem WK_e {v1 v2 v3 : Nat} (w : WK A R M) (hi : A 0 4 < 10) (h1 : v1 < A 0 2) (h2 : v2 < A 0 2) (h3 : 1 ≤ v3) (h4 : v3 ≤ 99) : WK (eA A v1 v2 v3) R M := by
  obtain ⟨⟨w0, w1, w2, w3, w4, w5, w6, w7, w8⟩, wr, wm⟩ := w
  refine ⟨⟨w0, w1, w2, w3, show A 0 4 + 1 ≤ 10 by omega, w5, w6, w7, fun k hk => ?_⟩, wr, wm⟩
  have hk' : k < A 0 4 + 1 := hk
  show (if k = A 0 4 then v1 else A 5 k) < A 0 2 ∧ (if k = A 0 4 then v2 else A 6 k) < A 0 2 ∧ 1 ≤ (if k = A 0 4 then v3 else A 7 k) ∧ (if k = A 0 4 then v3 else A 7 k) ≤ 99
  by_cases e : k = A 0 4
  · rw [if_pos e, if_pos e, if_pos e]; exact ⟨h1, h2, h3, h4⟩
  · rw [if_neg e, if_neg e, if_neg e]; exact w8 k (by omega)
def tA (A : Ab) : Ab := fun x y => if x = 0 then (if y = 5 then A 0 5 + 1 else A 0 y) else A x y
theorem KX_r {v : Nat} (x : KX h c A R M) (f : ∀ a j, c ≤ a → a ≤ c + 8 → (a ≠ c ∨ j ≠ 14) → (a ≠ c + 8 ∨ j ≠ A 0 5) → h' a j = h a j) (e0 : h' c 14 = nI (A 0 5 + 1)) (e1 : h' (c + 8) (A 0 5) = nI v) : KX h' c (tA A) R (uB M (A 0 5) v) := by
  obtain ⟨⟨m0, m1, m2, m3, m4, m5, m6, m7, m8⟩, x1, x2, x3⟩ := x
  refine ⟨⟨by rw [f c 1 (by omega) (by omega) (by omega) (by omega)]; exact m0, by rw [f c 2 (by omega) (by omega) (by omega) (by omega)]; exact m1, by rw [f c 3 (by omega) (by omega) (by omega) (by omega)]; exact m2, by rw [f c 5 (by omega) (by omega) (by omega) (by omega)]; exact m3, by rw [f c 9 (by omega) (by omega) (by omega) (by omega)]; exact m4, e0, fun i hi => by rw [f (c + 1) i (by omega) (by omega) (by omega) (by omega)]; exact m6 i hi, fun k hk => by rw [f (c + 2) k (by omega) (by omega) (by omega) (by omega), f (c + 3) k (by omega) (by omega) (by omega) (by omega), f (c + 4) k (by omega) (by omega) (by omega) (by omega)]; exact m7 k hk, fun k hk => by rw [f (c + 5) k (by omega) (by omega) (by omega) (by omega), f (c + 6) k (by omega) (by omega) (by omega) (by omega), f (c + 7) k (by omega) (by omega) (by omega) (by omega)]; exact m8 k hk⟩, by rw [f c 0 (by omega) (by omega) (by omega) (by omega)]; exact x1, by rw [f c 13 (by omega) (by omega) (by omega) (by omega)]; exact x2, fun t ht => ?_⟩
  have ht' : t < A 0 5 + 1 := ht
  by_cases e : t = A 0 5
  · rw [e, uB_s]; exact e1
  · rw [uB_n _ _ e, f (c + 8) t (by omega) (by omega) (by omega) (by omega)]; exact x3 t (by omega)
theorem KM_r {v : Nat} (x : KM h A R M) (f : ∀ a j, (a = 84 ∧ 22 ≤ j ∧ j ≤ 33 ∨ 94 ≤ a ∧ a ≤ 102) → (a ≠ 84 ∨ j ≠ 33) → (a ≠ 102 ∨ j ≠ A 0 5) → h' a j = h a j) (e0 : h' 84 33 = nI (A 0 5 + 1)) (e1 : h' 102 (A 0 5) = nI v) : KM h' (tA A) R (uB M (A 0 5) v) := by
  obtain ⟨a0, a1, a2, a3, a4, a5, a6, a7, a8, a9, a10⟩ := x
  refine ⟨by rw [f 94 0 (by omega) (by omega) (by omega)]; exact a0, by rw [f 94 1 (by omega) (by omega) (by omega)]; exact a1, by rw [f 84 22 (by omega) (by omega) (by omega)]; exact a2, by rw [f 84 24 (by omega) (by omega) (by omega)]; exact a3, by rw [f 84 28 (by omega) (by omega) (by omega)]; exact a4, e0, by rw [f 84 32 (by omega) (by omega) (by omega)]; exact a6, fun i hi => by rw [f 95 i (by omega) (by omega) (by omega)]; exact a7 i hi, fun k hk => by rw [f 96 k (by omega) (by omega) (by omega), f 97 k (by omega) (by omega) (by omega), f 98 k (by omega) (by omega) (by omega)]; exact a8 k hk, fun k hk => by rw [f 99 k (by omega) (by omega) (by omega), f 100 k (by omega) (by omega) (by omega), f 101 k (by omega) (by omega) (by omega)]; exact a9 k hk, fun t ht => ?_⟩
  have ht' : t < A 0 5 + 1 := ht
  by_cases e : t = A 0 5
  · rw [e, uB_s]; exact e1
  · rw [uB_n _ _ e, f 102 t (by omega) (by omega) (by omega)]; exact a10 t (by omega)
theorem WK_r {v : Nat} (w : WK A R M) (hi : A 0 5 < 5) (h1 : v < 2 ^ A 0 2) : WK (tA A) R (uB M (A 0 5) v) := by
  obtain ⟨⟨w0, w1, w2, w3, w4, w5, w6⟩, wr, wm⟩ := w
  refine ⟨⟨w0, w1, w2, w3, w4, show A 0 5 + 1 ≤ 5 by omega, w6⟩, wr, fun t ht => ?_⟩
  have ht' : t < A 0 5 + 1 := ht
  show uB M (A 0 5) v t < 2 ^ A 0 2
  by_cases e : t = A 0 5
  · rw [e, uB_s]; exact h1
  · rw [uB_n _ _ e]; exact wm t (by omega)
end KK
