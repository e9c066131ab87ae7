/-! the invariant: class half XS, model half NS, and the other groups -/
def XS (h : Mm) (A : Ab) (B : Nat → Nat) : Prop := WA A ∧ CX h (md_dx (h 0 7)) A ∧ TX h (md_dx (h 0 7)) A ∧ PX h 13 B ∧ WB A B
def NS (h : Mm) (A : Ab) (B : Nat → Nat) : Prop := WA A ∧ CM h A ∧ PM (h 92) 0 B ∧ WB A B
def HX (h : Mm) (n nx : Nat) (P : Nat → Nat → Nat) : Prop := n ≤ 20 ∧ nx < 20 ∧ h 15 1 = nI nx ∧ h 15 2 = nI n ∧ ∀ i, i < n → PX h (17 + 2 * ((nx + 19 - i) % 20)) (P i)
def HM (h : Mm) (n : Nat) (P : Nat → Nat → Nat) : Prop := h 84 35 = nI n ∧ ∀ i, i < n → PM (h 103) (9 * (n - 1 - i)) (P i)
def GP (h : Mm) (A : Ab) : Prop := ∃ n nx P, HX h n nx P ∧ HM h n P ∧ ∀ i, i < n → WB A (P i)
def GI1 (h : Mm) (A : Ab) (i : Nat) : Prop := (h 60 i = 0 ∧ h 112 i = 0) ∨ ∃ (I : Nat → Nat) (z : Nat), h 60 i = 1 ∧ h 112 i = 1 ∧ PX h (61 + 2 * i) I ∧ h 59 i = nI z ∧ PM (h 111) (10 * i) I ∧ h 111 (10 * i + 9) = nI z ∧ WB A I ∧ z < 2147483648
def GQ (h : Mm) : Prop := ∃ n Q, WQ n Q ∧ QX h n Q ∧ QY h n Q
def GT (h : Mm) : Prop := ∃ n, ∃ T : Nat → Nat, n ≤ 240 ∧ (∀ i, i < n → T i ≤ 255) ∧ h 1 1 = nI n ∧ h 84 16 = nI n ∧ ∀ i, i < n → h 2 i = nI (T i) ∧ h 93 i = nI (T i)
def GL (h : Mm) : Prop := ∃ z, z < 2147483648 ∧ h 0 8 = nI z ∧ h 84 14 = nI z
def SW (h : Mm) : Prop := h 0 7 = 0 ∧ h 1 6 = 1 ∨ h 0 7 = 1 ∧ h 1 6 = 0
def NB (h : Mm) (A : Ab) : Prop := h (md_dx (h 0 7)) 0 = nI (if A 0 0 = 0 then 0 else 1)
def GR (h : Mm) (A : Ab) : Prop := NB h A ∧ SW h ∧ GI1 h A 0 ∧ GI1 h A 1 ∧ GQ h ∧ BK h ∧ GT h ∧ h 1 2 = h 84 17
def Inv (h : Mm) : Prop := ∃ A B, QS h A B ∧ GP h A ∧ GL h ∧ GR h A
section IV
variable {h h' : Mm} {A : Ab} {B : Nat → Nat}
theorem QS_of (x : XS h A B) (m : NS h A B) : QS h A B := ⟨x.1, x.2.1, x.2.2.1, m.2.1, x.2.2.2.1, m.2.2.1, x.2.2.2.2⟩
theorem QS_x (q : QS h A B) : XS h A B := ⟨q.1, q.2.1, q.2.2.1, q.2.2.2.2.1, q.2.2.2.2.2.2⟩
theorem QS_m (q : QS h A B) : NS h A B := ⟨q.1, q.2.2.2.1, q.2.2.2.2.2.1, q.2.2.2.2.2.2⟩
theorem PX_t {p : Nat} (f : ∀ a j, (a = p ∨ a = p + 1) → h' a j = h a j) (x : PX h p B) : PX h' p B :=
  ⟨by rw [f p 1 (by omega)]; exact x.1, by rw [f p 2 (by omega)]; exact x.2.1, fun t ht => by rw [f (p + 1) t (by omega)]; exact x.2.2.1 t ht, by rw [f p 3 (by omega)]; exact x.2.2.2.1, by rw [f p 4 (by omega)]; exact x.2.2.2.2⟩
theorem PM_t {r r' : Nat → Int32} {o : Nat} (f : ∀ k, k < 9 → r' (o + k) = r (o + k)) (x : PM r o B) : PM r' o B := fun k hk => by rw [f k hk]; exact x k hk
theorem TX_t {c : Nat} (f : ∀ j, h' (c + 9) j = h (c + 9) j) (x : TX h c A) : TX h' c A := fun s hs => by rw [f s]; exact x s hs
theorem XS_t (f : ∀ a j, (a = 0 ∧ j = 7 ∨ 3 ≤ a ∧ a ≤ 14 ∨ 74 ≤ a ∧ a ≤ 83) → h' a j = h a j) (x : XS h A B) : XS h' A B := by
  obtain ⟨w, x, t, p, wb⟩ := x
  have hc := dx_c (h 0 7)
  have e : h' 0 7 = h 0 7 := f 0 7 (by omega)
  refine ⟨w, ?_, ?_, PX_t (fun a j _ => f a j (by omega)) p, wb⟩
  · rw [e]; exact CX_t (fun a j _ _ => f a j (by omega)) x
  · rw [e]; exact TX_t (fun j => f _ j (by omega)) t
theorem NS_t (f : ∀ a j, (a = 84 ∧ j ≤ 12 ∨ 85 ≤ a ∧ a ≤ 92) → h' a j = h a j) (x : NS h A B) : NS h' A B :=
  ⟨x.1, CM_t (fun a j _ => f a j (by omega)) x.2.1, PM_t (fun k _ => f 92 _ (by omega)) x.2.2.1, x.2.2.2⟩
theorem HX_t {n nx : Nat} {P : Nat → Nat → Nat} (f : ∀ a j, 15 ≤ a → a ≤ 56 → h' a j = h a j) (x : HX h n nx P) : HX h' n nx P := by
  obtain ⟨a1, a2, a3, a4, a5⟩ := x
  exact ⟨a1, a2, by rw [f 15 1 (by omega) (by omega)]; exact a3, by rw [f 15 2 (by omega) (by omega)]; exact a4, fun i hi => PX_t (fun a j _ => f a j (by omega) (by omega)) (a5 i hi)⟩
theorem HM_t {n : Nat} {P : Nat → Nat → Nat} (f : ∀ a j, (a = 84 ∧ j = 35 ∨ a = 103) → h' a j = h a j) (x : HM h n P) : HM h' n P :=
  ⟨by rw [f 84 35 (by omega)]; exact x.1, fun i hi => PM_t (fun k _ => f 103 _ (by omega)) (x.2 i hi)⟩
theorem GP_t (f : ∀ a j, (15 ≤ a ∧ a ≤ 56 ∨ a = 84 ∧ j = 35 ∨ a = 103) → h' a j = h a j) (x : GP h A) : GP h' A := by
  obtain ⟨n, nx, P, a1, a2, a3⟩ := x
  exact ⟨n, nx, P, HX_t (fun a j _ _ => f a j (by omega)) a1, HM_t (fun a j _ => f a j (by omega)) a2, a3⟩
theorem GL_t (f : ∀ a j, (a = 0 ∧ j = 8 ∨ a = 84 ∧ j = 14) → h' a j = h a j) (x : GL h) : GL h' := by
  obtain ⟨z, a1, a2, a3⟩ := x
  exact ⟨z, a1, by rw [f 0 8 (by omega)]; exact a2, by rw [f 84 14 (by omega)]; exact a3⟩
theorem GI1_t {i : Nat} (f : ∀ a j, (a = 60 ∧ j = i ∨ a = 112 ∧ j = i ∨ a = 61 + 2 * i ∨ a = 62 + 2 * i ∨ a = 59 ∧ j = i ∨ a = 111 ∧ 10 * i ≤ j ∧ j ≤ 10 * i + 9) → h' a j = h a j) (x : GI1 h A i) : GI1 h' A i := by
  rcases x with ⟨a1, a2⟩ | ⟨I, z, a1, a2, a3, a4, a5, a6, a7, a8⟩
  · exact .inl ⟨by rw [f 60 i (by omega)]; exact a1, by rw [f 112 i (by omega)]; exact a2⟩
  · exact .inr ⟨I, z, by rw [f 60 i (by omega)]; exact a1, by rw [f 112 i (by omega)]; exact a2, PX_t (fun a j _ => f a j (by omega)) a3, by rw [f 59 i (by omega)]; exact a4, PM_t (fun k _ => f 111 _ (by omega)) a5, by rw [f 111 _ (by omega)]; exact a6, a7, a8⟩
theorem GQ_t (f : ∀ a j, (a = 65 ∧ j = 4 ∨ 66 ≤ a ∧ a ≤ 68 ∨ a = 84 ∧ j = 38 ∨ 105 ≤ a ∧ a ≤ 107) → h' a j = h a j) (x : GQ h) : GQ h' := by
  obtain ⟨n, Q, w, x, y⟩ := x
  exact ⟨n, Q, w, ⟨by rw [f 65 4 (by omega)]; exact x.1, fun i hi => by rw [f 66 i (by omega), f 67 i (by omega), f 68 i (by omega)]; exact x.2 i hi⟩, by rw [f 84 38 (by omega)]; exact y.1, fun i hi => by rw [f 105 i (by omega), f 106 i (by omega), f 107 i (by omega)]; exact y.2 i hi⟩
theorem BK_t (f : ∀ a j, (a = 70 ∧ j = 2 ∨ 71 ≤ a ∧ a ≤ 72 ∨ a = 84 ∧ j = 43 ∨ 109 ≤ a ∧ a ≤ 110) → h' a j = h a j) (x : BK h) : BK h' := by
  obtain ⟨n, a1, a2, a3, a4⟩ := x
  exact ⟨n, a1, by rw [f 70 2 (by omega)]; exact a2, by rw [f 84 43 (by omega)]; exact a3, fun i hi => by rw [f 71 i (by omega), f 72 i (by omega), f 109 i (by omega), f 110 i (by omega)]; exact a4 i hi⟩
theorem GT_t (f : ∀ a j, (a = 1 ∧ j = 1 ∨ a = 2 ∨ a = 84 ∧ j = 16 ∨ a = 93) → h' a j = h a j) (x : GT h) : GT h' := by
  obtain ⟨n, T, a1, a2, a3, a4, a5⟩ := x
  exact ⟨n, T, a1, a2, by rw [f 1 1 (by omega)]; exact a3, by rw [f 84 16 (by omega)]; exact a4, fun i hi => by rw [f 2 i (by omega), f 93 i (by omega)]; exact a5 i hi⟩
theorem SW_t (f : ∀ a j, (a = 0 ∧ j = 7 ∨ a = 1 ∧ j = 6) → h' a j = h a j) (x : SW h) : SW h' := by
  unfold SW
  rw [f 0 7 (by omega), f 1 6 (by omega)]
  exact x
theorem NB_t (f : ∀ a j, (a = 0 ∧ j = 7 ∨ (a = 3 ∨ a = 74) ∧ j = 0) → h' a j = h a j) (x : NB h A) : NB h' A := by
  unfold NB
  have hc := dx_c (h 0 7)
  rw [f 0 7 (by omega), f _ 0 (by omega)]
  exact x
/-- what a call on the post leaves -/
theorem GR_p (f : ∀ a j, (a < 13 ∨ 56 < a) → (a ≠ 0 ∨ j ≠ 8) → (a ≠ 84 ∨ j ≠ 14) → (a ≠ 84 ∨ j ≠ 35) → a ≠ 92 → a ≠ 103 → h' a j = h a j) (x : GR h A) : GR h' A := by
  obtain ⟨a1, a2, a3, a4, a5, a6, a7, a8⟩ := x
  exact ⟨NB_t (fun a j _ => f a j (by omega) (by omega) (by omega) (by omega) (by omega) (by omega)) a1, SW_t (fun a j _ => f a j (by omega) (by omega) (by omega) (by omega) (by omega) (by omega)) a2, GI1_t (fun a j _ => f a j (by omega) (by omega) (by omega) (by omega) (by omega) (by omega)) a3, GI1_t (fun a j _ => f a j (by omega) (by omega) (by omega) (by omega) (by omega) (by omega)) a4, GQ_t (fun a j _ => f a j (by omega) (by omega) (by omega) (by omega) (by omega) (by omega)) a5, BK_t (fun a j _ => f a j (by omega) (by omega) (by omega) (by omega) (by omega) (by omega)) a6, GT_t (fun a j _ => f a j (by omega) (by omega) (by omega) (by omega) (by omega) (by omega)) a7, by rw [f 1 2 (by omega) (by omega) (by omega) (by omega) (by omega) (by omega), f 84 17 (by omega) (by omega) (by omega) (by omega) (by omega) (by omega)]; exact a8⟩
/-- scratch cells don't matter -/
theorem Inv_s (f : ∀ a j, (a ≠ 65 ∨ j ≤ 4) → a ≠ 69 → a ≠ 73 → a ≠ 104 → a ≠ 108 → h' a j = h a j) (x : Inv h) : Inv h' := by
  obtain ⟨A, B, q, p, l, a1, a2, a3, a4, a5, a6, a7, a8⟩ := x
  refine ⟨A, B, QS_of (XS_t (fun a j _ => f a j (by omega) (by omega) (by omega) (by omega) (by omega)) (QS_x q)) (NS_t (fun a j _ => f a j (by omega) (by omega) (by omega) (by omega) (by omega)) (QS_m q)), GP_t (fun a j _ => f a j (by omega) (by omega) (by omega) (by omega) (by omega)) p, GL_t (fun a j _ => f a j (by omega) (by omega) (by omega) (by omega) (by omega)) l, NB_t (fun a j _ => f a j (by omega) (by omega) (by omega) (by omega) (by omega)) a1, SW_t (fun a j _ => f a j (by omega) (by omega) (by omega) (by omega) (by omega)) a2, GI1_t (fun a j _ => f a j (by omega) (by omega) (by omega) (by omega) (by omega)) a3, GI1_t (fun a j _ => f a j (by omega) (by omega) (by omega) (by omega) (by omega)) a4, GQ_t (fun a j _ => f a j (by omega) (by omega) (by omega) (by omega) (by omega)) a5, BK_t (fun a j _ => f a j (by omega) (by omega) (by omega) (by omega) (by omega)) a6, GT_t (fun a j _ => f a j (by omega) (by omega) (by omega) (by omega) (by omega)) a7, ?_⟩
  rw [f 1 2 (by omega) (by omega) (by omega) (by omega) (by omega), f 84 17 (by omega) (by omega) (by omega) (by omega) (by omega)]
  exact a8
/-! the two halves' functions -/
theorem xs_in (x : XS h A B) : fX7_inTheCountry h = some (nI (clo A (B 0))) := by
  rw [fX7_inTheCountry, x.2.2.2.1.1, xz_allFrom x.1 x.2.1 x.2.2.1 x.2.2.2.2.1, bd_s]
theorem xs_mind (x : XS h A B) {t : Nat} (ht : t < 5) : fX4_mindOf h 13 (nI t) = some (nI (B (2 + t))) := by
  rw [fX4_mindOf, if_neg (nI_pos (by omega)), show (5 : Int32) = nI 5 from rfl, if_neg (by rw [n_le (by omega) (by omega)]; omega), in_t (by omega) (by omega), ck_t, bd_s, nI_c (by omega), x.2.2.2.1.2.2.1 t ht]
theorem xs_gone (x : XS h A B) {t : Nat} (ht : t < 31) : fX4_isGone h 13 (nI t) = some ((B 1).testBit t) := by
  rw [fX4_isGone, x.2.2.2.1.2.1]
  simp only [n_bit (s := B 1) (i := t) ht]
  cases (B 1).testBit t <;> rfl
theorem xs_duty (x : XS h A B) {t : Nat} (ht : t < 5) : fX7_dutyOf h (nI t) = some (nI (dZ A (B (2 + t)) (clo A (B 0)))) := by
  rw [fX7_dutyOf, xs_mind x ht, bd_s, xs_in x, bd_s]
  obtain ⟨w, x, tt, p, wb⟩ := x
  rw [xz_duty w x tt (wb.2.2.1 t ht) (clo_lt w wb.1), bd_s]
theorem xs_stuck (x : XS h A B) {s : Nat} (hs : s < 2 ^ A 0 2) : fX1_isStuck h (md_dx (h 0 7)) (nI s) = some (decide (A 0 0 < sZ A s)) := xq_stuckc x.1 x.2.1 hs
theorem ms_now (m : NS h A B) {k : Nat} (hk : k < 9) : h 92 k = nI (B k) := by
  have := m.2.2.1 k hk
  rwa [Nat.zero_add] at this
theorem ms_cl0 (m : NS h A B) : fX8_close h (h 92 0) = some (nI (clo A (B 0))) := by
  rw [ms_now m (k := 0) (by omega), mz_close m.1 m.2.1 m.2.2.2.1]
theorem ms_gone (m : NS h A B) {t : Nat} (ht : t < 31) : fX8_isGone h (nI t) = some ((B 1).testBit t) := by
  have := g31 m.1 m.2.2.2.2.1
  rw [fX8_isGone, in_1, ck_t, c_1, ms_now m (k := 1) (by omega), has_iff (by omega) ht, bd_s]
theorem ms_owed (m : NS h A B) {s : Nat} (hs : s < 2 ^ A 0 2) : fX8_owedFor h (nI s) = some (nI (dZ A s (clo A (B 0)))) := by
  rw [fX8_owedFor, in_0, ck_t, c_0, ms_cl0 m, bd_s, mz_owedWhere m.1 m.2.1 hs (clo_lt m.1 m.2.2.2.1), bd_s]
theorem ms_stuck (m : NS h A B) {t : Nat} (ht : t < 5) : fX8_isStuck h (nI t) = some (decide (A 0 0 < sZ A (B (2 + t)))) := by
  have h0 := ms_now m (k := 2 + t) (by omega)
  obtain ⟨w, m, pm, wb⟩ := m
  have hs := wb.2.2.1 t ht
  have h1 := sZ_le w (B (2 + t))
  have h2 := w.1
  rw [fX8_isStuck, in_2t (by omega), ck_t, cl_2t (by omega), h0, mz_sizeOf w m (p31 w.2.2.1 hs), bd_s, m.1]
  simp only [n_le (show sZ A (B (2 + t)) < 1000000001 by omega) (show A 0 0 < 1000000001 by omega)]
  by_cases hc : sZ A (B (2 + t)) ≤ A 0 0
  · rw [if_pos hc, bd_s, decide_eq_false (by omega)]
  · rw [if_neg hc, bd_s, decide_eq_true (by omega)]
end IV
