theorem lst (f : Nat → Nat) (p : Nat → Prop) : ∀ b v, p v → f v ≤ b → ∃ u, p u ∧ ∀ x, p x → f u ≤ f x := by
  intro b
  induction b with
  | zero => intro v hv hb; exact ⟨v, hv, fun x _ => by omega⟩
  | succ b ih =>
    intro v hv hb
    by_cases h : ∃ x, p x ∧ f x ≤ b
    · obtain ⟨x, h1, h2⟩ := h; exact ih x h1 h2
    · exact ⟨v, hv, fun x hx => by
        rcases Nat.lt_or_ge b (f x) with q | q
        · omega
        · exact absurd ⟨x, hx, q⟩ h⟩
theorem settle {A : Ab} (w : WA A) {t : Nat} {F D : Dv} (c : clF A F) (jF : JD A t F) (jD : JD A t D) (lo : ∀ v, F v ≤ D v) {v : Nat} (hv : D v ≠ F v) : ∃ u, D u ≠ F u ∧ pa A D u = F u := by
  obtain ⟨u, hu, hm⟩ := lst F (fun x => D x ≠ F x) (F v) v hv (Nat.le_refl _)
  refine ⟨u, hu, ?_⟩
  have h1 := lo u
  have h2 := jD.2.1 u
  have h3 := ps_low c (A 0 4) 0 D (by omega) lo u
  rcases jF.2.2 u (by omega) with e | ⟨k, k1, k2, k3⟩
  · subst e; exact absurd (by rw [jD.1, jF.1]) hu
  · have hw := w.2.2.2.2.2.2.2.2 k k1
    have e : D (A 6 k) = F (A 6 k) := by
      apply Classical.byContradiction
      intro hne
      have := hm _ hne
      omega
    have h4 := ps_at A (A 0 4) 0 D k (by omega) (by omega)
    rw [k2, e] at h4
    unfold pa
    omega
theorem itp_s (A : Ab) : ∀ r D, itp A (r + 1) D = pa A (itp A r D) := by
  intro r
  induction r with
  | zero => intro D; rfl
  | succ r ih => intro D; rw [itp, ih (pa A D), itp]
theorem itp_J {A : Ab} (w : WA A) {t : Nat} : ∀ r (D : Dv), JD A t D → JD A t (itp A r D) := by
  intro r
  induction r with
  | zero => intro D j; exact j
  | succ r ih => intro D j; rw [itp]; exact ih _ (ps_J w _ _ _ (by omega) j)
theorem itp_low {A : Ab} {F : Dv} (c : clF A F) : ∀ r (D : Dv), (∀ v, F v ≤ D v) → ∀ v, F v ≤ itp A r D v := by
  intro r
  induction r with
  | zero => intro D j; exact j
  | succ r ih => intro D j; rw [itp]; exact ih _ (ps_low c _ _ _ (by omega) j)
theorem itp_le (A : Ab) : ∀ r (D : Dv) v, itp A r D v ≤ D v := by
  intro r
  induction r with
  | zero => intro D v; exact Nat.le_refl _
  | succ r ih => intro D v; rw [itp]; exact Nat.le_trans (ih _ v) (ps_le A _ _ D v)
theorem itp_out {A : Ab} (w : WA A) : ∀ r (D : Dv) v, A 0 2 ≤ v → itp A r D v = D v := by
  intro r
  induction r with
  | zero => intro D v _; rfl
  | succ r ih => intro D v hv; rw [itp, ih _ v hv]; exact ps_out w _ _ _ _ (by omega) hv
def sm (D : Dv) : Nat → Nat
  | 0 => 0
  | n + 1 => sm D n + D n
theorem sm_le {D E : Dv} (h : ∀ v, D v ≤ E v) : ∀ n, sm D n ≤ sm E n := by
  intro n
  induction n with
  | zero => exact Nat.le_refl _
  | succ n ih => rw [sm, sm]; have := h n; omega
theorem sm_lt {D E : Dv} (h : ∀ v, D v ≤ E v) {u : Nat} (hu : D u < E u) : ∀ n, u < n → sm D n < sm E n := by
  intro n
  induction n with
  | zero => intro q; omega
  | succ n ih =>
    intro q
    rw [sm, sm]
    rcases Nat.eq_or_lt_of_le (Nat.le_of_lt_succ q) with e | e
    · subst e; have := sm_le h u; omega
    · have := ih e; have := h n; omega
theorem lim {A : Ab} (w : WA A) : ∀ b (D : Dv), sm D 8 ≤ b → ∃ r, pa A (itp A r D) = itp A r D := by
  intro b
  induction b with
  | zero =>
    intro D hb
    refine ⟨0, ?_⟩
    apply Classical.byContradiction
    intro hne
    have : ∃ v, pa A D v ≠ D v := Classical.byContradiction fun q => hne (funext fun v => Classical.byContradiction fun e => q ⟨v, e⟩)
    obtain ⟨v, hv⟩ := this
    have h1 := ps_le A (A 0 4) 0 D v
    have h8 := w.2.2.1
    rcases Nat.lt_or_ge v (A 0 2) with q | q
    · have := sm_lt (fun v => ps_le A (A 0 4) 0 D v) (u := v) (Nat.lt_of_le_of_ne h1 hv) 8 (by omega)
      omega
    · exact hv (ps_out w _ _ _ _ (by omega) q)
  | succ b ih =>
    intro D hb
    by_cases hne : pa A D = D
    · exact ⟨0, hne⟩
    · have : ∃ v, pa A D v ≠ D v := Classical.byContradiction fun q => hne (funext fun v => Classical.byContradiction fun e => q ⟨v, e⟩)
      obtain ⟨v, hv⟩ := this
      have h1 := ps_le A (A 0 4) 0 D v
      have h8 := w.2.2.1
      rcases Nat.lt_or_ge v (A 0 2) with q | q
      · have := sm_lt (fun v => ps_le A (A 0 4) 0 D v) (u := v) (Nat.lt_of_le_of_ne h1 hv) 8 (by omega)
        obtain ⟨r, hr⟩ := ih (pa A D) (by unfold pa; omega)
        exact ⟨r + 1, hr⟩
      · exact absurd (ps_out w _ _ _ _ (by omega) q) hv
def D0 (t : Nat) : Dv := fun v => if v = t then 0 else 1000000
theorem D0_J (A : Ab) (t : Nat) : JD A t (D0 t) := by
  refine ⟨if_pos rfl, fun v => ?_, fun v hv => ?_⟩
  · unfold D0; split <;> omega
  · left
    apply Classical.byContradiction
    intro e
    unfold D0 at hv
    rw [if_neg e] at hv
    omega
def un (F D : Dv) : Nat → Bool := fun v => decide (D v ≠ F v)
theorem cnt_r {A : Ab} (w : WA A) {t : Nat} {F : Dv} (c : clF A F) (jF : JD A t F) : ∀ r (D : Dv), JD A t D → (∀ v, F v ≤ D v) → (∀ v, A 0 2 ≤ v → D v = F v) → cq (un F (itp A r D)) (A 0 2) ≤ cq (un F D) (A 0 2) - r := by
  intro r
  induction r with
  | zero => intro D _ _ _; exact Nat.le_refl _
  | succ r ih =>
    intro D jD lo ou
    have lo' := ps_low c (A 0 4) 0 D (by omega) lo
    have h1 := ih (pa A D) (ps_J w _ _ _ (by omega) jD) lo' (fun v hv => (ps_out w _ _ _ _ (by omega) hv).trans (ou v hv))
    rw [itp]
    have mono : ∀ v, un F (pa A D) v = true → un F D v = true := by
      intro v hv
      have hv' : pa A D v ≠ F v := of_decide_eq_true hv
      refine decide_eq_true fun e => hv' ?_
      have h2 := lo' v
      have h3 := ps_le A (A 0 4) 0 D v
      unfold pa at hv' ⊢
      omega
    rcases Nat.eq_zero_or_pos (cq (un F D) (A 0 2)) with z | z
    · have := cq_le mono (A 0 2)
      omega
    · have : ∃ v, D v ≠ F v := by
        apply Classical.byContradiction
        intro q
        have : ∀ n, cq (un F D) n = 0 := by
          intro n
          induction n with
          | zero => rfl
          | succ n ihn => rw [cq, ihn, show un F D n = false from decide_eq_false fun e => q ⟨n, e⟩]; rfl
        rw [this] at z
        omega
      obtain ⟨v, hv⟩ := this
      obtain ⟨u, u1, u2⟩ := settle w c jF jD lo hv
      have hu : u < A 0 2 := by
        rcases Nat.lt_or_ge u (A 0 2) with q | q
        · exact q
        · exact absurd (ou u q) u1
      have := cq_lt mono (u := u) (decide_eq_false fun e => e u2) (decide_eq_true u1) (A 0 2) hu
      omega
theorem bell {A : Ab} (w : WA A) {t : Nat} (ht : t < A 0 2) : pa A (itp A (A 0 2 - 1) (D0 t)) = itp A (A 0 2 - 1) (D0 t) := by
  obtain ⟨R, hR⟩ := lim w (sm (D0 t) 8) (D0 t) (Nat.le_refl _)
  have c := pa_fix hR
  have jF := itp_J w R (D0 t) (D0_J A t)
  have lo := itp_le A R (D0 t)
  have ou : ∀ v, A 0 2 ≤ v → D0 t v = itp A R (D0 t) v := fun v hv => (itp_out w R _ v hv).symm
  have h1 := cnt_r w c jF (A 0 2 - 1) (D0 t) (D0_J A t) lo ou
  have h2 : cq (un (itp A R (D0 t)) (D0 t)) (A 0 2) ≤ A 0 2 - 1 := by
    have h3 : cq (un (itp A R (D0 t)) (D0 t)) (A 0 2) < cq (fun _ => true) (A 0 2) := cq_lt (fun _ _ => rfl) (u := t) (decide_eq_false fun e => e (by rw [(D0_J A t).1, jF.1])) rfl _ ht
    have h4 := cq_top (fun _ => true) (A 0 2)
    omega
  have e : itp A (A 0 2 - 1) (D0 t) = itp A R (D0 t) := by
    funext v
    rcases Nat.lt_or_ge v (A 0 2) with q | q
    · have := cq_0 (p := un (itp A R (D0 t)) (itp A (A 0 2 - 1) (D0 t))) (A 0 2) (by omega) v q
      exact Classical.byContradiction fun e => of_decide_eq_false this e
    · rw [itp_out w _ _ v q, itp_out w _ _ v q]
  rw [e]
  exact hR
