theorem u_ss (h : Mm) (k j : Nat) (v : Int32) : md_up h k j v k j = v := by rw [up_s, pk_us]
theorem u_sn (h : Mm) (k : Nat) {i j : Nat} (v : Int32) (e : i ≠ j) : md_up h k j v k i = h k i := by rw [up_s, pk_un e]
theorem u_nn (h : Mm) {k a : Nat} (j i : Nat) (v : Int32) (e : a ≠ k) : md_up h k j v a i = h a i := by rw [up_n h j v e]
def cN (P : Nat → Bool) : Nat → Nat
  | 0 => 0
  | i + 1 => cN P i + if P i then 1 else 0
def f1 (P : Nat → Bool) : Nat → Int32
  | 0 => -1
  | i + 1 => if P i then (if cN P i = 0 then nI i else f1 P i) else f1 P i
def aN (P : Nat → Bool) : Nat → Nat
  | 0 => 0
  | i + 1 => if P i then (if cN P i = 0 then i else aN P i &&& i) else aN P i
def iN (P : Nat → Bool) (j : Nat) : Nat → Nat
  | 0 => 0
  | i + 1 => iN P j i + if P i then i / 2 ^ j % 2 else 0
theorem cN_le (P : Nat → Bool) : ∀ i, cN P i ≤ i := by
  intro i
  induction i with
  | zero => exact Nat.le_refl _
  | succ i ih => rw [cN]; split <;> omega
theorem iN_le (P : Nat → Bool) (j : Nat) : ∀ i, iN P j i ≤ cN P i := by
  intro i
  induction i with
  | zero => exact Nat.le_refl _
  | succ i ih =>
    rw [iN, cN]
    have := Nat.mod_lt (i / 2 ^ j) (show 0 < 2 by decide)
    split <;> omega
theorem ci_loop {m : Nat} (hm : m < 256) : ∀ k i (h : Mm) F, i + k = 8 → k < F → ∃ h' : Mm, fX5_countIdeas_2 F h (nI m) (nI i) = some h' ∧ (∀ a, a ≠ 69 → h' a = h a) ∧ (∀ j, j < i → h' 69 j = h 69 j) ∧ (∀ j, i ≤ j → j < 8 → h' 69 j = h 69 j + nI (m / 2 ^ j % 2)) := by
  intro k
  induction k with
  | zero =>
    intro i h F hi hF
    obtain ⟨F, rfl⟩ : ∃ G, F = G + 1 := ⟨F - 1, by omega⟩
    have hc : (8 : Int32) ≤ nI i := by rw [show (8 : Int32) = nI 8 from rfl, n_le (by omega) (by omega)]; omega
    rw [fX5_countIdeas_2, if_pos hc]
    exact ⟨h, rfl, fun _ _ => rfl, fun _ _ => rfl, fun j h1 h2 => by omega⟩
  | succ k ih =>
    intro i h F hi hF
    obtain ⟨F, rfl⟩ : ∃ G, F = G + 1 := ⟨F - 1, by omega⟩
    have hc : ¬ (8 : Int32) ≤ nI i := by rw [show (8 : Int32) = nI 8 from rfl, n_le (by omega) (by omega)]; omega
    rw [fX5_countIdeas_2, if_neg hc, in_t (by omega) (by omega), ck_t, ck_t, lt_e, nI_c (by omega), n_shr (show m < 2 ^ 31 by omega) (by omega), n_and1, nI_1]
    obtain ⟨h', e1, e2, e3, e4⟩ := ih (i + 1) (md_up h 69 i (h 69 i + nI (m / 2 ^ i % 2))) F (by omega) (by omega)
    refine ⟨h', e1, fun a ha => by rw [e2 a ha, up_n _ _ _ ha], fun j hj => by rw [e3 j (by omega), u_sn _ _ _ (by omega)], fun j h1 h2 => ?_⟩
    rcases Nat.eq_or_lt_of_le h1 with e | e
    · subst e; rw [e3 i (by omega), u_ss]
    · rw [e4 j e h2, u_sn _ _ _ (by omega)]
theorem lz_loop (l1 : Int32) : ∀ k i (h : Mm) F, i + k = 8 → k < F → ∃ h' : Mm, fX5_look_17 F h l1 (nI i) = some h' ∧ (∀ a, a ≠ 69 → h' a = h a) ∧ (∀ j, j < i → h' 69 j = h 69 j) ∧ (∀ j, i ≤ j → j < 8 → h' 69 j = 0) := by
  intro k
  induction k with
  | zero =>
    intro i h F hi hF
    obtain ⟨F, rfl⟩ : ∃ G, F = G + 1 := ⟨F - 1, by omega⟩
    have hc : (8 : Int32) ≤ nI i := by rw [show (8 : Int32) = nI 8 from rfl, n_le (by omega) (by omega)]; omega
    rw [fX5_look_17, if_pos hc]
    exact ⟨h, rfl, fun _ _ => rfl, fun _ _ => rfl, fun j h1 h2 => by omega⟩
  | succ k ih =>
    intro i h F hi hF
    obtain ⟨F, rfl⟩ : ∃ G, F = G + 1 := ⟨F - 1, by omega⟩
    have hc : ¬ (8 : Int32) ≤ nI i := by rw [show (8 : Int32) = nI 8 from rfl, n_le (by omega) (by omega)]; omega
    rw [fX5_look_17, if_neg hc, in_t (by omega) (by omega), ck_t, lt_e, nI_c (by omega), nI_1]
    obtain ⟨h', e1, e2, e3, e4⟩ := ih (i + 1) (md_up h 69 i 0) F (by omega) (by omega)
    refine ⟨h', e1, fun a ha => by rw [e2 a ha, up_n _ _ _ ha], fun j hj => by rw [e3 j (by omega), u_sn _ _ _ (by omega)], fun j h1 h2 => ?_⟩
    rcases Nat.eq_or_lt_of_le h1 with e | e
    · subst e; rw [e3 i (by omega), u_ss]
    · rw [e4 j e h2]
def LkS (P : Nat → Bool) (i : Nat) (h : Mm) : Prop := h 65 5 = nI (cN P i) ∧ h 65 6 = f1 P i ∧ h 65 7 = nI (aN P i) ∧ ∀ j, j < 8 → h 69 j = nI (iN P j i)
def FL (h h' : Mm) : Prop := (∀ a, a ≠ 65 → a ≠ 69 → h' a = h a) ∧ (∀ j, j < 5 → h' 65 j = h 65 j)
theorem FL_q {h h' : Mm} (f : FL h h') {n : Nat} {Q : Ab} (x : QX h n Q) : QX h' n Q := by
  refine ⟨by rw [f.2 4 (by omega)]; exact x.1, fun i hi => ?_⟩
  rw [f.1 66 (by omega) (by omega), f.1 67 (by omega) (by omega), f.1 68 (by omega) (by omega)]
  exact x.2 i hi
theorem lk_loop {n N : Nat} {Q : Ab} (w : WQ n Q) (hN : N ≤ 256) : ∀ k i (h : Mm) F, i + k = N → k < F → QX h n Q → LkS (ft Q n) i h → ∃ h' : Mm, fX5_look_42 F h (nI N) (nI i) = some h' ∧ FL h h' ∧ LkS (ft Q n) N h' := by
  intro k
  induction k with
  | zero =>
    intro i h F hi hF x l
    obtain ⟨F, rfl⟩ : ∃ G, F = G + 1 := ⟨F - 1, by omega⟩
    obtain rfl : i = N := by omega
    rw [fX5_look_42, if_pos ((n_le (by omega) (by omega)).mpr (by omega))]
    exact ⟨h, rfl, ⟨fun _ _ _ => rfl, fun _ _ => rfl⟩, l⟩
  | succ k ih =>
    intro i h F hi hF x l
    obtain ⟨F, rfl⟩ : ∃ G, F = G + 1 := ⟨F - 1, by omega⟩
    have hcn := cN_le (ft Q n) i
    rw [fX5_look_42, if_neg (by rw [n_le (by omega) (by omega)]; omega), xz_fits w x (by omega), bd_s, nI_1]
    cases hP : ft Q n i
    · rw [if_neg (by decide), bd_s]
      refine ih (i + 1) h F (by omega) (by omega) x ?_
      refine ⟨?_, ?_, ?_, fun j hj => ?_⟩
      · rw [cN, hP]; exact l.1
      · rw [f1, hP]; exact l.2.1
      · rw [aN, hP]; exact l.2.2.1
      · rw [iN, hP]; exact l.2.2.2 j hj
    · rw [if_pos rfl, l.1, l.2.1]
      have key : ∀ (v10 v13 : Int32), v10 = f1 (ft Q n) (i + 1) → v13 = nI (aN (ft Q n) (i + 1)) → ∀ h15 : Mm, h15 = md_up (md_up h 65 6 v10) 65 7 v13 → ∃ h', (md_bd (md_lt (md_up h15 65 5 (h15 65 5 + (1 : Int32))) (fun h_16 : Mm => md_bd (fX5_countIdeas h_16 (nI i)) (fun h_17 => some h_17))) (fun (h_8 : Mm) => fX5_look_42 F h_8 (nI N) (nI (i + 1)))) = some h' ∧ FL h h' ∧ LkS (ft Q n) N h' := by
        intro v10 v13 e10 e13 h15 e15
        subst e15
        rw [lt_e]
        generalize hg : md_up (md_up (md_up h 65 6 v10) 65 7 v13) 65 5 (md_up (md_up h 65 6 v10) 65 7 v13 65 5 + (1 : Int32)) = g
        obtain ⟨g', c1, c2, c3, c4⟩ := ci_loop (m := i) (by omega) 8 0 g md_N (by omega) (by unfold md_N; omega)
        have hgo : ∀ a, a ≠ 65 → g a = h a := fun a ha => by rw [← hg, up_n _ _ _ ha, up_n _ _ _ ha, up_n _ _ _ ha]
        have hg4 : ∀ j, j < 5 → g 65 j = h 65 j := fun j hj => by rw [← hg, u_sn _ _ _ (by omega), u_sn _ _ _ (by omega), u_sn _ _ _ (by omega)]
        have fl : FL h g' := ⟨fun a h1 h2 => by rw [c2 a h2, hgo a h1], fun j hj => by rw [c2 65 (by omega), hg4 j hj]⟩
        rw [fX5_countIdeas, show (0 : Int32) = nI 0 from rfl, c1, bd_s, bd_s, bd_s]
        obtain ⟨h', d1, d2, d3⟩ := ih (i + 1) g' F (by omega) (by omega) (FL_q fl x) ⟨by
          rw [c2 65 (by omega), ← hg, u_ss, u_sn _ _ _ (by omega), u_sn _ _ _ (by omega), l.1, cN, hP, show (1 : Int32) = nI 1 from rfl, nI_add]; rfl, by
          rw [c2 65 (by omega), ← hg, u_sn _ _ _ (by omega), u_sn _ _ _ (by omega), u_ss, e10], by
          rw [c2 65 (by omega), ← hg, u_sn _ _ _ (by omega), u_ss, e13], fun j hj => by
          rw [c4 j (by omega) hj, hgo 69 (by omega), l.2.2.2 j hj, nI_add, iN, hP]; rfl⟩
        exact ⟨h', d1, ⟨fun a h1 h2 => by rw [d2.1 a h1 h2, fl.1 a h1 h2], fun j hj => by rw [d2.2 j hj, fl.2 j hj]⟩, d3⟩
      have e65 : ∀ v : Int32, md_up h 65 6 v 65 5 = nI (cN (ft Q n) i) := fun v => by rw [u_sn _ _ _ (by omega), l.1]
      have e67 : ∀ v : Int32, md_up h 65 6 v 65 7 = nI (aN (ft Q n) i) := fun v => by rw [u_sn _ _ _ (by omega), l.2.2.1]
      rw [show (0 : Int32) = nI 0 from rfl]
      simp only [n_eq (show cN (ft Q n) i < 1000000001 by omega) (show 0 < 1000000001 by omega)]
      by_cases hz : cN (ft Q n) i = 0
      · rw [if_pos hz, bd_s, lt_e, e65]
        simp only [n_eq (show cN (ft Q n) i < 1000000001 by omega) (show 0 < 1000000001 by omega)]
        rw [if_pos hz, bd_s, lt_e]
        exact key _ _ (by rw [f1, hP, if_pos rfl, if_pos hz]) (by rw [aN, hP, if_pos rfl, if_pos hz]) _ rfl
      · rw [if_neg hz, bd_s, lt_e, e65]
        simp only [n_eq (show cN (ft Q n) i < 1000000001 by omega) (show 0 < 1000000001 by omega)]
        rw [if_neg hz, bd_s, lt_e, e67, n_and]
        exact key _ _ (by rw [f1, hP, if_pos rfl, if_neg hz]) (by rw [aN, hP, if_pos rfl, if_neg hz]) _ rfl
theorem xz_look {h : Mm} {n I : Nat} {Q : Ab} (w : WQ n Q) (x : QX h n Q) (hI : I ≤ 8) : ∃ h' : Mm, fX5_look h (nI I) = some h' ∧ FL h h' ∧ LkS (ft Q n) (2 ^ I) h' := by
  have hp := pw_le hI
  rw [fX5_look, lt_e, lt_e, lt_e]
  generalize hg : md_up (md_up (md_up h 65 5 0) 65 6 (-1)) 65 7 0 = g
  obtain ⟨g', c1, c2, c3, c4⟩ := lz_loop (nI I) 8 0 g md_N (by omega) (by unfold md_N; omega)
  have hgo : ∀ a, a ≠ 65 → g a = h a := fun a ha => by rw [← hg, up_n _ _ _ ha, up_n _ _ _ ha, up_n _ _ _ ha]
  have hg4 : ∀ j, j < 5 → g 65 j = h 65 j := fun j hj => by rw [← hg, u_sn _ _ _ (by omega), u_sn _ _ _ (by omega), u_sn _ _ _ (by omega)]
  have fl : FL h g' := ⟨fun a h1 h2 => by rw [c2 a h2, hgo a h1], fun j hj => by rw [c2 65 (by omega), hg4 j hj]⟩
  obtain ⟨h', d1, d2, d3⟩ := lk_loop w hp (2 ^ I) 0 g' md_N (by omega) (by unfold md_N; omega) (FL_q fl x) ⟨by
    rw [c2 65 (by omega), ← hg, u_sn _ _ _ (by omega), u_sn _ _ _ (by omega), u_ss]; rfl, by
    rw [c2 65 (by omega), ← hg, u_sn _ _ _ (by omega), u_ss]; rfl, by
    rw [c2 65 (by omega), ← hg, u_ss]; rfl, fun j hj => by rw [c4 j (by omega) hj]; rfl⟩
  rw [show (0 : Int32) = nI 0 from rfl, c1, bd_s, n_shl I (by omega), lt_e, d1]
  exact ⟨h', rfl, ⟨fun a h1 h2 => by rw [d2.1 a h1 h2, fl.1 a h1 h2], fun j hj => by rw [d2.2 j hj, fl.2 j hj]⟩, d3⟩
