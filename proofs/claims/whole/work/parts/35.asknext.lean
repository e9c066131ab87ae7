def bS (P : Nat → Bool) (N : Nat) : Nat → Nat → Int32 → Nat → Int32
  | 0, _, b, _ => b
  | k + 1, i, b, v => if v ≤ max (iN P i N) (cN P N - iN P i N) then bS P N k (i + 1) b v else bS P N k (i + 1) (nI i) (max (iN P i N) (cN P N - iN P i N))
theorem iN_0 (P : Nat → Bool) (j : Nat) : ∀ i, i ≤ 2 ^ j → iN P j i = 0 := by
  intro i
  induction i with
  | zero => intro _; rfl
  | succ i ih =>
    intro h
    rw [iN, ih (by omega), Nat.div_eq_of_lt (by omega)]
    split <;> rfl
theorem bS_end (P : Nat → Bool) {I : Nat} : ∀ k i b v, I ≤ i → v ≤ cN P (2 ^ I) → bS P (2 ^ I) k i b v = b := by
  intro k
  induction k with
  | zero => intro i b v _ _; rfl
  | succ k ih =>
    intro i b v hi hv
    have e := iN_0 P i (2 ^ I) (Nat.pow_le_pow_right (by decide) hi)
    rw [bS, e, if_pos (by omega)]
    exact ih (i + 1) b v (by omega) hv
theorem bS_cut (P : Nat → Bool) {I K : Nat} : ∀ k i b v, i + k = I → v ≤ cN P (2 ^ I) → bS P (2 ^ I) (k + K) i b v = bS P (2 ^ I) k i b v := by
  intro k
  induction k with
  | zero =>
    intro i b v hi hv
    rw [Nat.zero_add, bS_end P K i b v (by omega) hv]; rfl
  | succ k ih =>
    intro i b v hi hv
    rw [show k + 1 + K = (k + K) + 1 by omega, bS, bS]
    have h1 := iN_le P i (2 ^ I)
    split
    · exact ih (i + 1) b v (by omega) hv
    · exact ih (i + 1) _ _ (by omega) (by omega)
theorem bx_loop {h : Mm} {P : Nat → Bool} {N : Nat} (hN : N ≤ 256) (l : LkS P N h) : ∀ k i b v F, i + k = 8 → k < F → v ≤ 256 → fX5_bestIdea_9 F h b (nI v) (nI i) = some (bS P N k i b v) := by
  have hc0 := cN_le P N
  intro k
  induction k with
  | zero =>
    intro i b v F hi hF hv
    obtain ⟨F, rfl⟩ : ∃ G, F = G + 1 := ⟨F - 1, by omega⟩
    have hc : (8 : Int32) ≤ nI i := by rw [show (8 : Int32) = nI 8 from rfl, n_le (by omega) (by omega)]; omega
    rw [fX5_bestIdea_9, if_pos hc]; rfl
  | succ k ih =>
    intro i b v F hi hF hv
    obtain ⟨F, rfl⟩ : ∃ G, F = G + 1 := ⟨F - 1, by omega⟩
    have hc : ¬ (8 : Int32) ≤ nI i := by rw [show (8 : Int32) = nI 8 from rfl, n_le (by omega) (by omega)]; omega
    have hi1 := iN_le P i N
    rw [fX5_bestIdea_9, if_neg hc, in_t (by omega) (by omega), ck_t, ck_t, nI_c (by omega), l.1, l.2.2.2 i (by omega), n_sub hi1, lt_e, nI_1, bS]
    have em : (if nI (iN P i N) < nI (cN P N - iN P i N) then nI (cN P N - iN P i N) else nI (iN P i N)) = nI (max (iN P i N) (cN P N - iN P i N)) := by
      by_cases hz : iN P i N < cN P N - iN P i N
      · rw [if_pos ((n_lt (by omega) (by omega)).mpr hz), Nat.max_eq_right (by omega)]
      · rw [if_neg (by rw [n_lt (by omega) (by omega)]; exact hz), Nat.max_eq_left (by omega)]
    rw [em]
    generalize hx : max (iN P i N) (cN P N - iN P i N) = x
    have hx2 : x ≤ 256 := by omega
    by_cases hz : v ≤ x
    · rw [if_pos ((n_le (by omega) (by omega)).mpr hz), if_pos hz, b2_s]
      exact ih (i + 1) b v F (by omega) (by omega) hv
    · rw [if_neg (by rw [n_le (by omega) (by omega)]; exact hz), if_neg hz, b2_s]
      exact ih (i + 1) _ _ F (by omega) (by omega) hx2
theorem bm_loop {h : Mm} {P : Nat → Bool} {N I : Nat} (hN : N ≤ 256) (hI : I ≤ 8) (e2 : h 84 2 = nI I) (l : ∀ j, j < 8 → h 108 j = nI (iN P j N)) : ∀ k i b v F, i + k = I → k < F → v ≤ 256 → fX8_askNext_87 F h (nI (cN P N)) b (nI v) (nI i) = some (bS P N k i b v) := by
  have hc0 := cN_le P N
  intro k
  induction k with
  | zero =>
    intro i b v F hi hF hv
    obtain ⟨F, rfl⟩ : ∃ G, F = G + 1 := ⟨F - 1, by omega⟩
    rw [fX8_askNext_87, e2, if_pos ((n_le (by omega) (by omega)).mpr (by omega))]; rfl
  | succ k ih =>
    intro i b v F hi hF hv
    obtain ⟨F, rfl⟩ : ∃ G, F = G + 1 := ⟨F - 1, by omega⟩
    have hi1 := iN_le P i N
    rw [fX8_askNext_87, e2, if_neg (by rw [n_le (by omega) (by omega)]; omega)]
    simp only [in_t (i := i) (n := 8) (by omega) (by omega), ck_t, nI_c (n := i) (by omega), l i (by omega), n_sub hi1, nI_1]
    rw [bS]
    have em : (if nI (iN P i N) ≤ nI (cN P N - iN P i N) then some (nI (cN P N - iN P i N)) else some (nI (iN P i N))) = some (nI (max (iN P i N) (cN P N - iN P i N))) := by
      by_cases hz : iN P i N ≤ cN P N - iN P i N
      · rw [if_pos ((n_le (by omega) (by omega)).mpr hz), Nat.max_eq_right (by omega)]
      · rw [if_neg (by rw [n_le (by omega) (by omega)]; exact hz), Nat.max_eq_left (by omega)]
    rw [em, bd_s]
    generalize hx : max (iN P i N) (cN P N - iN P i N) = x
    have hx2 : x ≤ 256 := by omega
    by_cases hz : v ≤ x
    · have hz' := (n_le (show v < 1000000001 by omega) (show x < 1000000001 by omega)).mpr hz
      rw [if_pos hz', if_pos hz', if_pos hz, bd_s, bd_s]
      exact ih (i + 1) b v F (by omega) (by omega) hv
    · have hz' : ¬ nI v ≤ nI x := by rw [n_le (by omega) (by omega)]; exact hz
      rw [if_neg hz', if_neg hz', if_neg hz, bd_s, bd_s]
      exact ih (i + 1) _ _ F (by omega) (by omega) hx2
theorem mc_loop {m : Nat} (hm : m < 256) (l1 : Int32) : ∀ k i (h : Mm) F, i + k = 8 → k < F → ∃ h' : Mm, fX8_askNext_48 F h l1 (nI m) (nI i) = some h' ∧ (∀ a, a ≠ 108 → h' a = h a) ∧ (∀ j, j < i → h' 108 j = h 108 j) ∧ (∀ j, i ≤ j → j < 8 → h' 108 j = h 108 j + nI (m / 2 ^ j % 2)) := by
  intro k
  induction k with
  | zero =>
    intro i h F hi hF
    obtain ⟨F, rfl⟩ : ∃ G, F = G + 1 := ⟨F - 1, by omega⟩
    have hc : (8 : Int32) ≤ nI i := by rw [show (8 : Int32) = nI 8 from rfl, n_le (by omega) (by omega)]; omega
    rw [fX8_askNext_48, if_pos hc]
    exact ⟨h, rfl, fun _ _ => rfl, fun _ _ => rfl, fun j h1 h2 => by omega⟩
  | succ k ih =>
    intro i h F hi hF
    obtain ⟨F, rfl⟩ : ∃ G, F = G + 1 := ⟨F - 1, by omega⟩
    have hc : ¬ (8 : Int32) ≤ nI i := by rw [show (8 : Int32) = nI 8 from rfl, n_le (by omega) (by omega)]; omega
    rw [fX8_askNext_48, if_neg hc, in_t (by omega) (by omega), ck_t, ck_t, lt_e, nI_c (by omega), n_shr (show m < 2 ^ 31 by omega) (by omega), n_and1, nI_1]
    obtain ⟨h', e1, e2, e3, e4⟩ := ih (i + 1) (md_up h 108 i (h 108 i + nI (m / 2 ^ i % 2))) F (by omega) (by omega)
    refine ⟨h', e1, fun a ha => by rw [e2 a ha, up_n _ _ _ ha], fun j hj => by rw [e3 j (by omega), u_sn _ _ _ (by omega)], fun j h1 h2 => ?_⟩
    rcases Nat.eq_or_lt_of_le h1 with e | e
    · subst e; rw [e3 i (by omega), u_ss]
    · rw [e4 j e h2, u_sn _ _ _ (by omega)]
theorem m0_loop (b : Bool) : ∀ k i (h : Mm) F, i + k = 8 → k < F → ∃ h' : Mm, fX8_askNext_4 F h b (nI i) = some h' ∧ (∀ a, a ≠ 108 → h' a = h a) ∧ (∀ j, j < i → h' 108 j = h 108 j) ∧ (∀ j, i ≤ j → j < 8 → h' 108 j = 0) := by
  intro k
  induction k with
  | zero =>
    intro i h F hi hF
    obtain ⟨F, rfl⟩ : ∃ G, F = G + 1 := ⟨F - 1, by omega⟩
    have hc : (8 : Int32) ≤ nI i := by rw [show (8 : Int32) = nI 8 from rfl, n_le (by omega) (by omega)]; omega
    rw [fX8_askNext_4, if_pos hc]
    exact ⟨h, rfl, fun _ _ => rfl, fun _ _ => rfl, fun j h1 h2 => by omega⟩
  | succ k ih =>
    intro i h F hi hF
    obtain ⟨F, rfl⟩ : ∃ G, F = G + 1 := ⟨F - 1, by omega⟩
    have hc : ¬ (8 : Int32) ≤ nI i := by rw [show (8 : Int32) = nI 8 from rfl, n_le (by omega) (by omega)]; omega
    rw [fX8_askNext_4, if_neg hc, in_t (by omega) (by omega), ck_t, lt_e, nI_c (by omega), nI_1]
    obtain ⟨h', e1, e2, e3, e4⟩ := ih (i + 1) (md_up h 108 i 0) F (by omega) (by omega)
    refine ⟨h', e1, fun a ha => by rw [e2 a ha, up_n _ _ _ ha], fun j hj => by rw [e3 j (by omega), u_sn _ _ _ (by omega)], fun j h1 h2 => ?_⟩
    rcases Nat.eq_or_lt_of_le h1 with e | e
    · subst e; rw [e3 i (by omega), u_ss]
    · rw [e4 j e h2]
theorem ml_loop {n I : Nat} {Q : Ab} (w : WQ n Q) (hI : I ≤ 8) : ∀ k i (h : Mm) F, i + k = 2 ^ I → k < F → QY h n Q → h 84 2 = nI I → (∀ j, j < 8 → h 108 j = nI (iN (ft Q n) j i)) → ∃ h' : Mm, fX8_askNext_25 F h (nI (cN (ft Q n) i)) (nI i) = some (nI (cN (ft Q n) (2 ^ I)), h') ∧ (∀ a, a ≠ 108 → h' a = h a) ∧ (∀ j, j < 8 → h' 108 j = nI (iN (ft Q n) j (2 ^ I))) := by
  have hp := pw_le hI
  intro k
  induction k with
  | zero =>
    intro i h F hi hF y e2 l
    obtain ⟨F, rfl⟩ : ∃ G, F = G + 1 := ⟨F - 1, by omega⟩
    rw [fX8_askNext_25, e2, n_shl I (by omega), if_pos ((n_le (by omega) (by omega)).mpr (by omega))]
    rw [show i = 2 ^ I by omega] at l ⊢
    exact ⟨h, rfl, fun _ _ => rfl, l⟩
  | succ k ih =>
    intro i h F hi hF y e2 l
    obtain ⟨F, rfl⟩ : ∃ G, F = G + 1 := ⟨F - 1, by omega⟩
    rw [fX8_askNext_25, e2, n_shl I (by omega), if_neg (by rw [n_le (by omega) (by omega)]; omega), mz_could w y (by omega), bd_s, show nI i + (1 : Int32) = nI (i + 1) from nI_1 ..]
    cases hP : ft Q n i
    · have go := ih (i + 1) h F (by omega) (by omega) y e2 (fun j hj => by rw [iN, hP]; exact l j hj)
      rw [cN, hP] at go
      exact go
    · have hci : cN (ft Q n) (i + 1) = cN (ft Q n) i + 1 := by rw [cN, hP]; rfl
      obtain ⟨g, c1, c2, c3, c4⟩ := mc_loop (m := i) (by omega) (nI (cN (ft Q n) i) + 1) 8 0 h md_N (by omega) (by unfold md_N; omega)
      obtain ⟨h', d1, d2, d3⟩ := ih (i + 1) g F (by omega) (by omega) ⟨by rw [c2 84 (by omega)]; exact y.1, fun j hj => by rw [c2 105 (by omega), c2 106 (by omega), c2 107 (by omega)]; exact y.2 j hj⟩ (by rw [c2 84 (by omega)]; exact e2) (fun j hj => by rw [c4 j (by omega) hj, l j hj, nI_add, iN, hP]; rfl)
      rw [if_pos rfl, show (0 : Int32) = nI 0 from rfl, c1, bd_s, b2_s, show nI (cN (ft Q n) i) + (1 : Int32) = nI (cN (ft Q n) i + 1) from nI_1 .., ← hci, d1]
      exact ⟨h', rfl, fun a ha => by rw [d2 a ha, c2 a ha], d3⟩
theorem eq_askNext {h : Mm} {A : Ab} {B : Nat → Nat} (q : QS h A B) {n : Nat} {Q : Ab} (w : WQ n Q) (x : QX h n Q) (y : QY h n Q) : ∃ r h1 h2, fX7_askNext h = some (r, h1) ∧ FL h h1 ∧ fX8_askNext h1 = some (r, h2) ∧ (∀ a, a ≠ 108 → h2 a = h1 a) := by
  have h8 := q.1.2.2.1
  have hp := pw_le h8
  obtain ⟨h1, e1, e2, e3⟩ := xz_look w x h8
  have y1 := FL_y e2 y
  have m1 : h1 84 2 = nI (A 0 2) := by rw [e2.1 84 (by omega) (by omega)]; exact q.2.2.2.1.2.2.1
  have hcn := cN_le (ft Q n) (2 ^ A 0 2)
  obtain ⟨g, c1, c2, c3, c4⟩ := m0_loop false 8 0 h1 md_N (by omega) (by unfold md_N; omega)
  obtain ⟨h2, d1, d2, d3⟩ := ml_loop w h8 (2 ^ A 0 2) 0 g md_N (by omega) (by unfold md_N; omega) ⟨by rw [c2 84 (by omega)]; exact y1.1, fun j hj => by rw [c2 105 (by omega), c2 106 (by omega), c2 107 (by omega)]; exact y1.2 j hj⟩ (by rw [c2 84 (by omega)]; exact m1) (fun j hj => by rw [c4 j (by omega) hj]; rfl)
  have k1 := bx_loop hp e3 8 0 (-1) (cN (ft Q n) (2 ^ A 0 2)) md_N (by omega) (by unfold md_N; omega) (by omega)
  have k2 := bm_loop hp h8 (by rw [d2 84 (by omega), c2 84 (by omega)]; exact m1) d3 (A 0 2) 0 (-1) (cN (ft Q n) (2 ^ A 0 2)) md_N (by omega) (by unfold md_N; omega) (by omega)
  have k3 := bS_cut (ft Q n) (K := 8 - A 0 2) (A 0 2) 0 (-1) (cN (ft Q n) (2 ^ A 0 2)) (by omega) (Nat.le_refl _)
  rw [show A 0 2 + (8 - A 0 2) = 8 by omega] at k3
  refine ⟨bS (ft Q n) (2 ^ A 0 2) (A 0 2) 0 (-1) (cN (ft Q n) (2 ^ A 0 2)), h1, h2, ?_, e2, ?_, fun a ha => by rw [d2 a ha, c2 a ha]⟩
  · rw [fX7_askNext, q.2.1.2.2.1, e1, bd_s, fX5_bestIdea, lt_e, e3.1, show (0 : Int32) = nI 0 from rfl, k1, k3]; rfl
  · rw [show cN (ft Q n) 0 = 0 from rfl] at d1
    rw [fX8_askNext, show (0 : Int32) = nI 0 from rfl, c1, bd_s, d1, b2_s, k2]; rfl
