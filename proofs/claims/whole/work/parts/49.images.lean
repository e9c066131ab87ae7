theorem x_back {h : Mm} {n nx : Nat} {P : Nat → Nat → Nat} (x : HX h n nx P) (hn : 0 < n) : ∃ h' : Mm, fX3_bringBack h 13 = some h' ∧ PX h' 13 (P 0) ∧ HX h' (n - 1) ((nx + 20 - 1) % 20) (fun i => P (i + 1)) ∧ (∀ a, a ≠ 13 → a ≠ 14 → a ≠ 15 → h' a = h a) := by
  obtain ⟨a1, a2, a3, a4, a5⟩ := x
  have e0 : ¬ nI n ≤ 0 := nI_nle hn (by omega)
  have p0 := a5 0 hn
  rw [show (nx + 19 - 0) % 20 = (nx + 20 - 1) % 20 by omega] at p0
  have hm : (nx + 20 - 1) % 20 < 20 := by omega
  have pg : PX (md_up h 15 1 (nI ((nx + 20 - 1) % 20))) (17 + 2 * ((nx + 20 - 1) % 20)) (P 0) := PX_t (fun a j _ => u_nn _ _ _ _ (by omega)) p0
  obtain ⟨g, g1, g2, g3⟩ := z_become (c := 13) (by omega) (by omega) (by omega) pg
  have e2 : g 15 2 = nI n := by rw [g3 15 (by omega) (by omega), u_sn _ _ _ (by omega)]; exact a4
  rw [fX3_bringBack, a4, if_neg e0, a3, show (20 : Int32) = nI 20 from rfl, nI_add, show (1 : Int32) = nI 1 from rfl, n_sub (by omega), pk_rem (by omega) (by omega) (by omega), lt_e, u_ss, in_t (by omega) (by omega), ck_t, nI_c (by omega), g1, bd_s, lt_e, bd_s, e2, n_sub (by omega)]
  refine ⟨_, rfl, PX_t (fun a j _ => u_nn _ _ _ _ (by omega)) g2, ⟨by omega, by omega, ?_, ?_, fun i hi => ?_⟩, fun a h1 h2 h3 => ?_⟩
  · rw [u_sn _ _ _ (by omega), g3 15 (by omega) (by omega), u_ss]
  · rw [u_ss]
  · have := a5 (i + 1) (by omega)
    rw [show ((nx + 20 - 1) % 20 + 19 - i) % 20 = (nx + 19 - (i + 1)) % 20 by omega]
    exact PX_t (fun a j _ => by rw [u_nn _ _ _ _ (by omega), g3 a (by omega) (by omega), u_nn _ _ _ _ (by omega)]) this
  · rw [up_n _ _ _ h3, g3 a h1 h2, up_n _ _ _ h3]
theorem m_un {n : Nat} (hn : n < 20) : ∀ k i (h : Mm) F, i + k = 9 → k < F → h 84 35 = nI n → ∃ h' : Mm, fX8_undo_22 F h (nI i) = some h' ∧ (∀ a, a ≠ 92 → h' a = h a) ∧ (∀ j, j < i → h' 92 j = h 92 j) ∧ (∀ j, i ≤ j → j < 9 → h' 92 j = h 103 (9 * n + j)) := by
  intro k
  induction k with
  | zero =>
    intro i h F hi hF h35
    obtain ⟨F, rfl⟩ : ∃ G, F = G + 1 := ⟨F - 1, by omega⟩
    have hc : (9 : Int32) ≤ nI i := by rw [show (9 : Int32) = nI 9 from rfl, n_le (by omega) (by omega)]; omega
    rw [fX8_undo_22, if_pos hc]
    exact ⟨h, rfl, fun _ _ => rfl, fun _ _ => rfl, fun j h1 h2 => by omega⟩
  | succ k ih =>
    intro i h F hi hF h35
    obtain ⟨F, rfl⟩ : ∃ G, F = G + 1 := ⟨F - 1, by omega⟩
    have hc : ¬ (9 : Int32) ≤ nI i := by rw [show (9 : Int32) = nI 9 from rfl, n_le (by omega) (by omega)]; omega
    rw [fX8_undo_22, if_neg hc, h35, show (9 : Int32) = nI 9 from rfl, pk_mul, nI_add, in_t (i := i) (by omega) (by omega), in_t (i := 9 * n + i) (by omega) (by omega), ck_t, ck_t, lt_e, nI_c (n := i) (by omega), nI_c (n := 9 * n + i) (by omega), nI_1]
    obtain ⟨h', e1, e2, e3, e4⟩ := ih (i + 1) (md_up h 92 i (h 103 (9 * n + i))) F (by omega) (by omega) (by rw [u_nn _ _ _ _ (by omega)]; exact h35)
    refine ⟨h', e1, fun a ha => by rw [e2 a ha, up_n _ _ _ ha], fun j hj => by rw [e3 j (by omega), u_sn _ _ _ (by omega)], fun j h1 h2 => ?_⟩
    rcases Nat.eq_or_lt_of_le h1 with e | e
    · subst e; rw [e3 _ (by omega), u_ss]
    · rw [e4 j e h2, u_nn _ _ _ _ (by omega)]
section CC
variable {h : Mm}
theorem eq_undo (I : Inv h) : ∃ r h1 h2, fX7_undo h = some (r, h1) ∧ fX8_undo h1 = some (r, h2) ∧ Inv h2 := by
  obtain ⟨A, B, q, gp, gl, gr⟩ := id I
  have xs := QS_x q
  have ms := QS_m q
  obtain ⟨n, nx, P, hx, hm, wp⟩ := gp
  have hn20 := hx.1
  rw [fX7_undo, hx.2.2.2.1]
  by_cases hn : n = 0
  · subst hn
    rw [if_pos (show nI 0 = 0 from rfl)]
    exact ⟨_, h, h, rfl, by rw [fX8_undo, hm.1, if_pos (show nI 0 = 0 from rfl)], I⟩
  · have e0 : ¬ nI n = 0 := nI_ne0 (by omega) (by omega)
    obtain ⟨g, g1, g2, g3, g4⟩ := x_back hx (by omega)
    have e1 : md_up g 84 35 (nI (n - 1)) 84 35 = nI (n - 1) := u_ss _ _ _ _
    obtain ⟨k, k1, k2, k3, k4⟩ := m_un (n := n - 1) (by omega) 9 0 (md_up g 84 35 (nI (n - 1))) md_N (by omega) (by unfold md_N; omega) e1
    have e35 : g 84 35 = nI n := by rw [g4 84 (by omega) (by omega) (by omega)]; exact hm.1
    refine ⟨nI (n - 1), g, k, by rw [if_neg e0, g1, bd_s, g3.2.2.2.1], ?_, ?_⟩
    · rw [fX8_undo, e35, if_neg e0, show (1 : Int32) = nI 1 from rfl, n_sub (by omega), lt_e, show (0 : Int32) = nI 0 from rfl, k1, bd_s, k2 84 (by omega), u_ss]
    · have fk : ∀ a j, a ≠ 92 → (a ≠ 84 ∨ j ≠ 35) → k a j = g a j := fun a j h1 h2 => by rw [k2 a h1, u_f _ _ h2]
      have wb := wp 0 (by omega)
      refine ⟨A, P 0, QS_of (XS_c (fun a j _ => by rw [fk a j (by omega) (by omega), g4 a (by omega) (by omega) (by omega)]) xs (PX_t (fun a j _ => fk a j (by omega) (by omega)) g2) wb) (NS_c (fun a j _ => by rw [fk a j (by omega) (by omega), g4 a (by omega) (by omega) (by omega)]) ms (fun i hi => ?_) wb), ⟨n - 1, _, _, HX_t (fun a j _ _ => fk a j (by omega) (by omega)) g3, ⟨by rw [k2 84 (by omega), u_ss], fun i hi => ?_⟩, fun i hi => wp (i + 1) (by omega)⟩, GL_t (fun a j _ => by rw [fk a j (by omega) (by omega), g4 a (by omega) (by omega) (by omega)]) gl, GR_p (fun a j _ _ _ _ _ _ => by rw [fk a j (by omega) (by omega), g4 a (by omega) (by omega) (by omega)]) gr⟩
      · have := hm.2 0 (by omega) i hi
        rw [Nat.zero_add, k4 i (by omega) hi, u_nn _ _ _ _ (by omega), g4 103 (by omega) (by omega) (by omega)]
        rw [show n - 1 - 0 = n - 1 by omega] at this
        exact this
      · have := hm.2 (i + 1) (by omega)
        rw [show n - 1 - (i + 1) = n - 1 - 1 - i by omega] at this
        exact PM_t (fun j _ => by rw [fk 103 _ (by omega) (by omega), g4 103 (by omega) (by omega) (by omega)]) this
theorem in01 {α : Type} (l : Int32) (X Z : α) : (if l < 0 then Z else (if l < (2 : Int32) then X else Z)) = if (0 ≤ l ∧ l ≤ 1) then X else Z := by
  have e : l < (2 : Int32) ↔ l ≤ 1 := by
    rw [fa_lt, fa_le, show (2 : Int32).toInt = 2 by decide, show (1 : Int32).toInt = 1 by decide]
    omega
  simp only [e]
  exact x_in2 l 1 X Z
theorem x_take {B : Nat → Nat} (p : PX h 13 B) {i : Nat} (hi : i < 2) (v : Int32) : ∃ h' : Mm, fX2_take h 13 (nI i) v = some h' ∧ PX h' (61 + 2 * i) B ∧ h' 59 i = v ∧ h' 60 i = 1 ∧ (∀ a j, a ≠ 61 + 2 * i → a ≠ 62 + 2 * i → (a ≠ 59 ∨ j ≠ i) → (a ≠ 60 ∨ j ≠ i) → h' a j = h a j) := by
  obtain ⟨g, g1, g2, g3⟩ := z_become (c := 61 + 2 * i) (c1 := 13) (by omega) (by omega) (by omega) p
  rw [fX2_take, if_neg (nI_pos (by omega)), show (2 : Int32) = nI 2 from rfl, if_neg (by rw [n_le (by omega) (by omega)]; omega), in_t (by omega) (by omega), ck_t, nI_c (by omega), g1, bd_s, ck_t, lt_e, ck_t, lt_e, bd_s]
  refine ⟨_, rfl, PX_t (fun a j _ => by rw [u_nn _ _ _ _ (by omega), u_nn _ _ _ _ (by omega)]) g2, by rw [u_nn _ _ _ _ (by omega), u_ss], by rw [u_ss]; rfl, fun a j h1 h2 h3 h4 => by rw [u_f _ _ h4, u_f _ _ h3, g3 a h1 (by omega)]⟩
theorem m_kp {i : Nat} (hi : i < 2) : ∀ k j (h : Mm) F, j + k = 9 → k < F → ∃ h' : Mm, fX8_keep_15 F h (nI i) (nI j) = some h' ∧ (∀ a, a ≠ 111 → h' a = h a) ∧ (∀ o, (o < 10 * i + j ∨ 10 * i + 9 ≤ o) → h' 111 o = h 111 o) ∧ (∀ p, j ≤ p → p < 9 → h' 111 (10 * i + p) = h 92 p) := by
  intro k
  induction k with
  | zero =>
    intro j h F hj hF
    obtain ⟨F, rfl⟩ : ∃ G, F = G + 1 := ⟨F - 1, by omega⟩
    have hc : (9 : Int32) ≤ nI j := by rw [show (9 : Int32) = nI 9 from rfl, n_le (by omega) (by omega)]; omega
    rw [fX8_keep_15, if_pos hc]
    exact ⟨h, rfl, fun _ _ => rfl, fun _ _ => rfl, fun j h1 h2 => by omega⟩
  | succ k ih =>
    intro j h F hj hF
    obtain ⟨F, rfl⟩ : ∃ G, F = G + 1 := ⟨F - 1, by omega⟩
    have hc : ¬ (9 : Int32) ≤ nI j := by rw [show (9 : Int32) = nI 9 from rfl, n_le (by omega) (by omega)]; omega
    rw [fX8_keep_15, if_neg hc, show (10 : Int32) = nI 10 from rfl, pk_mul, nI_add, in_t (i := j) (by omega) (by omega), in_t (i := 10 * i + j) (by omega) (by omega), ck_t, ck_t, lt_e, nI_c (n := j) (by omega), nI_c (n := 10 * i + j) (by omega), nI_1]
    obtain ⟨h', e1, e2, e3, e4⟩ := ih (j + 1) (md_up h 111 (10 * i + j) (h 92 j)) F (by omega) (by omega)
    refine ⟨h', e1, fun a ha => by rw [e2 a ha, up_n _ _ _ ha], fun o ho => by rw [e3 o (by omega), u_sn _ _ _ (by omega)], fun p h1 h2 => ?_⟩
    rcases Nat.eq_or_lt_of_le h1 with e | e
    · subst e; rw [e3 _ (by omega), u_ss]
    · rw [e4 p e h2, u_nn _ _ _ _ (by omega)]
theorem eq_keep (I : Inv h) (l : Int32) : ∃ r h1 h2, fX7_keep h l = some (r, h1) ∧ fX8_keep h1 l = some (r, h2) ∧ Inv h2 := by
  obtain ⟨A, B, q, gp, gl, nb, sw, gi0, gi1, gq, bk, gt, gf⟩ := id I
  have xs := QS_x q
  have ms := QS_m q
  rw [fX7_keep, in01]
  by_cases hl : 0 ≤ l ∧ l ≤ 1
  · obtain ⟨i, hi, rfl⟩ := nI_of2 (M := 1) (n := 1) (by decide) (i_nlt.mpr hl.1) hl.2
    obtain ⟨z, z1, z2, z3⟩ := id gl
    obtain ⟨g, g1, g2, g3, g4, g5⟩ := x_take xs.2.2.2.1 (show i < 2 by omega) (h 0 8)
    rw [if_pos hl, g1, bd_s, lt_e]
    generalize hg : md_up g 15 2 (0 : Int32) = h1
    have f1 : ∀ a j, (a < 59 ∨ 64 < a) → (a ≠ 15 ∨ j ≠ 2) → h1 a j = h a j := fun a j q1 q2 => by rw [← hg, u_f _ _ q2, g5 a j (by omega) (by omega) (by omega) (by omega)]
    obtain ⟨k, k1, k2, k3, k4⟩ := m_kp (show i < 2 by omega) 9 0 h1 md_N (by omega) (by unfold md_N; omega)
    have e14 : k 84 14 = nI z := by rw [k2 84 (by omega), f1 84 14 (by omega) (by omega)]; exact z3
    refine ⟨1, h1, md_up (md_up (md_up k 111 (10 * i + 9) (nI z)) 112 i 1) 84 35 0, rfl, ?_, ?_⟩
    · rw [fX8_keep, show (0 : Int64) = (0 : Int32).toInt64 from rfl, show (1 : Int64) = (1 : Int32).toInt64 from rfl, m_in, bd_s, decide_eq_true hl, if_pos rfl, show (0 : Int32) = nI 0 from rfl, k1, bd_s, show (10 : Int32) = nI 10 from rfl, show (9 : Int32) = nI 9 from rfl, pk_mul, nI_add, in_t (i := 10 * i + 9) (by omega) (by omega), ck_t, lt_e, e14, in_t (i := i) (by omega) (by omega), ck_t, lt_e, lt_e, nI_c (n := 10 * i + 9) (by omega), nI_c (n := i) (by omega)]
      rfl
    · generalize hz : md_up (md_up (md_up k 111 (10 * i + 9) (nI z)) 112 i 1) 84 35 0 = h2
      have f : ∀ a j, (a < 59 ∨ 64 < a) → (a ≠ 15 ∨ j ≠ 2) → (a ≠ 84 ∨ j ≠ 35) → a ≠ 111 → a ≠ 112 → h2 a j = h a j := fun a j q1 q2 q3 q4 q5 => by rw [← hz, u_f _ _ q3, u_nn _ _ _ _ q5, u_nn _ _ _ _ q4, k2 a q4, f1 a j q1 q2]
      have f64 : ∀ a j, a < 84 → h2 a j = h1 a j := fun a j q1 => by rw [← hz, u_nn _ _ _ _ (by omega), u_nn _ _ _ _ (by omega), u_nn _ _ _ _ (by omega), k2 a (by omega)]
      have gi : ∀ j, j < 2 → GI1 h2 A j := by
        intro j hj
        by_cases e : j = i
        · subst e
          refine .inr ⟨B, z, ?_, ?_, ?_, ?_, ?_, ?_, xs.2.2.2.2, z1⟩
          · rw [f64 60 j (by omega), ← hg, u_nn _ _ _ _ (by omega)]; exact g4
          · rw [← hz, u_nn _ _ _ _ (by omega), u_ss]
          · exact PX_t (fun a c _ => by rw [f64 a c (by omega), ← hg, u_nn _ _ _ _ (by omega)]) g2
          · rw [f64 59 j (by omega), ← hg, u_nn _ _ _ _ (by omega), g3]; exact z2
          · intro c hc
            rw [← hz, u_nn _ _ _ _ (by omega), u_nn _ _ _ _ (by omega), u_sn _ _ _ (by omega), k4 c (by omega) hc, f1 92 c (by omega) (by omega)]
            exact ms_now ms hc
          · rw [← hz, u_nn _ _ _ _ (by omega), u_nn _ _ _ _ (by omega), u_ss]
        · have old : GI1 h A j := by
            rcases (show j = 0 ∨ j = 1 by omega) with rfl | rfl
            · exact gi0
            · exact gi1
          refine GI1_t (fun a c hac => ?_) old
          by_cases q4 : a < 84
          · rw [f64 a c q4, ← hg, u_nn _ _ _ _ (by omega), g5 a c (by omega) (by omega) (by omega) (by omega)]
          · rw [← hz, u_nn _ _ _ _ (by omega)]
            by_cases q5 : a = 112
            · subst q5
              rw [u_sn _ _ _ (by omega), u_nn _ _ _ _ (by omega), k2 112 (by omega), f1 112 c (by omega) (by omega)]
            · obtain rfl : a = 111 := by omega
              rw [u_nn _ _ _ _ (by omega), u_sn _ _ _ (by omega), k3 c (by omega), f1 111 c (by omega) (by omega)]
      obtain ⟨n, nx, P, hx, hm, wp⟩ := gp
      exact ⟨A, B, QS_of (XS_t (fun a j _ => f a j (by omega) (by omega) (by omega) (by omega) (by omega)) xs) (NS_t (fun a j _ => f a j (by omega) (by omega) (by omega) (by omega) (by omega)) ms), ⟨0, nx, P, ⟨by omega, hx.2.1, by rw [f 15 1 (by omega) (by omega) (by omega) (by omega) (by omega)]; exact hx.2.2.1, by rw [f64 15 2 (by omega), ← hg, u_ss]; rfl, fun i hi => by omega⟩, ⟨by rw [← hz, u_ss]; rfl, fun i hi => by omega⟩, fun i hi => by omega⟩, GL_t (fun a j _ => f a j (by omega) (by omega) (by omega) (by omega) (by omega)) gl, NB_t (fun a j _ => f a j (by omega) (by omega) (by omega) (by omega) (by omega)) nb, SW_t (fun a j _ => f a j (by omega) (by omega) (by omega) (by omega) (by omega)) sw, gi 0 (by omega), gi 1 (by omega), GQ_t (fun a j _ => f a j (by omega) (by omega) (by omega) (by omega) (by omega)) gq, BK_t (fun a j _ => f a j (by omega) (by omega) (by omega) (by omega) (by omega)) bk, GT_t (fun a j _ => f a j (by omega) (by omega) (by omega) (by omega) (by omega)) gt, by rw [f 1 2 (by omega) (by omega) (by omega) (by omega) (by omega), f 84 17 (by omega) (by omega) (by omega) (by omega) (by omega)]; exact gf⟩
  · rw [if_neg hl]
    refine ⟨_, h, h, rfl, ?_, I⟩
    rw [fX8_keep, show (0 : Int64) = (0 : Int32).toInt64 from rfl, show (1 : Int64) = (1 : Int32).toInt64 from rfl, m_in, bd_s, decide_eq_false hl]
    rfl
theorem m_gb {i : Nat} (hi : i < 2) : ∀ k j (h : Mm) F, j + k = 9 → k < F → ∃ h' : Mm, fX8_goBack_27 F h (nI i) (nI j) = some h' ∧ (∀ a, a ≠ 92 → h' a = h a) ∧ (∀ o, o < j → h' 92 o = h 92 o) ∧ (∀ p, j ≤ p → p < 9 → h' 92 p = h 111 (10 * i + p)) := by
  intro k
  induction k with
  | zero =>
    intro j h F hj hF
    obtain ⟨F, rfl⟩ : ∃ G, F = G + 1 := ⟨F - 1, by omega⟩
    have hc : (9 : Int32) ≤ nI j := by rw [show (9 : Int32) = nI 9 from rfl, n_le (by omega) (by omega)]; omega
    rw [fX8_goBack_27, if_pos hc]
    exact ⟨h, rfl, fun _ _ => rfl, fun _ _ => rfl, fun j h1 h2 => by omega⟩
  | succ k ih =>
    intro j h F hj hF
    obtain ⟨F, rfl⟩ : ∃ G, F = G + 1 := ⟨F - 1, by omega⟩
    have hc : ¬ (9 : Int32) ≤ nI j := by rw [show (9 : Int32) = nI 9 from rfl, n_le (by omega) (by omega)]; omega
    rw [fX8_goBack_27, if_neg hc, show (10 : Int32) = nI 10 from rfl, pk_mul, nI_add, in_t (i := j) (by omega) (by omega), in_t (i := 10 * i + j) (by omega) (by omega), ck_t, ck_t, lt_e, nI_c (n := j) (by omega), nI_c (n := 10 * i + j) (by omega), nI_1]
    obtain ⟨h', e1, e2, e3, e4⟩ := ih (j + 1) (md_up h 92 j (h 111 (10 * i + j))) F (by omega) (by omega)
    refine ⟨h', e1, fun a ha => by rw [e2 a ha, up_n _ _ _ ha], fun o ho => by rw [e3 o (by omega), u_sn _ _ _ (by omega)], fun p h1 h2 => ?_⟩
    rcases Nat.eq_or_lt_of_le h1 with e | e
    · subst e; rw [e3 _ (by omega), u_ss]
    · rw [e4 p e h2, u_nn _ _ _ _ (by omega)]
theorem eq_goBack (I : Inv h) (l : Int32) : ∃ r h1 h2, fX7_goBack h l = some (r, h1) ∧ fX8_goBack h1 l = some (r, h2) ∧ Inv h2 := by
  obtain ⟨A, B, q, gp, gl, gr⟩ := id I
  have xs := QS_x q
  have ms := QS_m q
  rw [fX7_goBack, in01]
  by_cases hl : 0 ≤ l ∧ l ≤ 1
  · obtain ⟨i, hi, rfl⟩ := nI_of2 (M := 1) (n := 1) (by decide) (i_nlt.mpr hl.1) hl.2
    have old : GI1 h A i := by
      rcases (show i = 0 ∨ i = 1 by omega) with rfl | rfl
      · exact gr.2.2.1
      · exact gr.2.2.2.1
    have M : ∀ h1 : Mm, fX8_goBack h1 (nI i) = (if (h1 112 i) = 0 then some ((-1000000003 : Int32), h1) else md_bd (fX8_goBack_27 md_N h1 (nI i) (nI 0)) (fun (h_3 : Mm) => md_lt (md_up h_3 84 14 (h_3 111 (10 * i + 9))) (fun h_4 : Mm => md_lt (md_up h_4 84 35 (0 : Int32)) (fun h_5 : Mm => some ((1 : Int32), h_5))))) := by
      intro h1
      rw [fX8_goBack, show (0 : Int64) = (0 : Int32).toInt64 from rfl, show (1 : Int64) = (1 : Int32).toInt64 from rfl, m_in, bd_s, decide_eq_true hl, if_pos rfl, in_t (by omega) (by omega), ck_t, nI_c (n := i) (by omega), show (10 : Int32) = nI 10 from rfl, show (9 : Int32) = nI 9 from rfl, pk_mul, nI_add, in_t (i := 10 * i + 9) (by omega) (by omega), nI_c (n := 10 * i + 9) (by omega)]
      rfl
    rw [if_pos hl, in_t (by omega) (by omega), ck_t, ck_t, nI_c (by omega)]
    rcases old with ⟨o1, o2⟩ | ⟨J, z, o1, o2, o3, o4, o5, o6, o7, o8⟩
    · rw [o1, if_pos rfl]
      exact ⟨_, h, h, rfl, by rw [M h, o2, if_pos rfl], I⟩
    · rw [o1, if_neg (by decide)]
      obtain ⟨g, g1, g2, g3⟩ := z_become (c := 13) (c1 := 61 + 2 * i) (by omega) (by omega) (by omega) o3
      rw [g1, bd_s, ck_t, lt_e, lt_e, g3 59 (by omega) (by omega), o4]
      generalize hg : md_up (md_up g 0 8 (nI z)) 15 2 (0 : Int32) = h1
      have f1 : ∀ a j, a ≠ 13 → a ≠ 14 → (a ≠ 0 ∨ j ≠ 8) → (a ≠ 15 ∨ j ≠ 2) → h1 a j = h a j := fun a j q1 q2 q3 q4 => by rw [← hg, u_f _ _ q4, u_f _ _ q3, g3 a q1 (by omega)]
      obtain ⟨k, k1, k2, k3, k4⟩ := m_gb (show i < 2 by omega) 9 0 h1 md_N (by omega) (by unfold md_N; omega)
      have e111 : ∀ c, k 111 c = h 111 c := fun c => by rw [k2 111 (by omega), f1 111 c (by omega) (by omega) (by omega) (by omega)]
      refine ⟨1, h1, md_up (md_up k 84 14 (nI z)) 84 35 0, rfl, ?_, ?_⟩
      · rw [M h1, f1 112 i (by omega) (by omega) (by omega) (by omega), o2, if_neg (by decide), k1, bd_s, lt_e, lt_e, e111, o6]
      · generalize hz : md_up (md_up k 84 14 (nI z)) 84 35 0 = h2
        have f2 : ∀ a j, a ≠ 92 → (a ≠ 84 ∨ j ≠ 14) → (a ≠ 84 ∨ j ≠ 35) → h2 a j = h1 a j := fun a j q1 q2 q3 => by rw [← hz, u_f _ _ q3, u_f _ _ q2, k2 a q1]
        have f : ∀ a j, a ≠ 13 → a ≠ 14 → (a ≠ 0 ∨ j ≠ 8) → (a ≠ 15 ∨ j ≠ 2) → a ≠ 92 → (a ≠ 84 ∨ j ≠ 14) → (a ≠ 84 ∨ j ≠ 35) → h2 a j = h a j := fun a j q1 q2 q3 q4 q5 q6 q7 => by rw [f2 a j q5 q6 q7, f1 a j q1 q2 q3 q4]
        have ph : PX h2 13 J := PX_t (fun a j _ => by rw [f2 a j (by omega) (by omega) (by omega), ← hg, u_nn _ _ _ _ (by omega), u_nn _ _ _ _ (by omega)]) g2
        have pm : PM (h2 92) 0 J := fun c hc => by
          rw [Nat.zero_add, ← hz, u_nn _ _ _ _ (by omega), u_nn _ _ _ _ (by omega), k4 c (by omega) hc, f1 111 _ (by omega) (by omega) (by omega) (by omega)]
          exact o5 c hc
        obtain ⟨n, nx, P, hx, hm, wp⟩ := gp
        refine ⟨A, J, QS_of (XS_c (fun a j _ => f a j (by omega) (by omega) (by omega) (by omega) (by omega) (by omega) (by omega)) xs ph o7) (NS_c (fun a j _ => f a j (by omega) (by omega) (by omega) (by omega) (by omega) (by omega) (by omega)) ms pm o7), ⟨0, nx, P, ⟨by omega, hx.2.1, ?_, ?_, fun i hi => by omega⟩, ⟨?_, fun i hi => by omega⟩, fun i hi => by omega⟩, ⟨z, o8, ?_, ?_⟩, GR_p (fun a j _ _ _ _ _ _ => f a j (by omega) (by omega) (by omega) (by omega) (by omega) (by omega) (by omega)) gr⟩
        · rw [f 15 1 (by omega) (by omega) (by omega) (by omega) (by omega) (by omega) (by omega)]; exact hx.2.2.1
        · rw [f2 15 2 (by omega) (by omega) (by omega), ← hg, u_ss]; rfl
        · rw [← hz, u_ss]; rfl
        · rw [f2 0 8 (by omega) (by omega) (by omega), ← hg, u_nn _ _ _ _ (by omega), u_ss]
        · rw [← hz, u_sn _ _ _ (by omega), u_ss]
  · rw [if_neg hl]
    refine ⟨_, h, h, rfl, ?_, I⟩
    rw [fX8_goBack, show (0 : Int64) = (0 : Int32).toInt64 from rfl, show (1 : Int64) = (1 : Int32).toInt64 from rfl, m_in, bd_s, decide_eq_false hl]
    rfl
end CC
