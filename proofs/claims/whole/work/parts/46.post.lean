/-! calls on the post -/
def uB (B : Nat → Nat) (k v : Nat) : Nat → Nat := fun j => if j = k then v else B j
theorem uB_s (B : Nat → Nat) (k v : Nat) : uB B k v k = v := if_pos rfl
theorem uB_n (B : Nat → Nat) {k j : Nat} (v : Nat) (h : j ≠ k) : uB B k v j = B j := if_neg h
theorem uB_id (B : Nat → Nat) (k : Nat) : uB B k (B k) = B := by
  funext j
  by_cases e : j = k
  · subst e; exact uB_s _ _ _
  · exact uB_n _ _ e
section PU
variable {h h' : Mm} {A : Ab} {B : Nat → Nat}
theorem WB0 {v : Nat} (w : WB A B) (hv : v < 2 ^ A 0 2) : WB A (uB B 0 v) := ⟨hv, w.2.1, fun t ht => by rw [uB_n _ _ (by omega)]; exact w.2.2.1 t ht, w.2.2.2.1, w.2.2.2.2⟩
theorem WB1 {v : Nat} (w : WB A B) (hv : v < 2 ^ A 0 5) : WB A (uB B 1 v) := ⟨w.1, hv, fun t ht => by rw [uB_n _ _ (by omega)]; exact w.2.2.1 t ht, w.2.2.2.1, w.2.2.2.2⟩
theorem WB7 {v : Nat} (w : WB A B) (hv : v ≤ 999999) : WB A (uB B 7 v) := ⟨w.1, w.2.1, fun t ht => by rw [uB_n _ _ (by omega)]; exact w.2.2.1 t ht, hv, w.2.2.2.2⟩
theorem WB8 {v : Nat} (w : WB A B) (hv : v ≤ 999999) : WB A (uB B 8 v) := ⟨w.1, w.2.1, fun t ht => by rw [uB_n _ _ (by omega)]; exact w.2.2.1 t ht, w.2.2.2.1, hv⟩
theorem WBm {u v : Nat} (w : WB A B) (hu : u < 5) (hv : v < 2 ^ A 0 2) : WB A (uB B (2 + u) v) := by
  refine ⟨by rw [uB_n _ _ (by omega)]; exact w.1, by rw [uB_n _ _ (by omega)]; exact w.2.1, fun t ht => ?_, by rw [uB_n _ _ (by omega)]; exact w.2.2.2.1, by rw [uB_n _ _ (by omega)]; exact w.2.2.2.2⟩
  by_cases e : t = u
  · subst e; rw [uB_s]; exact hv
  · rw [uB_n _ _ (by omega)]; exact w.2.2.1 t ht
theorem XS0 {v : Nat} (x : XS h A B) (hv : v < 2 ^ A 0 2) : XS (md_up h 13 1 (nI v)) A (uB B 0 v) := by
  have p := x.2.2.2.1
  refine XS_c (fun a j _ => u_nn _ _ _ _ (by omega)) x ⟨by rw [u_ss]; rfl, by rw [u_sn _ _ _ (by omega)]; exact p.2.1, fun t ht => by rw [u_nn _ _ _ _ (by omega), uB_n _ _ (by omega)]; exact p.2.2.1 t ht, by rw [u_sn _ _ _ (by omega)]; exact p.2.2.2.1, by rw [u_sn _ _ _ (by omega)]; exact p.2.2.2.2⟩ (WB0 x.2.2.2.2 hv)
theorem XS1 {v : Nat} (x : XS h A B) (hv : v < 2 ^ A 0 5) : XS (md_up h 13 2 (nI v)) A (uB B 1 v) := by
  have p := x.2.2.2.1
  refine XS_c (fun a j _ => u_nn _ _ _ _ (by omega)) x ⟨by rw [u_sn _ _ _ (by omega)]; exact p.1, by rw [u_ss]; rfl, fun t ht => by rw [u_nn _ _ _ _ (by omega), uB_n _ _ (by omega)]; exact p.2.2.1 t ht, by rw [u_sn _ _ _ (by omega)]; exact p.2.2.2.1, by rw [u_sn _ _ _ (by omega)]; exact p.2.2.2.2⟩ (WB1 x.2.2.2.2 hv)
theorem XS7 {v : Nat} (x : XS h A B) (hv : v ≤ 999999) : XS (md_up h 13 3 (nI v)) A (uB B 7 v) := by
  have p := x.2.2.2.1
  refine XS_c (fun a j _ => u_nn _ _ _ _ (by omega)) x ⟨by rw [u_sn _ _ _ (by omega)]; exact p.1, by rw [u_sn _ _ _ (by omega)]; exact p.2.1, fun t ht => by rw [u_nn _ _ _ _ (by omega), uB_n _ _ (by omega)]; exact p.2.2.1 t ht, by rw [u_ss]; rfl, by rw [u_sn _ _ _ (by omega)]; exact p.2.2.2.2⟩ (WB7 x.2.2.2.2 hv)
theorem XS8 {v : Nat} (x : XS h A B) (hv : v ≤ 999999) : XS (md_up h 13 4 (nI v)) A (uB B 8 v) := by
  have p := x.2.2.2.1
  refine XS_c (fun a j _ => u_nn _ _ _ _ (by omega)) x ⟨by rw [u_sn _ _ _ (by omega)]; exact p.1, by rw [u_sn _ _ _ (by omega)]; exact p.2.1, fun t ht => by rw [u_nn _ _ _ _ (by omega), uB_n _ _ (by omega)]; exact p.2.2.1 t ht, by rw [u_sn _ _ _ (by omega)]; exact p.2.2.2.1, by rw [u_ss]; rfl⟩ (WB8 x.2.2.2.2 hv)
theorem XSm {u v : Nat} (x : XS h A B) (hu : u < 5) (hv : v < 2 ^ A 0 2) : XS (md_up h 14 u (nI v)) A (uB B (2 + u) v) := by
  have p := x.2.2.2.1
  refine XS_c (fun a j _ => u_nn _ _ _ _ (by omega)) x ⟨by rw [u_nn _ _ _ _ (by omega), uB_n _ _ (by omega)]; exact p.1, by rw [u_nn _ _ _ _ (by omega), uB_n _ _ (by omega)]; exact p.2.1, fun t ht => ?_, by rw [u_nn _ _ _ _ (by omega), uB_n _ _ (by omega)]; exact p.2.2.2.1, by rw [u_nn _ _ _ _ (by omega), uB_n _ _ (by omega)]; exact p.2.2.2.2⟩ (WBm x.2.2.2.2 hu hv)
  by_cases e : t = u
  · subst e; rw [u_ss, uB_s]
  · rw [u_sn _ _ _ e, uB_n _ _ (by omega)]; exact p.2.2.1 t ht
theorem NSk {k v : Nat} (x : NS h A B) (wb : WB A (uB B k v)) : NS (md_up h 92 k (nI v)) A (uB B k v) := by
  refine NS_c (fun a j _ => u_nn _ _ _ _ (by omega)) x (fun i hi => ?_) wb
  rw [Nat.zero_add]
  by_cases e : i = k
  · subst e; rw [u_ss, uB_s]
  · rw [u_sn _ _ _ e, uB_n _ _ e]; exact ms_now x hi
theorem m_atMost (h : Mm) {x : Nat} (hx : x < 1000000001) : fX8_atMost h (nI x) = some (nI (min 999999 x)) := by
  rw [fX8_atMost, show (999999 : Int32) = nI 999999 from rfl]
  simp only [n_le (show 999999 < 1000000001 by omega) hx]
  by_cases c : 999999 ≤ x
  · rw [if_pos c, bd_s, show min 999999 x = 999999 by omega]
  · rw [if_neg c, bd_s, show min 999999 x = x by omega]
theorem x_atMost {x : Nat} (hx : x < 1000000001) : (if (999999 : Int32) < nI x then (999999 : Int32) else nI x) = nI (min 999999 x) := by
  rw [show (999999 : Int32) = nI 999999 from rfl]
  simp only [n_lt (show 999999 < 1000000001 by omega) hx]
  by_cases c : 999999 < x
  · rw [if_pos c, show min 999999 x = 999999 by omega]
  · rw [if_neg c, show min 999999 x = x by omega]
def lB (B : Nat → Nat) (t : Nat) (b : Bool) : Nat → Nat := uB (uB B 0 (B 0 ||| (if b then B (2 + t) else 0))) 1 (B 1 ||| 2 ^ t)
def du (A : Ab) (B : Nat → Nat) (t : Nat) : Nat := dZ A (B (2 + t)) (clo A (B 0))
def pB (A : Ab) (B : Nat → Nat) (t : Nat) : Nat → Nat := lB (uB B 7 (min 999999 (B 7 + du A B t))) t true
theorem x_leaves (x : XS h A B) {t : Nat} (ht : t < A 0 5) (b : Bool) : ∃ h' : Mm, fX4_leaves h 13 (nI t) b = some h' ∧ XS h' A (lB B t b) ∧ (∀ a, a ≠ 13 → h' a = h a) := by
  have h5 := x.1.2.2.2.2.2.1
  have wb := x.2.2.2.2
  have hb := wb.2.2.1 t (by omega)
  rw [fX4_leaves]
  have key : ∀ g : Mm, XS g A (uB B 0 (B 0 ||| (if b then B (2 + t) else 0))) → (∀ a, a ≠ 13 → g a = h a) → ∃ h' : Mm, (md_lt (md_up g 13 2 ((g 13 2) ||| ((1 : Int32) <<< (nI t &&& 31)))) (fun h_5 : Mm => some h_5)) = some h' ∧ XS h' A (lB B t b) ∧ (∀ a, a ≠ 13 → h' a = h a) := by
    intro g xg fg
    have e : g 13 2 = nI (B 1) := xg.2.2.2.1.2.1
    rw [lt_e, e, n_shl t (by omega), n_or]
    exact ⟨_, rfl, XS1 xg (or_lt wb.2.1 (Nat.pow_lt_pow_right (by decide) ht)), fun a ha => by rw [up_n _ _ _ ha, fg a ha]⟩
  cases b
  · rw [if_neg (by decide), bd_s]
    refine key h ?_ (fun _ _ => rfl)
    rw [if_neg (by decide), Nat.or_zero, uB_id]
    exact x
  · rw [if_pos rfl, xs_mind x (by omega), bd_s, lt_e, bd_s, x.2.2.2.1.1, n_or]
    exact key _ (XS0 x (or_lt wb.1 hb)) (fun a ha => up_n _ _ _ ha)
theorem x_letPass (x : XS h A B) {t : Nat} (ht : t < A 0 5) : ∃ h' : Mm, fX7_letPass h (nI t) = some (nI (du A B t), h') ∧ XS h' A (pB A B t) ∧ (∀ a, a ≠ 13 → h' a = h a) := by
  have h5 := x.1.2.2.2.2.2.1
  have wb := x.2.2.2.2
  have hd : du A B t ≤ 792 := dZ_le x.1 _ _
  have h7 := wb.2.2.2.1
  rw [fX7_letPass, xs_duty x (by omega), bd_s, lt_e, x.2.2.2.1.2.2.2.1, nI_add, x_atMost (by unfold du at hd; omega)]
  obtain ⟨g, g1, g2, g3⟩ := x_leaves (XS7 x (show min 999999 (B 7 + du A B t) ≤ 999999 by omega)) ht true
  refine ⟨g, ?_, g2, fun a ha => by rw [g3 a ha, up_n _ _ _ ha]⟩
  rw [show dZ A (B (2 + t)) (clo A (B 0)) = du A B t from rfl, g1]; rfl
theorem m_passNow (m : NS h A B) {t : Nat} (ht : t < A 0 5) : ∃ h' : Mm, fX8_passNow h (nI t) = some (nI (du A B t), h') ∧ NS h' A (pB A B t) ∧ (∀ a, a ≠ 92 → h' a = h a) := by
  have h5 := m.1.2.2.2.2.2.1
  have wb := m.2.2.2
  have hb := wb.2.2.1 t (by omega)
  have hd : du A B t ≤ 792 := dZ_le m.1 _ _
  have h7 := wb.2.2.2.1
  have n7 : NS (md_up h 92 7 (nI (min 999999 (B 7 + du A B t)))) A (uB B 7 (min 999999 (B 7 + du A B t))) := NSk m (WB7 wb (by omega))
  have n0 := NSk n7 (k := 0) (v := B 0 ||| B (2 + t)) (WB0 n7.2.2.2 (or_lt wb.1 hb))
  have n1 := NSk n0 (k := 1) (v := B 1 ||| 2 ^ t) (WB1 n0.2.2.2 (or_lt wb.2.1 (Nat.pow_lt_pow_right (by decide) ht)))
  have e : pB A B t = uB (uB (uB B 7 (min 999999 (B 7 + du A B t))) 0 (B 0 ||| B (2 + t))) 1 (B 1 ||| 2 ^ t) := by
    unfold pB lB
    rw [if_pos rfl, uB_n _ _ (show 2 + t ≠ 7 by omega)]
    rfl
  rw [← e] at n1
  refine ⟨_, ?_, n1, fun a ha => by rw [up_n _ _ _ ha, up_n _ _ _ ha, up_n _ _ _ ha]⟩
  · simp only [fX8_passNow, in_2t (show t < 7 by omega), in_7, in_0, in_1, ck_t, cl_2t (show t < 7 by omega), c_7, c_0, c_1, ms_now m (show 2 + t < 9 by omega), ms_now m (show 7 < 9 by omega), ms_owed m hb, bd_s, lt_e, nI_add]
    rw [m_atMost _ (by unfold du at hd; omega), bd_s, u_sn _ _ _ (show 0 ≠ 7 by omega), u_sn _ _ _ (show 2 + t ≠ 7 by omega), u_sn _ _ _ (show 1 ≠ 0 by omega), u_sn _ _ _ (show 1 ≠ 7 by omega), ms_now m (show 0 < 9 by omega), ms_now m (show 2 + t < 9 by omega), ms_now m (show 1 < 9 by omega), n_shl t (by omega), n_or, n_or]
    rfl
def br (A : Ab) (B : Nat → Nat) (t : Nat) (b : Bool) : Bool := b && decide (an (B (2 + t)) (clo A (B 0)) ≠ 0)
theorem m_roundNow (m : NS h A B) {t : Nat} (ht : t < A 0 5) (b : Bool) : ∃ h' : Mm, fX8_roundNow h (nI t) b = some (md_bi (br A B t b), h') ∧ NS h' A (lB B t b) ∧ (∀ a, a ≠ 92 → h' a = h a) := by
  have h5 := m.1.2.2.2.2.2.1
  have wb := m.2.2.2
  have hb := wb.2.2.1 t (by omega)
  have h8 := m.1.2.2.1
  have hcl := clo_lt m.1 wb.1
  have ha := an_lt (b := clo A (B 0)) hb
  have hp := pw_le h8
  have hv : (if b then B (2 + t) else 0) < 2 ^ A 0 2 := by
    cases b
    · exact Nat.two_pow_pos _
    · exact hb
  have n0 := NSk m (k := 0) (v := B 0 ||| (if b then B (2 + t) else 0)) (WB0 wb (or_lt wb.1 hv))
  have n1 := NSk n0 (k := 1) (v := B 1 ||| 2 ^ t) (WB1 n0.2.2.2 (or_lt wb.2.1 (Nat.pow_lt_pow_right (by decide) ht)))
  refine ⟨_, ?_, n1, ?_⟩
  · have e0 : (nI (an (B (2 + t)) (clo A (B 0))) = 0) ↔ an (B (2 + t)) (clo A (B 0)) = 0 := n_eq (b := 0) (by omega) (by omega)
    simp only [fX8_roundNow, in_2t (show t < 7 by omega), in_0, in_1, ck_t, cl_2t (show t < 7 by omega), c_0, c_1, ms_cl0 m, ms_now m (show 2 + t < 9 by omega), bd_s, lt_e, n_an (p31 h8 hb) (p31 h8 hcl), e0]
    cases b
    · simp only [Bool.false_eq_true, if_false, bd_s]
      rw [u_sn _ _ _ (show 1 ≠ 0 by omega), ms_now m (show 1 < 9 by omega), n_shl t (by omega), n_or, ms_now m (show 0 < 9 by omega), show (0 : Int32) = nI 0 from rfl, n_or]
      rfl
    · simp only [if_true, bd_s]
      by_cases z : an (B (2 + t)) (clo A (B 0)) = 0
      · simp only [if_pos z, bd_s, Bool.false_eq_true, if_false]
        rw [u_sn _ _ _ (show 1 ≠ 0 by omega), ms_now m (show 1 < 9 by omega), n_shl t (by omega), n_or, ms_now m (show 0 < 9 by omega), n_or]
        simp [br, z]
      · simp only [if_neg z, bd_s, if_true]
        rw [u_sn _ _ _ (show 1 ≠ 0 by omega), ms_now m (show 1 < 9 by omega), n_shl t (by omega), n_or, ms_now m (show 0 < 9 by omega), n_or]
        simp [br, z]
  · intro a ha
    rw [up_n _ _ _ ha, up_n _ _ _ ha]
theorem x_st (q : QS h A B) (gp : GP h A) : ∃ n nx P g1, fX3_remember h 13 = some g1 ∧ HX g1 n nx P ∧ (∀ a, (a < 15 ∨ 56 < a) → g1 a = h a) ∧ (∀ i, i < n → WB A (P i)) ∧ XS g1 A B ∧ (∀ h1 : Mm, (∀ a j, 84 ≤ a → h1 a j = h a j) → ∃ g2, fX8_remember h1 = some g2 ∧ HM g2 n P ∧ (∀ a j, (a ≠ 84 ∨ j ≠ 35) → a ≠ 103 → g2 a j = h1 a j) ∧ NS g2 A B) := by
  obtain ⟨n, nx, P, hx, hm, wp⟩ := gp
  have xs := QS_x q
  obtain ⟨g1, a1, a2, a3⟩ := x_rem xs.2.2.2.1 hx
  refine ⟨_, _, _, g1, a1, a2, a3, fun i hi => ?_, XS_t (fun a j _ => by rw [a3 a (by omega)]) xs, fun h1 f1 => ?_⟩
  · cases i with
    | zero => exact xs.2.2.2.2
    | succ i => exact wp i (by omega)
  · have ms : NS h1 A B := NS_t (fun a j _ => f1 a j (by omega)) (QS_m q)
    obtain ⟨g2, b1, b2, b3⟩ := m_rem hx.1 ms.2.2.1 (HM_t (fun a j _ => f1 a j (by omega)) hm)
    exact ⟨g2, b1, b2, b3, NS_t (fun a j _ => b3 a j (by omega) (by omega)) ms⟩
theorem fin {h g1 h1 g2 h2 : Mm} {A : Ab} {B' : Nat → Nat} {n nx : Nat} {P : Nat → Nat → Nat} (gr : GR h A) (gl : GL h2) (hx : HX g1 n nx P) (f1 : ∀ a, (a < 15 ∨ 56 < a) → g1 a = h a) (x1 : XS h1 A B') (f2 : ∀ a j, a ≠ 13 → a ≠ 14 → (a ≠ 0 ∨ j ≠ 8) → h1 a j = g1 a j) (hm : HM g2 n P) (f3 : ∀ a j, (a ≠ 84 ∨ j ≠ 35) → a ≠ 103 → g2 a j = h1 a j) (m2 : NS h2 A B') (f4 : ∀ a j, a ≠ 92 → (a ≠ 84 ∨ j ≠ 14) → h2 a j = g2 a j) (wp : ∀ i, i < n → WB A (P i)) : Inv h2 := by
  refine ⟨A, B', QS_of (XS_t (fun a j _ => by rw [f4 a j (by omega) (by omega), f3 a j (by omega) (by omega)]) x1) m2, ⟨n, nx, P, HX_t (fun a j _ _ => by rw [f4 a j (by omega) (by omega), f3 a j (by omega) (by omega), f2 a j (by omega) (by omega) (by omega)]) hx, HM_t (fun a j _ => by rw [f4 a j (by omega) (by omega)]) hm, wp⟩, gl, GR_p (fun a j _ _ _ _ _ _ => by rw [f4 a j (by omega) (by omega), f3 a j (by omega) (by omega), f2 a j (by omega) (by omega) (by omega), f1 a (by omega)]) gr⟩
end PU
