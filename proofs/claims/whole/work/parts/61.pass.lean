/-! thePass -/
def clr (h : Mm) (c : Nat) : Mm := md_up (md_up (md_up (md_up (md_up (md_up (md_up (md_up h c 0 0) c 1 0) c 2 0) c 3 0) c 5 0) c 9 0) c 13 0) c 14 0
def X0 (h : Mm) (c : Nat) : Mm := md_up (md_up (md_up (clr h c) 1 4 0) 1 3 0) 1 2 (-1)
def Y0 (h : Mm) : Mm := md_up (md_up (md_up (md_up (md_up (md_up (md_up (md_up (md_up h 84 17 (-1)) 84 18 0) 94 0 0) 94 1 0) 84 22 0) 84 24 0) 84 28 0) 84 32 0) 84 33 0
def A0 : Ab := fun _ _ => 0
def M0 : Nat → Nat := fun _ => 0
theorem WK_0 : WK A0 0 M0 := by
  refine ⟨⟨Nat.zero_le _, Nat.zero_le _, Nat.zero_le _, Nat.zero_le _, Nat.zero_le _, Nat.zero_le _, fun i hi => absurd hi (Nat.not_lt_zero i), fun i hi => absurd hi (Nat.not_lt_zero i), fun i hi => absurd hi (Nat.not_lt_zero i)⟩, Nat.two_pow_pos _, fun t ht => absurd ht (Nat.not_lt_zero t)⟩
theorem clr_f (h : Mm) (c : Nat) {a : Nat} (j : Nat) (ha : a ≠ c) : clr h c a j = h a j := by
  unfold clr
  rw [u_nn _ _ _ _ ha, u_nn _ _ _ _ ha, u_nn _ _ _ _ ha, u_nn _ _ _ _ ha, u_nn _ _ _ _ ha, u_nn _ _ _ _ ha, u_nn _ _ _ _ ha, u_nn _ _ _ _ ha]
theorem X0_f (h : Mm) {c : Nat} (hc : c ≠ 1) {a j : Nat} (q1 : a ≠ 1 ∨ j ≤ 1 ∨ 6 ≤ j) (q2 : a ≠ c) : X0 h c a j = h a j := by
  unfold X0
  rw [u_f _ _ (by omega), u_f _ _ (by omega), u_f _ _ (by omega), clr_f h c j q2]
theorem Y0_f (h : Mm) {a j : Nat} (q1 : a ≠ 84 ∨ j < 17 ∨ 33 < j) (q2 : a ≠ 94) : Y0 h a j = h a j := by
  unfold Y0
  rw [u_f _ _ (by omega), u_f _ _ (by omega), u_f _ _ (by omega), u_f _ _ (by omega), u_f _ _ (by omega), u_f _ _ (by omega), u_f _ _ (by omega), u_f _ _ (by omega), u_f _ _ (by omega)]
theorem jp0 {h hm : Mm} {n c : Nat} {T : Nat → Nat} (hc : c = 3 ∨ c = 74) (e16 : md_dx (h 1 6) = c) (t1 : n ≤ 240) (t2 : ∀ i, i < n → T i ≤ 255) (t3 : h 1 1 = nI n) (t4 : hm 84 16 = nI n) (t5 : ∀ i, i < n → h 2 i = nI (T i)) (t6 : ∀ i, i < n → hm 93 i = nI (T i)) : JP n T c A0 0 M0 0 (X0 h c) (Y0 hm) := by
  have hc1 : c ≠ 1 := by omega
  have cz : ∀ j, (j = 0 ∨ j = 1 ∨ j = 2 ∨ j = 3 ∨ j = 5 ∨ j = 9 ∨ j = 13 ∨ j = 14) → X0 h c c j = 0 := by
    intro j hj
    unfold X0 clr
    rw [u_nn _ _ _ _ hc1, u_nn _ _ _ _ hc1, u_nn _ _ _ _ hc1]
    rcases hj with rfl | rfl | rfl | rfl | rfl | rfl | rfl | rfl
    · rw [u_sn _ _ _ (by omega), u_sn _ _ _ (by omega), u_sn _ _ _ (by omega), u_sn _ _ _ (by omega), u_sn _ _ _ (by omega), u_sn _ _ _ (by omega), u_sn _ _ _ (by omega), u_ss]
    · rw [u_sn _ _ _ (by omega), u_sn _ _ _ (by omega), u_sn _ _ _ (by omega), u_sn _ _ _ (by omega), u_sn _ _ _ (by omega), u_sn _ _ _ (by omega), u_ss]
    · rw [u_sn _ _ _ (by omega), u_sn _ _ _ (by omega), u_sn _ _ _ (by omega), u_sn _ _ _ (by omega), u_sn _ _ _ (by omega), u_ss]
    · rw [u_sn _ _ _ (by omega), u_sn _ _ _ (by omega), u_sn _ _ _ (by omega), u_sn _ _ _ (by omega), u_ss]
    · rw [u_sn _ _ _ (by omega), u_sn _ _ _ (by omega), u_sn _ _ _ (by omega), u_ss]
    · rw [u_sn _ _ _ (by omega), u_sn _ _ _ (by omega), u_ss]
    · rw [u_sn _ _ _ (by omega), u_ss]
    · rw [u_ss]
  have yz : ∀ j, (j = 22 ∨ j = 24 ∨ j = 28 ∨ j = 32 ∨ j = 33) → Y0 hm 84 j = 0 := by
    intro j hj
    unfold Y0
    rcases hj with rfl | rfl | rfl | rfl | rfl
    · rw [u_sn _ _ _ (by omega), u_sn _ _ _ (by omega), u_sn _ _ _ (by omega), u_sn _ _ _ (by omega), u_ss]
    · rw [u_sn _ _ _ (by omega), u_sn _ _ _ (by omega), u_sn _ _ _ (by omega), u_ss]
    · rw [u_sn _ _ _ (by omega), u_sn _ _ _ (by omega), u_ss]
    · rw [u_sn _ _ _ (by omega), u_ss]
    · rw [u_ss]
  refine ⟨WK_0, ⟨⟨cz 1 (by omega), cz 2 (by omega), cz 3 (by omega), cz 5 (by omega), cz 9 (by omega), cz 14 (by omega), fun i hi => absurd hi (Nat.not_lt_zero i), fun i hi => absurd hi (Nat.not_lt_zero i), fun i hi => absurd hi (Nat.not_lt_zero i)⟩, cz 0 (by omega), cz 13 (by omega), fun i hi => absurd hi (Nat.not_lt_zero i)⟩, ⟨?_, ?_, yz 22 (by omega), yz 24 (by omega), yz 28 (by omega), yz 33 (by omega), yz 32 (by omega), fun i hi => absurd hi (Nat.not_lt_zero i), fun i hi => absurd hi (Nat.not_lt_zero i), fun i hi => absurd hi (Nat.not_lt_zero i), fun i hi => absurd hi (Nat.not_lt_zero i)⟩, ⟨t1, Nat.zero_le _, t2, ?_, ?_, fun i hi => ?_⟩, ⟨t1, Nat.zero_le _, t2, ?_, ?_, fun i hi => ?_⟩, ?_, ?_, hc⟩
  · unfold Y0
    rw [u_nn _ _ _ _ (by omega), u_nn _ _ _ _ (by omega), u_nn _ _ _ _ (by omega), u_nn _ _ _ _ (by omega), u_nn _ _ _ _ (by omega), u_sn _ _ _ (by omega), u_ss]; rfl
  · unfold Y0
    rw [u_nn _ _ _ _ (by omega), u_nn _ _ _ _ (by omega), u_nn _ _ _ _ (by omega), u_nn _ _ _ _ (by omega), u_nn _ _ _ _ (by omega), u_ss]; rfl
  · rw [X0_f h hc1 (by omega) (by omega)]; exact t3
  · unfold X0
    rw [u_sn _ _ _ (by omega), u_sn _ _ _ (by omega), u_ss]; rfl
  · rw [X0_f h hc1 (by omega) (by omega)]; exact t5 i hi
  · rw [Y0_f hm (by omega) (by omega)]; exact t4
  · unfold Y0
    rw [u_sn _ _ _ (by omega), u_sn _ _ _ (by omega), u_sn _ _ _ (by omega), u_sn _ _ _ (by omega), u_sn _ _ _ (by omega), u_nn _ _ _ _ (by omega), u_nn _ _ _ _ (by omega), u_ss]; rfl
  · rw [Y0_f hm (by omega) (by omega)]; exact t6 i hi
  · unfold X0
    rw [u_sn _ _ _ (by omega), u_ss]
  · rw [X0_f h hc1 (by omega) (by omega)]; exact e16
theorem dx_ex {c : Nat} (hc : c = 3 ∨ c = 74) : md_dx (md_ex c) = c := by
  rcases hc with rfl | rfl <;> decide
noncomputable def chn (h_3 : Mm) : Option (Int32 × Mm) := md_b2 (fX6_exchange h_3 (md_dx (h_3 0 7))) (fun r_4 h_5 => md_ck (md_cb r_4) (md_lt (md_up h_5 0 7 (md_ex r_4)) (fun h_7 : Mm => md_bd (fX1_findAllFrom h_7 (md_dx (h_7 0 7))) (fun h_8 => md_bd (fX4_begin h_8 13 (md_dx (h_8 0 7))) (fun h_9 => md_lt (md_up h_9 15 2 (0 : Int32)) (fun h_10 : Mm => md_bd (fX2_forget h_10) (fun h_11 => md_lt (md_up h_11 65 4 (0 : Int32)) (fun h_12 : Mm => md_lt (md_up h_12 70 2 (0 : Int32)) (fun h_13 : Mm => some ((h_13 (md_dx (h_13 0 7)) 3), h_13))))))))))
theorem x_succ {h3 : Mm} {c d R : Nat} {A : Ab} {M : Nat → Nat} (hcd : c = 3 ∧ d = 74 ∨ c = 74 ∧ d = 3) (e16 : md_dx (h3 1 6) = c) (e07 : md_dx (h3 0 7) = d) (w : WK A R M) (kx : KX h3 c A R M) : ∃ h1 : Mm, chn h3 = some (nI (A 0 2), h1) ∧ XS h1 A (bB A R M) ∧ NB h1 A ∧ SW h1 ∧ h1 15 2 = 0 ∧ h1 60 0 = 0 ∧ h1 60 1 = 0 ∧ h1 65 4 = 0 ∧ h1 70 2 = 0 ∧ (∀ a j, (84 ≤ a ∨ a = 1 ∧ j ≤ 2 ∨ a = 0 ∧ j = 8 ∨ a = 15 ∧ j = 1) → h1 a j = h3 a j) := by
  have hc : c = 3 ∨ c = 74 := by omega
  have hcb : md_cb c = true := by rcases hc with rfl | rfl <;> decide
  generalize hg : md_up (md_up h3 1 6 (md_ex d)) 0 7 (md_ex c) = g
  have gf : ∀ a j, (a ≠ 1 ∨ j ≠ 6) → (a ≠ 0 ∨ j ≠ 7) → g a j = h3 a j := fun a j q1 q2 => by rw [← hg, u_f _ _ q2, u_f _ _ q1]
  have g07 : g 0 7 = md_ex c := by rw [← hg, u_ss]
  have g16 : g 1 6 = md_ex d := by rw [← hg, u_nn _ _ _ _ (by omega), u_ss]
  have kg : KX g c A R M := KX_t (fun a j _ _ => gf a j (by omega) (by omega)) kx
  obtain ⟨k1, a1, a2, a3⟩ := x_findAll w.1 kg.1
  have k07 : md_dx (k1 0 7) = c := by rw [a2 0 (by omega), g07]; exact dx_ex hc
  have kk : KX k1 c A R M := KX_t (fun a j _ _ => by rw [a2 a (by omega)]) kg
  obtain ⟨k2, b1, b2, b3⟩ := x_begin w.1 hc kk
  obtain ⟨k3, c1, c2, c3, c4⟩ := x_forget (md_up k2 15 2 0)
  generalize hz : md_up (md_up k3 65 4 (0 : Int32)) 70 2 (0 : Int32) = h1
  have fz : ∀ a j, (a ≠ 15 ∨ j ≠ 2) → a ≠ 60 → (a ≠ 65 ∨ j ≠ 4) → (a ≠ 70 ∨ j ≠ 2) → h1 a j = k2 a j := fun a j q1 q2 q3 q4 => by rw [← hz, u_f _ _ q4, u_f _ _ q3, c4 a q2, u_f _ _ q1]
  have fk : ∀ a j, (a ≠ 15 ∨ j ≠ 2) → a ≠ 60 → (a ≠ 65 ∨ j ≠ 4) → (a ≠ 70 ∨ j ≠ 2) → a ≠ 13 → a ≠ 14 → h1 a j = k1 a j := fun a j q1 q2 q3 q4 q5 q6 => by rw [fz a j q1 q2 q3 q4, b3 a q5 q6]
  have z07 : h1 0 7 = md_ex c := by rw [fk 0 7 (by omega) (by omega) (by omega) (by omega) (by omega) (by omega), a2 0 (by omega), g07]
  have zdx : md_dx (h1 0 7) = c := by rw [z07]; exact dx_ex hc
  have kz : KX h1 c A R M := KX_t (fun a j _ _ => fk a j (by omega) (by omega) (by omega) (by omega) (by omega) (by omega)) kk
  refine ⟨h1, ?_, ⟨w.1, by rw [zdx]; exact kz.1, by rw [zdx]; exact TX_t (fun j => fk _ j (by omega) (by omega) (by omega) (by omega) (by omega) (by omega)) a3, PX_t (fun a j _ => fz a j (by omega) (by omega) (by omega) (by omega)) b2, WB_b w⟩, ?_, ?_, ?_, ?_, ?_, ?_, ?_, ?_⟩
  · rw [chn, fX6_exchange, lt_e, b2_s, e16, e07, hcb, ck_t, lt_e, hg, g07, dx_ex hc, a1, bd_s, k07, b1, bd_s, lt_e, c1, bd_s, lt_e, lt_e, hz, zdx, kz.1.2.2.1]
  · unfold NB; rw [zdx]; exact kz.2.1
  · have z16 : h1 1 6 = md_ex d := by rw [fk 1 6 (by omega) (by omega) (by omega) (by omega) (by omega) (by omega), a2 1 (by omega), g16]
    unfold SW
    rw [z07, z16]
    rcases hcd with ⟨rfl, rfl⟩ | ⟨rfl, rfl⟩ <;> decide
  · rw [← hz, u_nn _ _ _ _ (by omega), u_nn _ _ _ _ (by omega), c4 15 (by omega), u_ss]
  · rw [← hz, u_nn _ _ _ _ (by omega), u_nn _ _ _ _ (by omega), c2]
  · rw [← hz, u_nn _ _ _ _ (by omega), u_nn _ _ _ _ (by omega), c3]
  · rw [← hz, u_nn _ _ _ _ (by omega), u_ss]
  · rw [← hz, u_ss]
  · intro a j q
    rw [fk a j (by omega) (by omega) (by omega) (by omega) (by omega) (by omega), a2 a (by omega), gf a j (by omega) (by omega)]
theorem XS_d {h h' : Mm} {A : Ab} {B : Nat → Nat} {d : Nat} (hd : md_dx (h 0 7) = d) (f : ∀ a j, (a = 0 ∧ j = 7 ∨ d ≤ a ∧ a ≤ d + 9 ∨ a = 13 ∨ a = 14) → h' a j = h a j) (x : XS h A B) : XS h' A B := by
  obtain ⟨w, x, t, p, wb⟩ := x
  have e : h' 0 7 = h 0 7 := f 0 7 (by omega)
  rw [hd] at x t
  refine ⟨w, ?_, ?_, PX_t (fun a j _ => f a j (by omega)) p, wb⟩
  · rw [e, hd]; exact CX_t (fun a j _ _ => f a j (by omega)) x
  · rw [e, hd]; exact TX_t (fun j => f _ j (by omega)) t
theorem eq_thePass {h : Mm} (I : Inv h) : ∃ r h1 h2, fX7_thePass h = some (r, h1) ∧ fX8_thePass h1 = some (r, h2) ∧ Inv h2 := by
  obtain ⟨A, B, q, gp, gl, nb, sw, gi0, gi1, gq, bk, gt, gf⟩ := id I
  have xs := QS_x q
  have ms := QS_m q
  obtain ⟨n, T, t1, t2, t3, t4, t5⟩ := gt
  obtain ⟨c, d, hcd, e16, e07⟩ : ∃ c d, (c = 3 ∧ d = 74 ∨ c = 74 ∧ d = 3) ∧ md_dx (h 1 6) = c ∧ md_dx (h 0 7) = d := by
    rcases sw with ⟨s1, s2⟩ | ⟨s1, s2⟩
    · exact ⟨74, 3, .inr ⟨rfl, rfl⟩, by rw [s2]; decide, by rw [s1]; decide⟩
    · exact ⟨3, 74, .inl ⟨rfl, rfl⟩, by rw [s2]; decide, by rw [s1]; decide⟩
  have hc : c = 3 ∨ c = 74 := by omega
  have hc1 : c ≠ 1 := by omega
  have J : ∀ hm : Mm, (∀ a j, (a = 84 ∧ j = 16 ∨ a = 93) → hm a j = h a j) → JP n T c A0 0 M0 0 (X0 h c) (Y0 hm) := fun hm f => jp0 hc e16 t1 t2 t3 (by rw [f 84 16 (by omega)]; exact t4) (fun i hi => (t5 i hi).1) (fun i hi => by rw [f 93 i (by omega)]; exact (t5 i hi).2)
  have x2 : X0 h c 1 2 = -1 := by unfold X0; rw [u_ss]
  have y2 : ∀ hm : Mm, Y0 hm 84 17 = -1 := fun hm => by
    unfold Y0
    rw [u_sn _ _ _ (by omega), u_sn _ _ _ (by omega), u_sn _ _ _ (by omega), u_sn _ _ _ (by omega), u_sn _ _ _ (by omega), u_nn _ _ _ _ (by omega), u_nn _ _ _ _ (by omega), u_sn _ _ _ (by omega), u_ss]
  have hR : fX6_read h = md_bd (fX6_read_24 md_N (X0 h c) (nI 0)) (fun (h_7 : Mm) => md_bd ((if (h_7 1 3) = 0 then some true else some false)) (fun (v_8 : Bool) => some (v_8, h_7))) := by
    rw [fX6_read, fX1_clear, lt_e, lt_e, lt_e, lt_e, lt_e, lt_e, lt_e, lt_e, bd_s, lt_e, lt_e, lt_e, e16]; rfl
  have i0 : md_in (0 : Int32) 2 = true := by decide
  have i1 : md_in (1 : Int32) 2 = true := by decide
  have hMo : ∀ hm : Mm, fX8_thePass hm = md_b2 (fX8_thePass_51 md_N (Y0 hm) (nI 0)) (fun (v_14 : Int32) (h_15 : Mm) => md_lt (md_up h_15 84 16 (0 : Int32)) (fun h_16 : Mm => (if v_14 ≤ 0 then md_bd (fX8_takeRead h_16) (fun h_17 => some ((md_up (md_up (md_up (md_up (md_up h_17 84 38 0) 84 43 0) 84 35 0) 112 0 0) 112 1 0) 84 2, md_up (md_up (md_up (md_up (md_up h_17 84 38 0) 84 43 0) 84 35 0) 112 0 0) 112 1 0)) else some (((-10 : Int32) - v_14), h_16)))) := by
    intro hm
    rw [fX8_thePass, lt_e, lt_e, i0, ck_t, lt_e, i1, ck_t, lt_e, lt_e, lt_e, lt_e, lt_e, lt_e]
    rfl
  obtain ⟨hx', hm', f, r1, r2, fx, fm, en⟩ := lp_all n 0 0 0 A0 M0 (X0 h c) (Y0 h) md_N md_N (by omega) (by omega) (by unfold md_N; omega) (by unfold md_N; omega) (J h (fun _ _ _ => rfl))
  have fx' : ∀ a j, (a ≠ 1 ∨ j ≤ 1 ∨ 6 ≤ j) → (a < c ∨ c + 8 < a) → hx' a j = h a j := fun a j q1 q2 => by rw [fx a j q1 q2, X0_f h hc1 q1 (by omega)]
  rcases en with ⟨rfl, e13, e12, e17, A1, R1, M1, w1, kx1, km1⟩ | ⟨hf0, hf4, e13, e12⟩
  · have kx3 : KX (md_up hx' 1 1 0) c A1 R1 M1 := KX_t (fun a j _ _ => u_nn _ _ _ _ (by omega)) kx1
    have d16 : md_dx (md_up hx' 1 1 0 1 6) = c := by rw [u_sn _ _ _ (by omega), fx' 1 6 (by omega) (by omega)]; exact e16
    have d07 : md_dx (md_up hx' 1 1 0 0 7) = d := by rw [u_nn _ _ _ _ (by omega), fx' 0 7 (by omega) (by omega)]; exact e07
    obtain ⟨h1, s1, -⟩ := x_succ hcd d16 d07 w1 kx3
    have hcl : fX7_thePass h = some (nI (A1 0 2), h1) := by
      rw [fX7_thePass, hR, r1, bd_s, e13, if_pos rfl, bd_s, b2_s, lt_e, if_pos rfl]
      exact s1
    have f84 : ∀ a j, 84 ≤ a → h1 a j = h a j := by
      obtain ⟨h1', s1', -, -, -, -, -, -, -, -, s10⟩ := x_succ hcd d16 d07 w1 kx3
      rw [s1] at s1'
      obtain rfl : h1 = h1' := (Prod.mk.inj (Option.some.inj s1')).2
      intro a j ha
      rw [s10 a j (by omega), u_nn _ _ _ _ (by omega), fx' a j (by omega) (by omega)]
    obtain ⟨hx2, hm2, f2, p1, p2, px, pm, pn⟩ := lp_all n 0 0 0 A0 M0 (X0 h c) (Y0 h1) md_N md_N (by omega) (by omega) (by unfold md_N; omega) (by unfold md_N; omega) (J h1 (fun a j _ => f84 a j (by omega)))
    rw [r1] at p1
    obtain rfl : hx' = hx2 := Option.some.inj p1
    rcases pn with ⟨rfl, -, -, n17, A2, R2, M2, w2, kx2, km2⟩ | ⟨hf0, hf4, n13, -⟩
    · have kx4 : KX (md_up hx' 1 1 0) c A2 R2 M2 := KX_t (fun a j _ _ => u_nn _ _ _ _ (by omega)) kx2
      obtain ⟨h1', s1', s2, s3, s4, s5, s6, s7, s8, s9, s10⟩ := x_succ hcd d16 d07 w2 kx4
      rw [s1] at s1'
      obtain ⟨e1, e2⟩ := Prod.mk.inj (Option.some.inj s1')
      subst e2
      have km3 : KM (md_up hm2 84 16 0) A2 R2 M2 := KM_t (fun a j _ => u_f _ _ (by omega)) km2
      obtain ⟨k, k1, k2, k3⟩ := m_takeRead w2 km3
      generalize hz : md_up (md_up (md_up (md_up (md_up k 84 38 0) 84 43 0) 84 35 0) 112 0 0) 112 1 0 = h2
      have fz : ∀ a j, (a ≠ 84 ∨ j ≠ 38) → (a ≠ 84 ∨ j ≠ 43) → (a ≠ 84 ∨ j ≠ 35) → a ≠ 112 → h2 a j = k a j := fun a j q1 q2 q3 q4 => by rw [← hz, u_nn _ _ _ _ q4, u_nn _ _ _ _ q4, u_f _ _ q3, u_f _ _ q2, u_f _ _ q1]
      have fl : ∀ a j, a < 84 → h2 a j = h1 a j := fun a j q => by rw [fz a j (by omega) (by omega) (by omega) (by omega), k3 a j (by omega) (by omega), u_nn _ _ _ _ (by omega), pm a j (by omega) (by omega), Y0_f h1 (by omega) (by omega)]
      have hk : ∀ j, (j = 14 ∨ j = 17) → h2 84 j = hm2 84 j := fun j q => by rw [fz 84 j (by omega) (by omega) (by omega) (by omega), k3 84 j (by omega) (by omega), u_sn _ _ _ (by omega)]
      have ms2 : NS h2 A2 (bB A2 R2 M2) := NS_t (fun a j _ => fz a j (by omega) (by omega) (by omega) (by omega)) k2
      obtain ⟨m, nx, P, hx, hm, wp⟩ := gp
      obtain ⟨z, z1, z2, z3⟩ := gl
      refine ⟨nI (A1 0 2), h1, h2, hcl, ?_, A2, bB A2 R2 M2, QS_of (XS_t (fun a j _ => fl a j (by omega)) s2) ms2, ⟨0, nx, P, ⟨by omega, hx.2.1, ?_, ?_, fun i hi => by omega⟩, ⟨?_, fun i hi => by omega⟩, fun i hi => by omega⟩, ⟨z, z1, ?_, ?_⟩, NB_t (fun a j _ => fl a j (by omega)) s3, SW_t (fun a j _ => fl a j (by omega)) s4, .inl ⟨?_, ?_⟩, .inl ⟨?_, ?_⟩, ⟨0, A0, ⟨by omega, fun i hi => by omega⟩, ⟨?_, fun i hi => by omega⟩, ?_, fun i hi => by omega⟩, ⟨0, by omega, ?_, ?_, fun i hi => by omega⟩, ⟨0, M0, by omega, fun i hi => by omega, ?_, ?_, fun i hi => by omega⟩, ?_⟩
      · rw [hMo h1, p2, b2_s, lt_e, if_pos (by decide), k1, bd_s, hz, ms2.2.1.2.2.1, e1]
      · rw [fl 15 1 (by omega), s10 15 1 (by omega), u_nn _ _ _ _ (by omega), fx' 15 1 (by omega) (by omega)]; exact hx.2.2.1
      · rw [fl 15 2 (by omega)]; exact s5
      · rw [← hz, u_nn _ _ _ _ (by omega), u_nn _ _ _ _ (by omega), u_ss]; rfl
      · rw [fl 0 8 (by omega), s10 0 8 (by omega), u_nn _ _ _ _ (by omega), fx' 0 8 (by omega) (by omega)]; exact z2
      · rw [hk 14 (by omega), pm 84 14 (by omega) (by omega), Y0_f h1 (by omega) (by omega), f84 84 14 (by omega)]; exact z3
      · rw [fl 60 0 (by omega)]; exact s6
      · rw [← hz, u_sn _ _ _ (by omega), u_ss]
      · rw [fl 60 1 (by omega)]; exact s7
      · rw [← hz, u_ss]
      · rw [fl 65 4 (by omega)]; exact s8
      · rw [← hz, u_nn _ _ _ _ (by omega), u_nn _ _ _ _ (by omega), u_sn _ _ _ (by omega), u_sn _ _ _ (by omega), u_ss]; rfl
      · rw [fl 70 2 (by omega)]; exact s9
      · rw [← hz, u_nn _ _ _ _ (by omega), u_nn _ _ _ _ (by omega), u_sn _ _ _ (by omega), u_ss]; rfl
      · rw [fl 1 1 (by omega), s10 1 1 (by omega), u_ss]; rfl
      · rw [fz 84 16 (by omega) (by omega) (by omega) (by omega), k3 84 16 (by omega) (by omega), u_ss]; rfl
      · rw [fl 1 2 (by omega), s10 1 2 (by omega), u_sn _ _ _ (by omega), e12, x2, hk 17 (by omega), n17, y2]
    · rw [e13] at n13
      exact absurd n13.symm (nI_ne0 (by omega) (by omega))
  · have hcl : fX7_thePass h = some ((-10 : Int32) - nI f, md_up hx' 1 1 0) := by
      rw [fX7_thePass, hR, r1, bd_s, e13, if_neg (nI_ne0 (by omega) (by omega)), bd_s, b2_s, lt_e, if_neg (by decide), u_sn _ _ _ (by omega), e13]
    have f84 : ∀ a j, 84 ≤ a → md_up hx' 1 1 0 a j = h a j := fun a j ha => by rw [u_nn _ _ _ _ (by omega), fx' a j (by omega) (by omega)]
    obtain ⟨hx2, hm2, f2, p1, p2, px, pm, pn⟩ := lp_all n 0 0 0 A0 M0 (X0 h c) (Y0 (md_up hx' 1 1 0)) md_N md_N (by omega) (by omega) (by unfold md_N; omega) (by unfold md_N; omega) (J _ (fun a j _ => f84 a j (by omega)))
    rw [r1] at p1
    obtain rfl : hx' = hx2 := Option.some.inj p1
    rcases pn with ⟨rfl, n13, -⟩ | ⟨hf02, hf42, n13, n12⟩
    · rw [e13] at n13
      exact absurd n13 (nI_ne0 (by omega) (by omega))
    · have ef : f = f2 := by
        rw [e13, n_eq (by omega) (by omega)] at n13
        exact n13
      subst ef
      generalize hz : md_up hm2 84 16 0 = h2
      have fl : ∀ a j, a < 84 → h2 a j = md_up hx' 1 1 0 a j := fun a j q => by rw [← hz, u_nn _ _ _ _ (by omega), pm a j (by omega) (by omega), Y0_f _ (by omega) (by omega)]
      have fm2 : ∀ a j, 84 ≤ a → (a ≠ 84 ∨ j < 16 ∨ 33 < j) → (a < 94 ∨ 102 < a) → h2 a j = h a j := fun a j q1 q2 q3 => by rw [← hz, u_f _ _ (by omega), pm a j (by omega) q3, Y0_f _ (by omega) (by omega), f84 a j q1]
      have fl2 : ∀ a j, a < 84 → (a ≠ 1 ∨ 6 ≤ j) → (a < c ∨ c + 8 < a) → h2 a j = h a j := fun a j q1 q2 q3 => by rw [fl a j q1, u_f _ _ (by omega), fx' a j (by omega) q3]
      have fa : ∀ a j, (a ≠ 1 ∨ 6 ≤ j) → (a < c ∨ c + 8 < a) → (a ≠ 84 ∨ j < 16 ∨ 33 < j) → (a < 94 ∨ 102 < a) → h2 a j = h a j := fun a j q1 q2 q3 q4 => by
        by_cases y : a < 84
        · exact fl2 a j y q1 q2
        · exact fm2 a j (by omega) q3 q4
      refine ⟨(-10 : Int32) - nI f, md_up hx' 1 1 0, h2, hcl, ?_, A, B, QS_of (XS_d e07 (fun a j _ => fa a j (by omega) (by omega) (by omega) (by omega)) xs) (NS_t (fun a j _ => fa a j (by omega) (by omega) (by omega) (by omega)) ms), GP_t (fun a j _ => fa a j (by omega) (by omega) (by omega) (by omega)) gp, GL_t (fun a j _ => fa a j (by omega) (by omega) (by omega) (by omega)) gl, ?_, SW_t (fun a j _ => fa a j (by omega) (by omega) (by omega) (by omega)) sw, GI1_t (fun a j _ => fa a j (by omega) (by omega) (by omega) (by omega)) gi0, GI1_t (fun a j _ => fa a j (by omega) (by omega) (by omega) (by omega)) gi1, GQ_t (fun a j _ => fa a j (by omega) (by omega) (by omega) (by omega)) gq, BK_t (fun a j _ => fa a j (by omega) (by omega) (by omega) (by omega)) bk, ⟨0, M0, by omega, fun i hi => by omega, ?_, ?_, fun i hi => by omega⟩, ?_⟩
      · rw [hMo, p2, b2_s, lt_e, if_neg (nI_nle (by omega) (by omega)), hz]
      · unfold NB at nb ⊢
        rw [fa 0 7 (by omega) (by omega) (by omega) (by omega), e07, fa d 0 (by omega) (by omega) (by omega) (by omega)]
        rw [e07] at nb
        exact nb
      · rw [fl 1 1 (by omega), u_ss]; rfl
      · rw [← hz, u_ss]; rfl
      · rw [fl 1 2 (by omega), u_sn _ _ _ (by omega), n12, ← hz, u_sn _ _ _ (by omega)]
