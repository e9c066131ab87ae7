theorem in8_0 : md_in (0 : Int32) 8 = true := by decide
section BQ
variable {n c R p : Nat} {T M : Nat → Nat} {A : Ab} {hx hm : Mm}
theorem b_talk (j : JP n T c A R M p hx hm) (hJ : A 0 4 < 10) : ∃ hx' hm' f, fX6_readTalk hx = some hx' ∧ fX8_takeTalk hm = some (nI f, hm') ∧ OC n T c p hx hm hx' hm' f := by
  obtain ⟨w, kx, km, rx, rm, e3, ec, hc⟩ := j
  have hb := nz_b T rx.2.1
  have h8 := w.1.2.2.1
  have hk := kd_le n T p 0 (A 0 2)
  have hk2 := kd_le n T (nz n T p) 0 (A 0 2)
  have hk3 := kd_le n T (nz n T (nz n T p)) 1 100
  have eI : hx (md_dx (hx 1 6)) 3 = nI (A 0 2) := by rw [ec]; exact kx.1.2.2.1
  have eF : ∀ g : Mm, (∀ a j, (a ≠ 1 ∨ j ≤ 1 ∨ 6 ≤ j) → g a j = hx a j) → md_dx (g 1 6) = c ∧ g (md_dx (g 1 6)) 3 = nI (A 0 2) := fun g f => by
    have e1 : md_dx (g 1 6) = c := by rw [f 1 6 (by omega)]; exact ec
    exact ⟨e1, by rw [e1, f c 3 (by omega)]; exact kx.1.2.2.1⟩
  have rm2 : RM (md_up hm 84 28 (nI (A 0 4 + 1))) n T p := RM_t (fun a j _ => u_f _ _ (by omega)) rm
  have e22 : md_up hm 84 28 (nI (A 0 4 + 1)) 84 22 = nI (A 0 2) := by rw [u_sn _ _ _ (by omega)]; exact km.2.2.1
  by_cases ck : kd n T p 0 (A 0 2) = 0
  · have k0 := kd_0 ck
    obtain ⟨g1, a1, a2, a3, a4, a5, a6⟩ := x_tdS rx e3 eI h8 ck
    obtain ⟨m1, b1, b2, b3, b4, b5, b6⟩ := m_intoS (a1 := 99) (n1 := 10) (i := A 0 4) rm2 (show 0 ≤ 1 by omega) (show A 0 2 ≤ 1000 by omega) hJ (by omega) (by omega) ck
    have b1' : fX8_into (md_up hm 84 28 (nI (A 0 4 + 1))) 99 10 (nI (A 0 4)) (0 : Int32) (nI (A 0 2) - 1) = some (0, m1) := b1
    have e1 := eF g1 a6
    have em1 : m1 84 22 = nI (A 0 2) := by rw [b6 84 22 (by omega) (by omega)]; exact e22
    have hb2 := nz_b T a2.2.1
    by_cases ck2 : kd n T (nz n T p) 0 (A 0 2) = 0
    · have k02 := kd_0 ck2
      obtain ⟨g2, c1, c2, c3, c4, c5, c6⟩ := x_tdS a2 a4 e1.2 h8 ck2
      obtain ⟨m2, d1, d2, d3, d4, d5, d6⟩ := m_intoS (a1 := 100) (n1 := 10) (i := A 0 4) b2 (show 0 ≤ 1 by omega) (show A 0 2 ≤ 1000 by omega) hJ (by omega) (by omega) ck2
      have d1' : fX8_into m1 100 10 (nI (A 0 4)) (0 : Int32) (nI (A 0 2) - 1) = some (0, m2) := d1
      have f2 : ∀ a j, (a ≠ 1 ∨ j ≤ 1 ∨ 6 ≤ j) → g2 a j = hx a j := fun a j q => by rw [c6 a j q, a6 a j q]
      have e2 := eF g2 f2
      have hb3 := nz_b T c2.2.1
      have fm2 : ∀ a j, (a ≠ 84 ∨ j < 17 ∨ 20 < j) → (a ≠ 84 ∨ j ≠ 28) → (a < 99 ∨ 100 < a ∨ j ≠ A 0 4) → m2 a j = hm a j := fun a j q1 q2 q3 => by rw [d6 a j q1 (by omega), b6 a j q1 (by omega), u_f _ _ q2]
      have e17 : m2 84 17 = hm 84 17 := by rw [d3, b3, u_sn _ _ _ (by omega)]
      have u99 : m2 99 (A 0 4) = nI (nv n T p) := by rw [d6 99 _ (by omega) (by omega)]; exact b5
      have z1 := w.1.2.2.2.2.2.2.1 (nv n T p) k0.2.1
      have z2 := w.1.2.2.2.2.2.2.1 (nv n T (nz n T p)) k02.2.1
      have y1 : m2 95 (nv n T p) = nI (A 1 (nv n T p)) := by rw [fm2 95 _ (by omega) (by omega) (by omega)]; exact km.2.2.2.2.2.2.2.1 _ k0.2.1
      have y2 : m2 95 (nv n T (nz n T p)) = nI (A 1 (nv n T (nz n T p))) := by rw [fm2 95 _ (by omega) (by omega) (by omega)]; exact km.2.2.2.2.2.2.2.1 _ k02.2.1
      have x1 : g2 (c + 1) (nv n T p) = nI (A 1 (nv n T p)) := by rw [f2 (c + 1) _ (by omega)]; exact kx.1.2.2.2.2.2.2.1 _ k0.2.1
      have x2 : g2 (c + 1) (nv n T (nz n T p)) = nI (A 1 (nv n T (nz n T p))) := by rw [f2 (c + 1) _ (by omega)]; exact kx.1.2.2.2.2.2.2.1 _ k02.2.1
      have Mo : fX8_takeTalk hm = (if nv n T (nz n T p) = nv n T p then some ((4 : Int32), md_up m2 84 17 (nI (sk n T (nz n T p)))) else (if A 1 (nv n T (nz n T p)) ≤ A 1 (nv n T p) then md_b2 (md_b2 (fX8_into m2 101 10 (nI (A 0 4)) (1 : Int32) (99 : Int32)) (fun r_20 h_21 => some (r_20, h_21))) (fun (v_17 : Int32) (h_18 : Mm) => some (v_17, h_18)) else some ((4 : Int32), md_up m2 84 17 (nI (sk n T (nz n T p)))))) := by
        rw [fX8_takeTalk, km.2.2.2.2.1, lt_e, lt_e, nI_1, e22, b1', b2_s, if_pos (show (0 : Int32) ≤ 0 by decide), em1, d1', b2_s, b2_s, if_pos rfl, in_t (i := A 0 4) (n := 10) (by omega) (by omega), ck_t, ck_t, ck_t, nI_c (n := A 0 4) (by omega), d5, u99, ck_t, in_t (i := nv n T (nz n T p)) (n := 8) (by omega) (by omega), in_t (i := nv n T p) (n := 8) (by omega) (by omega), ck_t, ck_t, nI_c (n := nv n T (nz n T p)) (by omega), nI_c (n := nv n T p) (by omega), y1, y2, if_pos (show (0 : Int32) ≤ 0 by decide), fX8_fails, lt_e, b2_s, d4]
        simp only [n_eq (show nv n T (nz n T p) < 1000000001 by omega) (show nv n T p < 1000000001 by omega), n_le (show A 1 (nv n T (nz n T p)) < 1000000001 by omega) (show A 1 (nv n T p) < 1000000001 by omega)]
      have Cl : fX6_readTalk hx = md_bd ((if nv n T p = nv n T (nz n T p) then md_bd (fX6_findFault g2 (4 : Int32) (nI (sk n T (nz n T p)))) (fun h_7 => some h_7) else (if A 1 (nv n T (nz n T p)) ≤ A 1 (nv n T p) then some g2 else md_bd (fX6_findFault g2 (4 : Int32) (nI (sk n T (nz n T p)))) (fun h_8 => some h_8)))) (fun (h_5 : Mm) => md_b2 (fX6_readNumber h_5 (1 : Int32) (99 : Int32)) (fun r_9 h_10 => md_bd ((if (h_10 1 3) = 0 then md_ck (md_in (h_10 (md_dx (h_10 1 6)) 9) 10) (md_lt (md_up h_10 ((md_dx (h_10 1 6)) + 5) ((h_10 (md_dx (h_10 1 6)) 9)).toNatClampNeg (nI (nv n T p))) (fun h_13 : Mm => md_ck (md_in (h_13 (md_dx (h_13 1 6)) 9) 10) (md_lt (md_up h_13 ((md_dx (h_13 1 6)) + 6) ((h_13 (md_dx (h_13 1 6)) 9)).toNatClampNeg (nI (nv n T (nz n T p)))) (fun h_14 : Mm => md_ck (md_in (h_14 (md_dx (h_14 1 6)) 9) 10) (md_lt (md_up h_14 ((md_dx (h_14 1 6)) + 7) ((h_14 (md_dx (h_14 1 6)) 9)).toNatClampNeg r_9) (fun h_15 : Mm => md_lt (md_up h_15 (md_dx (h_15 1 6)) 9 ((h_15 (md_dx (h_15 1 6)) 9) + (1 : Int32))) (fun h_16 : Mm => some h_16))))))) else some h_10)) (fun (h_11 : Mm) => some h_11))) := by
        rw [fX6_readTalk, a1, b2_s, c1, b2_s, in_t (i := nv n T (nz n T p)) (n := 8) (by omega) (by omega), in_t (i := nv n T p) (n := 8) (by omega) (by omega), ck_t, ck_t, nI_c (n := nv n T (nz n T p)) (by omega), nI_c (n := nv n T p) (by omega), e2.1, x1, x2, c3]
        simp only [n_eq (show nv n T p < 1000000001 by omega) (show nv n T (nz n T p) < 1000000001 by omega), n_le (show A 1 (nv n T (nz n T p)) < 1000000001 by omega) (show A 1 (nv n T p) < 1000000001 by omega)]
      by_cases bad : nv n T p = nv n T (nz n T p) ∨ ¬ A 1 (nv n T (nz n T p)) ≤ A 1 (nv n T p)
      · obtain ⟨g4, v1, v2, v3, v4⟩ := x_ff0 (4 : Int32) (nI (sk n T (nz n T p))) c4
        have v2' : g4 1 3 = nI 4 := v2
        obtain ⟨g5, s1, s2, s3, s4, s5⟩ := x_numD (lo := 1) (m := 100) ⟨_, RX_t (fun a j _ => v4 a j (by omega) (by omega)) c2⟩ v2' (by omega) (by omega) (by omega) (by omega)
        have s1' : fX6_readNumber g4 (1 : Int32) (99 : Int32) = some (0, g5) := by rw [n_99]; exact s1
        refine ⟨g5, md_up m2 84 17 (nI (sk n T (nz n T p))), 4, ?_, ?_, fun a j q1 q2 => ?_, fun a j q1 q2 => ?_, .inr ⟨by omega, by omega, s3, ?_, s2⟩⟩
        · rw [Cl, v1, bd_s]
          have : (if nv n T p = nv n T (nz n T p) then some g4 else (if A 1 (nv n T (nz n T p)) ≤ A 1 (nv n T p) then some g2 else some g4)) = some g4 := by
            rcases bad with q | q
            · rw [if_pos q]
            · rw [if_neg q, ite_self]
          rw [this, bd_s, s1', b2_s, s3, if_neg (by decide), bd_s]
        · rw [Mo]
          rcases bad with q | q
          · rw [if_pos q.symm]; rfl
          · rw [if_neg q, ite_self]; rfl
        · rw [s5 a j q1, v4 a j (by omega) (by omega), f2 a j q1]
        · rw [u_f _ _ (by omega), fm2 a j (by omega) (by omega) (by omega)]
        · rw [s4, v3, u_ss]
      · have n1 : ¬ nv n T p = nv n T (nz n T p) := fun q => bad (.inl q)
        have n2 : A 1 (nv n T (nz n T p)) ≤ A 1 (nv n T p) := Classical.byContradiction fun q => bad (.inr q)
        rw [if_neg (fun q => n1 q.symm), if_pos n2] at Mo
        rw [if_neg n1, if_pos n2, bd_s] at Cl
        by_cases ck3 : kd n T (nz n T (nz n T p)) 1 100 = 0
        · have k03 := kd_0 ck3
          obtain ⟨g3, s1, s2, s3, s4, s5, s6⟩ := x_numS c2 c4 (show 1 ≤ 1 by omega) (show 100 ≤ 1000 by omega) ck3
          obtain ⟨m3, t1, t2, t3, t4, t5, t6⟩ := m_intoS (a1 := 101) (n1 := 10) (i := A 0 4) d2 (show 1 ≤ 1 by omega) (show 100 ≤ 1000 by omega) hJ (by omega) (by omega) ck3
          have s1' : fX6_readNumber g2 (1 : Int32) (99 : Int32) = some (nI (nv n T (nz n T (nz n T p))), g3) := by rw [n_99]; exact s1
          have t1' : fX8_into m2 101 10 (nI (A 0 4)) (1 : Int32) (99 : Int32) = some (0, m3) := by rw [n_99]; exact t1
          have f3 : ∀ a j, (a ≠ 1 ∨ j ≤ 1 ∨ 6 ≤ j) → g3 a j = hx a j := fun a j q => by rw [s6 a j q, f2 a j q]
          have e3' := eF g3 f3
          have eJ : g3 c 9 = nI (A 0 4) := by rw [f3 c 9 (by omega)]; exact kx.1.2.2.2.2.1
          have fm : ∀ a j, (a ≠ 84 ∨ j < 17 ∨ 20 < j) → (a ≠ 84 ∨ j ≠ 28) → (a < 99 ∨ 101 < a ∨ j ≠ A 0 4) → m3 a j = hm a j := fun a j q1 q2 q3 => by rw [t6 a j q1 (by omega), fm2 a j q1 q2 (by omega)]
          rw [t1', b2_s, b2_s] at Mo
          rw [s1', b2_s, s4, if_pos rfl, e3'.1, eJ, in_t (by omega) (by omega), ck_t, lt_e, nI_c (by omega), u_nn _ _ _ _ (show 1 ≠ c + 5 by omega), e3'.1, u_nn _ _ _ _ (show c ≠ c + 5 by omega), eJ, in_t (by omega) (by omega), ck_t, lt_e, nI_c (by omega), u_nn _ _ _ _ (show 1 ≠ c + 6 by omega), u_nn _ _ _ _ (show 1 ≠ c + 5 by omega), e3'.1, u_nn _ _ _ _ (show c ≠ c + 6 by omega), u_nn _ _ _ _ (show c ≠ c + 5 by omega), eJ, in_t (by omega) (by omega), ck_t, lt_e, nI_c (by omega), u_nn _ _ _ _ (show 1 ≠ c + 7 by omega), u_nn _ _ _ _ (show 1 ≠ c + 6 by omega), u_nn _ _ _ _ (show 1 ≠ c + 5 by omega), e3'.1, u_nn _ _ _ _ (show c ≠ c + 7 by omega), u_nn _ _ _ _ (show c ≠ c + 6 by omega), u_nn _ _ _ _ (show c ≠ c + 5 by omega), eJ, nI_1, lt_e, bd_s] at Cl
          refine ⟨_, m3, 0, Cl, Mo, fun a j q1 q2 => ?_, fun a j q1 q2 => ?_, .inl ⟨rfl, ?_, ?_, eA A (nv n T p) (nv n T (nz n T p)) (nv n T (nz n T (nz n T p))), R, M, nz n T (nz n T (nz n T p)), ?_, WK_e w hJ (by omega) (by omega) (by omega) (by omega), KX_e kx ?_ ?_ ?_ ?_ ?_, KM_e km (fun a j q1 q2 q3 => fm a j (by omega) q2 q3) ?_ ?_ ?_ t5, ?_, t2, ?_, ?_, hc⟩⟩
          · rw [u_nn _ _ _ _ (by omega), u_nn _ _ _ _ (by omega), u_nn _ _ _ _ (by omega), u_nn _ _ _ _ (by omega), f3 a j q1]
          · rw [fm a j (by omega) (by omega) (by omega)]
          · rw [u_nn _ _ _ _ (by omega), u_nn _ _ _ _ (by omega), u_nn _ _ _ _ (by omega), u_nn _ _ _ _ (by omega), s5, c5, a5]
          · rw [t3, e17]
          · omega
          · intro a j q1 q2 q3 q4
            rw [u_f _ _ q3, u_f _ _ (by omega), u_f _ _ (by omega), u_f _ _ (by omega), f3 a j (by omega)]
          · rw [u_ss]
          · rw [u_nn _ _ _ _ (by omega), u_nn _ _ _ _ (by omega), u_nn _ _ _ _ (by omega), u_ss]
          · rw [u_nn _ _ _ _ (by omega), u_nn _ _ _ _ (by omega), u_ss]
          · rw [u_nn _ _ _ _ (by omega), u_ss]
          · rw [t6 84 28 (by omega) (by omega), d6 84 28 (by omega) (by omega), b6 84 28 (by omega) (by omega), u_ss]
          · rw [t6 99 _ (by omega) (by omega)]; exact u99
          · rw [t6 100 _ (by omega) (by omega)]; exact d5
          · exact RX_t (fun a j _ => by rw [u_nn _ _ _ _ (by omega), u_nn _ _ _ _ (by omega), u_nn _ _ _ _ (by omega), u_nn _ _ _ _ (by omega)]) s2
          · rw [u_nn _ _ _ _ (by omega), u_nn _ _ _ _ (by omega), u_nn _ _ _ _ (by omega), u_nn _ _ _ _ (by omega), s4]
          · rw [u_nn _ _ _ _ (by omega), u_nn _ _ _ _ (by omega), u_nn _ _ _ _ (by omega), u_nn _ _ _ _ (by omega)]; exact e3'.1
        · obtain ⟨g3, s1, s2, s3, s4, s5⟩ := x_numF c2 c4 (show 1 ≤ 1 by omega) (show 100 ≤ 1000 by omega) ck3
          obtain ⟨m3, t1, t2, t3⟩ := m_intoF (a1 := 101) (n1 := 10) (i := A 0 4) d2 (show 1 ≤ 1 by omega) (show 100 ≤ 1000 by omega) hJ (by omega) (by omega) ck3
          have s1' : fX6_readNumber g2 (1 : Int32) (99 : Int32) = some (0, g3) := by rw [n_99]; exact s1
          have t1' : fX8_into m2 101 10 (nI (A 0 4)) (1 : Int32) (99 : Int32) = some (nI (kd n T (nz n T (nz n T p)) 1 100), m3) := by rw [n_99]; exact t1
          rw [t1', b2_s, b2_s] at Mo
          rw [s1', b2_s, s3, if_neg (nI_ne0 (by omega) (by omega)), bd_s] at Cl
          exact ⟨g3, m3, kd n T (nz n T (nz n T p)) 1 100, Cl, Mo, fun a j q1 q2 => by rw [s5 a j q1, f2 a j q1], fun a j q1 q2 => by rw [t3 a j (by omega) (by omega), fm2 a j (by omega) (by omega) (by omega)], .inr ⟨ck3, by omega, s3, by rw [s4, t2], s2⟩⟩
    · obtain ⟨g2, c1, c2, c3, c4, c5⟩ := x_tdF a2 a4 e1.2 h8 ck2
      obtain ⟨m2, d1, d2, d3⟩ := m_intoF (a1 := 100) (n1 := 10) (i := A 0 4) b2 (show 0 ≤ 1 by omega) (show A 0 2 ≤ 1000 by omega) hJ (by omega) (by omega) ck2
      have d1' : fX8_into m1 100 10 (nI (A 0 4)) (0 : Int32) (nI (A 0 2) - 1) = some (nI (kd n T (nz n T p) 0 (A 0 2)), m2) := d1
      have f2 : ∀ a j, (a ≠ 1 ∨ j ≤ 1 ∨ 6 ≤ j) → g2 a j = hx a j := fun a j q => by rw [c5 a j q, a6 a j q]
      obtain ⟨g3, s1, s2, s3, s4, s5⟩ := x_numD (lo := 1) (m := 100) c2 c3 ck2 (by omega) (by omega) (by omega)
      have s1' : fX6_readNumber g2 (1 : Int32) (99 : Int32) = some (0, g3) := by rw [n_99]; exact s1
      refine ⟨g3, m2, kd n T (nz n T p) 0 (A 0 2), ?_, ?_, fun a j q1 q2 => by rw [s5 a j q1, f2 a j q1], fun a j q1 q2 => by rw [d3 a j (by omega) (by omega), b6 a j (by omega) (by omega), u_f _ _ (by omega)], .inr ⟨ck2, by omega, s3, by rw [s4, c4, d2], s2⟩⟩
      · rw [fX6_readTalk, a1, b2_s, c1, b2_s]
        simp only [x_ffd c3 ck2 (show kd n T (nz n T p) 0 (A 0 2) ≤ 4 by omega), in8_0, in_t (i := nv n T p) (n := 8) (by omega) (by omega), ck_t, bd_s, ite_self]
        rw [s1', b2_s, s3, if_neg (nI_ne0 (by omega) (by omega)), bd_s]
      · rw [fX8_takeTalk, km.2.2.2.2.1, lt_e, lt_e, nI_1, e22, b1', b2_s, if_pos (show (0 : Int32) ≤ 0 by decide), em1, d1', b2_s, b2_s, if_neg (nI_ne0 (by omega) (by omega)), if_neg (nI_nle (by omega) (by omega)), b2_s]
  · obtain ⟨g1, a1, a2, a3, a4, a5⟩ := x_tdF rx e3 eI h8 ck
    obtain ⟨m1, b1, b2, b3⟩ := m_intoF (a1 := 99) (n1 := 10) (i := A 0 4) rm2 (show 0 ≤ 1 by omega) (show A 0 2 ≤ 1000 by omega) hJ (by omega) (by omega) ck
    have b1' : fX8_into (md_up hm 84 28 (nI (A 0 4 + 1))) 99 10 (nI (A 0 4)) (0 : Int32) (nI (A 0 2) - 1) = some (nI (kd n T p 0 (A 0 2)), m1) := b1
    obtain ⟨g2, c1, c2, c3, c4, c5⟩ := x_tdD a2 a3 (eF g1 a5).2 h8 ck (by omega)
    have f2 : ∀ a j, (a ≠ 1 ∨ j ≤ 1 ∨ 6 ≤ j) → g2 a j = hx a j := fun a j q => by rw [c5 a j q, a5 a j q]
    obtain ⟨g3, s1, s2, s3, s4, s5⟩ := x_numD (lo := 1) (m := 100) c2 c3 ck (by omega) (by omega) (by omega)
    have s1' : fX6_readNumber g2 (1 : Int32) (99 : Int32) = some (0, g3) := by rw [n_99]; exact s1
    refine ⟨g3, m1, kd n T p 0 (A 0 2), ?_, ?_, fun a j q1 q2 => by rw [s5 a j q1, f2 a j q1], fun a j q1 q2 => by rw [b3 a j (by omega) (by omega), u_f _ _ (by omega)], .inr ⟨ck, by omega, s3, by rw [s4, c4, a4, b2], s2⟩⟩
    · rw [fX6_readTalk, a1, b2_s, c1, b2_s]
      simp only [x_ffd c3 ck (show kd n T p 0 (A 0 2) ≤ 4 by omega), in8_0, ck_t, bd_s, ite_self]
      rw [s1', b2_s, s3, if_neg (nI_ne0 (by omega) (by omega)), bd_s]
    · rw [fX8_takeTalk, km.2.2.2.2.1, lt_e, lt_e, nI_1, e22, b1', b2_s, if_neg (nI_nle (by omega) (by omega)), b2_s, if_neg (nI_ne0 (by omega) (by omega)), if_neg (nI_nle (by omega) (by omega)), b2_s]
end BQ
