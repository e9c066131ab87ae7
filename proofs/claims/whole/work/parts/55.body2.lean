theorem x_ff0 {h : Mm} (k l : Int32) (e : h 1 3 = 0) : ∃ h' : Mm, fX6_findFault h k l = some h' ∧ h' 1 3 = k ∧ h' 1 2 = l ∧ (∀ a j, (a ≠ 1 ∨ j ≠ 2) → (a ≠ 1 ∨ j ≠ 3) → h' a j = h a j) := by
  obtain ⟨h', a1, a2, a3, a4⟩ := x_ff k l (show h 1 3 = nI 0 from e) (by omega)
  exact ⟨h', a1, a2, a3, a4⟩
section BP
variable {n c R p : Nat} {T M : Nat → Nat} {A : Ab} {hx hm : Mm}
theorem b_reg (j : JP n T c A R M p hx hm) : ∃ hx' hm' f, fX6_readRegistered hx = some hx' ∧ fX8_takeRegistered hm = some (nI f, hm') ∧ OC n T c p hx hm hx' hm' f := by
  obtain ⟨w, kx, km, rx, rm, e3, ec, hc⟩ := j
  have hb := nz_b T rx.2.1
  have h8 := w.1.2.2.1
  have hR := p31 h8 w.2.1
  have hk := kd_le n T p 0 (A 0 2)
  have eI : hx (md_dx (hx 1 6)) 3 = nI (A 0 2) := by rw [ec]; exact kx.1.2.2.1
  obtain ⟨k, b1, b2, b3, b4, b5⟩ := m_num rm (show 0 ≤ 1 by omega) (show A 0 2 ≤ 1000 by omega)
  have b1' : fX8_takeNumber hm (0 : Int32) (nI (A 0 2) - 1) = some (nI (kd n T p 0 (A 0 2)), k) := b1
  by_cases ck : kd n T p 0 (A 0 2) = 0
  · have k0 := kd_0 ck
    have hp : 2 ^ nv n T p < 2 ^ A 0 2 := Nat.pow_lt_pow_right (by decide) k0.2.1
    obtain ⟨g, a1, a2, a3, a4, a5, a6⟩ := x_tdS rx e3 eI h8 ck
    obtain ⟨b6, b7⟩ := b4 ck
    have dg : md_dx (g 1 6) = c := by rw [a6 1 6 (by omega)]; exact ec
    have eg : g c 13 = nI R := by rw [a6 c 13 (by omega)]; exact kx.2.2.1
    have ek : k 84 32 = nI R := by rw [b5 84 32 (by omega)]; exact km.2.2.2.2.2.2.1
    have b3' : k 84 17 = hm 84 17 := by rw [b3, if_pos ck]
    have Mo : fX8_takeRegistered hm = (if (R.testBit (nv n T p)) = true then some ((4 : Int32), md_up k 84 17 (nI (sk n T p))) else some (nI 0, md_up k 84 32 (nI (R ||| 2 ^ nv n T p)))) := by
      rw [fX8_takeRegistered, km.2.2.1, b1', b2_s, ck, if_pos (show nI 0 = 0 from rfl), b6, ek, has_iff hR (by omega), bd_s, if_pos (show nI 0 = 0 from rfl), fX8_fails, lt_e, b2_s, lt_e, bd_s, n_shl _ (by omega), n_or, b7]
    have Cl : fX6_readRegistered hx = md_bd ((if R.testBit (nv n T p) = false then some g else md_bd (fX6_findFault g (4 : Int32) (nI (sk n T p))) (fun h_5 => some h_5))) (fun (h_3 : Mm) => md_bd ((if (h_3 1 3) = 0 then md_lt (md_up h_3 (md_dx (h_3 1 6)) 13 ((h_3 (md_dx (h_3 1 6)) 13) ||| ((1 : Int32) <<< (nI (nv n T p) &&& 31)))) (fun h_8 : Mm => some h_8) else some h_3)) (fun (h_6 : Mm) => some h_6)) := by
      rw [fX6_readRegistered, a1, b2_s, dg, eg, a3]
      simp only [n_bit (s := R) (i := nv n T p) (by omega)]
    cases ht : R.testBit (nv n T p)
    · rw [ht, if_neg (by decide)] at Mo
      rw [ht, if_pos rfl, bd_s, a4, if_pos rfl, dg, eg, n_shl _ (by omega), n_or, lt_e, bd_s] at Cl
      refine ⟨_, _, 0, Cl, Mo, fun a j q1 q2 => ?_, fun a j q1 q2 => ?_, .inl ⟨rfl, ?_, ?_, A, R ||| 2 ^ nv n T p, M, nz n T p, by omega, ⟨w.1, or_lt w.2.1 hp, w.2.2⟩, ?_, ?_, ?_, ?_, ?_, ?_, hc⟩⟩
      · rw [u_nn _ _ _ _ (by omega), a6 a j q1]
      · rw [u_f _ _ (by omega), b5 a j (by omega)]
      · rw [u_nn _ _ _ _ (by omega), a5]
      · rw [u_sn _ _ _ (by omega), b3']
      · obtain ⟨⟨m0, m1, m2, m3, m4, m5, m6, m7, m8⟩, x1, x2, x3⟩ := kx
        have f : ∀ a j, (a ≠ c ∨ j ≠ 13) → a ≠ 1 → md_up g c 13 (nI (R ||| 2 ^ nv n T p)) a j = hx a j := fun a j q1 q2 => by rw [u_f _ _ q1, a6 a j (by omega)]
        exact ⟨⟨by rw [f c 1 (by omega) (by omega)]; exact m0, by rw [f c 2 (by omega) (by omega)]; exact m1, by rw [f c 3 (by omega) (by omega)]; exact m2, by rw [f c 5 (by omega) (by omega)]; exact m3, by rw [f c 9 (by omega) (by omega)]; exact m4, by rw [f c 14 (by omega) (by omega)]; exact m5, fun i hi => by rw [f (c + 1) i (by omega) (by omega)]; exact m6 i hi, fun i hi => by rw [f (c + 2) i (by omega) (by omega), f (c + 3) i (by omega) (by omega), f (c + 4) i (by omega) (by omega)]; exact m7 i hi, fun i hi => by rw [f (c + 5) i (by omega) (by omega), f (c + 6) i (by omega) (by omega), f (c + 7) i (by omega) (by omega)]; exact m8 i hi⟩, by rw [f c 0 (by omega) (by omega)]; exact x1, by rw [u_ss], fun t ht => by rw [f (c + 8) t (by omega) (by omega)]; exact x3 t ht⟩
      · obtain ⟨y0, y1, y2, y3, y4, y5, y6, y7, y8, y9, y10⟩ := km
        have f : ∀ a j, (a ≠ 84 ∨ j ≠ 32) → (a ≠ 84 ∨ j < 17 ∨ 20 < j) → md_up k 84 32 (nI (R ||| 2 ^ nv n T p)) a j = hm a j := fun a j q1 q2 => by rw [u_f _ _ q1, b5 a j q2]
        exact ⟨by rw [f 94 0 (by omega) (by omega)]; exact y0, by rw [f 94 1 (by omega) (by omega)]; exact y1, by rw [f 84 22 (by omega) (by omega)]; exact y2, by rw [f 84 24 (by omega) (by omega)]; exact y3, by rw [f 84 28 (by omega) (by omega)]; exact y4, by rw [f 84 33 (by omega) (by omega)]; exact y5, by rw [u_ss], fun i hi => by rw [f 95 i (by omega) (by omega)]; exact y7 i hi, fun i hi => by rw [f 96 i (by omega) (by omega), f 97 i (by omega) (by omega), f 98 i (by omega) (by omega)]; exact y8 i hi, fun i hi => by rw [f 99 i (by omega) (by omega), f 100 i (by omega) (by omega), f 101 i (by omega) (by omega)]; exact y9 i hi, fun t ht => by rw [f 102 t (by omega) (by omega)]; exact y10 t ht⟩
      · exact RX_t (fun a j _ => u_nn _ _ _ _ (by omega)) a2
      · exact RM_t (fun a j _ => u_f _ _ (by omega)) b2
      · rw [u_nn _ _ _ _ (by omega), a4]
      · rw [u_nn _ _ _ _ (by omega)]; exact dg
    · rw [ht, if_pos rfl] at Mo
      rw [ht, if_neg (by decide)] at Cl
      obtain ⟨g2, c1, c2, c3, c4⟩ := x_ff0 (4 : Int32) (nI (sk n T p)) a4
      rw [c1, bd_s, bd_s, c2, if_neg (by decide), bd_s] at Cl
      refine ⟨g2, _, 4, Cl, Mo, fun a j q1 q2 => ?_, fun a j q1 q2 => ?_, .inr ⟨by omega, by omega, c2, ?_, nz n T p, RX_t (fun a j _ => c4 a j (by omega) (by omega)) a2⟩⟩
      · rw [c4 a j (by omega) (by omega), a6 a j q1]
      · rw [u_f _ _ (by omega), b5 a j (by omega)]
      · rw [c3, u_ss]
  · obtain ⟨g, a1, a2, a3, a4, a5⟩ := x_tdF rx e3 eI h8 ck
    refine ⟨g, k, kd n T p 0 (A 0 2), ?_, ?_, fun a j q1 q2 => a5 a j q1, fun a j q1 q2 => b5 a j (by omega), .inr ⟨ck, by omega, a3, by rw [a4, b3, if_neg ck], a2⟩⟩
    · rw [fX6_readRegistered, a1, b2_s]
      simp only [x_ffd a3 ck (show kd n T p 0 (A 0 2) ≤ 4 by omega), bd_s, ite_self]
      rw [a3, if_neg (nI_ne0 (by omega) (by omega)), bd_s]
    · rw [fX8_takeRegistered, km.2.2.1, b1', b2_s, if_neg (nI_ne0 (by omega) (by omega)), if_neg (nI_ne0 (by omega) (by omega)), bd_s]
theorem b_join (j : JP n T c A R M p hx hm) (hJ : A 0 3 < 10) : ∃ hx' hm' f, fX6_readJoining hx = some hx' ∧ fX8_takeJoin hm = some (nI f, hm') ∧ OC n T c p hx hm hx' hm' f := by
  obtain ⟨w, kx, km, rx, rm, e3, ec, hc⟩ := j
  have hb := nz_b T rx.2.1
  have h8 := w.1.2.2.1
  have hk := kd_le n T p 0 (A 0 2)
  have hk2 := kd_le n T (nz n T p) 0 (A 0 2)
  have hk3 := kd_le n T (nz n T (nz n T p)) 0 (A 0 2)
  have eI : hx (md_dx (hx 1 6)) 3 = nI (A 0 2) := by rw [ec]; exact kx.1.2.2.1
  have eF : ∀ g : Mm, (∀ a j, (a ≠ 1 ∨ j ≤ 1 ∨ 6 ≤ j) → g a j = hx a j) → md_dx (g 1 6) = c ∧ g (md_dx (g 1 6)) 3 = nI (A 0 2) := fun g f => by
    have e1 : md_dx (g 1 6) = c := by rw [f 1 6 (by omega)]; exact ec
    exact ⟨e1, by rw [e1, f c 3 (by omega)]; exact kx.1.2.2.1⟩
  have rm2 : RM (md_up hm 84 24 (nI (A 0 3 + 1))) n T p := RM_t (fun a j _ => u_f _ _ (by omega)) rm
  have e22 : md_up hm 84 24 (nI (A 0 3 + 1)) 84 22 = nI (A 0 2) := by rw [u_sn _ _ _ (by omega)]; exact km.2.2.1
  by_cases ck : kd n T p 0 (A 0 2) = 0
  · have k0 := kd_0 ck
    obtain ⟨g1, a1, a2, a3, a4, a5, a6⟩ := x_tdS rx e3 eI h8 ck
    obtain ⟨m1, b1, b2, b3, b4, b5, b6⟩ := m_intoS (a1 := 96) (n1 := 10) (i := A 0 3) rm2 (show 0 ≤ 1 by omega) (show A 0 2 ≤ 1000 by omega) hJ (by omega) (by omega) ck
    have b1' : fX8_into (md_up hm 84 24 (nI (A 0 3 + 1))) 96 10 (nI (A 0 3)) (0 : Int32) (nI (A 0 2) - 1) = some (0, m1) := b1
    have e1 := eF g1 a6
    have em1 : m1 84 22 = nI (A 0 2) := by rw [b6 84 22 (by omega) (by omega)]; exact e22
    have hb2 := nz_b T a2.2.1
    by_cases ck2 : kd n T (nz n T p) 0 (A 0 2) = 0
    · have k02 := kd_0 ck2
      obtain ⟨g2, c1, c2, c3, c4, c5, c6⟩ := x_tdS a2 a4 e1.2 h8 ck2
      obtain ⟨m2, d1, d2, d3, d4, d5, d6⟩ := m_intoS (a1 := 97) (n1 := 10) (i := A 0 3) b2 (show 0 ≤ 1 by omega) (show A 0 2 ≤ 1000 by omega) hJ (by omega) (by omega) ck2
      have d1' : fX8_into m1 97 10 (nI (A 0 3)) (0 : Int32) (nI (A 0 2) - 1) = some (0, m2) := d1
      have f2 : ∀ a j, (a ≠ 1 ∨ j ≤ 1 ∨ 6 ≤ j) → g2 a j = hx a j := fun a j q => by rw [c6 a j q, a6 a j q]
      have e2 := eF g2 f2
      have em2 : m2 84 22 = nI (A 0 2) := by rw [d6 84 22 (by omega) (by omega)]; exact em1
      have hb3 := nz_b T c2.2.1
      by_cases ck3 : kd n T (nz n T (nz n T p)) 0 (A 0 2) = 0
      · have k03 := kd_0 ck3
        obtain ⟨g3, s1, s2, s3, s4, s5, s6⟩ := x_tdS c2 c4 e2.2 h8 ck3
        obtain ⟨m3, t1, t2, t3, t4, t5, t6⟩ := m_intoS (a1 := 98) (n1 := 10) (i := A 0 3) d2 (show 0 ≤ 1 by omega) (show A 0 2 ≤ 1000 by omega) hJ (by omega) (by omega) ck3
        have t1' : fX8_into m2 98 10 (nI (A 0 3)) (0 : Int32) (nI (A 0 2) - 1) = some (0, m3) := t1
        have f3 : ∀ a j, (a ≠ 1 ∨ j ≤ 1 ∨ 6 ≤ j) → g3 a j = hx a j := fun a j q => by rw [s6 a j q, f2 a j q]
        have e3' := eF g3 f3
        have eJ : g3 c 5 = nI (A 0 3) := by rw [f3 c 5 (by omega)]; exact kx.1.2.2.2.1
        have u96 : m3 96 (A 0 3) = nI (nv n T p) := by rw [t6 96 _ (by omega) (by omega), d6 96 _ (by omega) (by omega)]; exact b5
        have u97 : m3 97 (A 0 3) = nI (nv n T (nz n T p)) := by rw [t6 97 _ (by omega) (by omega)]; exact d5
        have fm : ∀ a j, (a ≠ 84 ∨ j < 17 ∨ 20 < j) → (a ≠ 84 ∨ j ≠ 24) → (a < 96 ∨ 98 < a ∨ j ≠ A 0 3) → m3 a j = hm a j := fun a j q1 q2 q3 => by rw [t6 a j q1 (by omega), d6 a j q1 (by omega), b6 a j q1 (by omega), u_f _ _ q2]
        have e17 : m3 84 17 = hm 84 17 := by rw [t3, d3, b3, u_sn _ _ _ (by omega)]
        have Mo : fX8_takeJoin hm = (if nv n T (nz n T (nz n T p)) = nv n T p then some ((4 : Int32), md_up m3 84 17 (nI (sk n T (nz n T (nz n T p))))) else (if nv n T (nz n T (nz n T p)) = nv n T (nz n T p) then some ((4 : Int32), md_up m3 84 17 (nI (sk n T (nz n T (nz n T p))))) else some (0, m3))) := by
          rw [fX8_takeJoin, km.2.2.2.1, lt_e, lt_e, nI_1, e22, b1', b2_s, if_pos (by decide), em1, d1', b2_s, b2_s, if_pos (by decide), em2, t1', b2_s, b2_s, if_pos rfl, in_t (by omega) (by omega), ck_t, ck_t, ck_t, ck_t, nI_c (by omega), t5, u96, u97, fX8_fails, lt_e, b2_s, t4]
          simp only [n_eq (show nv n T (nz n T (nz n T p)) < 1000000001 by omega) (show nv n T p < 1000000001 by omega), n_eq (show nv n T (nz n T (nz n T p)) < 1000000001 by omega) (show nv n T (nz n T p) < 1000000001 by omega)]
        have Cl : fX6_readJoining hx = md_bd ((if nv n T (nz n T (nz n T p)) = nv n T p then md_bd (fX6_findFault g3 (4 : Int32) (nI (sk n T (nz n T (nz n T p))))) (fun h_9 => some h_9) else (if nv n T (nz n T (nz n T p)) = nv n T (nz n T p) then md_bd (fX6_findFault g3 (4 : Int32) (nI (sk n T (nz n T (nz n T p))))) (fun h_10 => some h_10) else some g3))) (fun (h_7 : Mm) => md_bd ((if (h_7 1 3) = 0 then md_ck (md_in (h_7 (md_dx (h_7 1 6)) 5) 10) (md_lt (md_up h_7 ((md_dx (h_7 1 6)) + 2) ((h_7 (md_dx (h_7 1 6)) 5)).toNatClampNeg (nI (nv n T p))) (fun h_13 : Mm => md_ck (md_in (h_13 (md_dx (h_13 1 6)) 5) 10) (md_lt (md_up h_13 ((md_dx (h_13 1 6)) + 3) ((h_13 (md_dx (h_13 1 6)) 5)).toNatClampNeg (nI (nv n T (nz n T p)))) (fun h_14 : Mm => md_ck (md_in (h_14 (md_dx (h_14 1 6)) 5) 10) (md_lt (md_up h_14 ((md_dx (h_14 1 6)) + 4) ((h_14 (md_dx (h_14 1 6)) 5)).toNatClampNeg (nI (nv n T (nz n T (nz n T p))))) (fun h_15 : Mm => md_lt (md_up h_15 (md_dx (h_15 1 6)) 5 ((h_15 (md_dx (h_15 1 6)) 5) + (1 : Int32))) (fun h_16 : Mm => some h_16))))))) else some h_7)) (fun (h_11 : Mm) => some h_11)) := by
          rw [fX6_readJoining, a1, b2_s, c1, b2_s, s1, b2_s, s3]
          simp only [n_eq (show nv n T (nz n T (nz n T p)) < 1000000001 by omega) (show nv n T p < 1000000001 by omega), n_eq (show nv n T (nz n T (nz n T p)) < 1000000001 by omega) (show nv n T (nz n T p) < 1000000001 by omega)]
        by_cases bad : nv n T (nz n T (nz n T p)) = nv n T p ∨ nv n T (nz n T (nz n T p)) = nv n T (nz n T p)
        · obtain ⟨g4, v1, v2, v3, v4⟩ := x_ff0 (4 : Int32) (nI (sk n T (nz n T (nz n T p)))) s4
          refine ⟨g4, md_up m3 84 17 (nI (sk n T (nz n T (nz n T p)))), 4, ?_, ?_, fun a j q1 q2 => ?_, fun a j q1 q2 => ?_, .inr ⟨by omega, by omega, v2, ?_, nz n T (nz n T (nz n T p)), RX_t (fun a j _ => v4 a j (by omega) (by omega)) s2⟩⟩
          · rw [Cl, v1, bd_s]
            have : (if nv n T (nz n T (nz n T p)) = nv n T p then some g4 else (if nv n T (nz n T (nz n T p)) = nv n T (nz n T p) then some g4 else some g3)) = some g4 := by
              rcases bad with q | q
              · rw [if_pos q]
              · rw [if_pos q, ite_self]
            rw [this, bd_s, v2, if_neg (by decide), bd_s]
          · rw [Mo]
            rcases bad with q | q
            · rw [if_pos q]; rfl
            · rw [if_pos q, ite_self]; rfl
          · rw [v4 a j (by omega) (by omega), f3 a j q1]
          · rw [u_f _ _ (by omega), fm a j (by omega) (by omega) (by omega)]
          · rw [v3, u_ss]
        · rw [if_neg (fun q => bad (.inl q)), if_neg (fun q => bad (.inr q))] at Mo
          rw [if_neg (fun q => bad (.inl q)), if_neg (fun q => bad (.inr q)), bd_s, s4, if_pos rfl, e3'.1, eJ, in_t (by omega) (by omega), ck_t, lt_e, nI_c (by omega), u_nn _ _ _ _ (show 1 ≠ c + 2 by omega), e3'.1, u_nn _ _ _ _ (show c ≠ c + 2 by omega), eJ, in_t (by omega) (by omega), ck_t, lt_e, nI_c (by omega), u_nn _ _ _ _ (show 1 ≠ c + 3 by omega), u_nn _ _ _ _ (show 1 ≠ c + 2 by omega), e3'.1, u_nn _ _ _ _ (show c ≠ c + 3 by omega), u_nn _ _ _ _ (show c ≠ c + 2 by omega), eJ, in_t (by omega) (by omega), ck_t, lt_e, nI_c (by omega), u_nn _ _ _ _ (show 1 ≠ c + 4 by omega), u_nn _ _ _ _ (show 1 ≠ c + 3 by omega), u_nn _ _ _ _ (show 1 ≠ c + 2 by omega), e3'.1, u_nn _ _ _ _ (show c ≠ c + 4 by omega), u_nn _ _ _ _ (show c ≠ c + 3 by omega), u_nn _ _ _ _ (show c ≠ c + 2 by omega), eJ, nI_1, lt_e, bd_s] at Cl
          refine ⟨_, m3, 0, Cl, Mo, fun a j q1 q2 => ?_, fun a j q1 q2 => ?_, .inl ⟨rfl, ?_, e17, jA A (nv n T p) (nv n T (nz n T p)) (nv n T (nz n T (nz n T p))), R, M, nz n T (nz n T (nz n T p)), by omega, WK_j w hJ (by omega) (by omega) (by omega), KX_j kx ?_ ?_ ?_ ?_ ?_, KM_j km (fun a j q1 q2 q3 => fm a j (by omega) q2 q3) ?_ u96 u97 t5, ?_, t2, ?_, ?_, hc⟩⟩
          · rw [u_nn _ _ _ _ (by omega), u_nn _ _ _ _ (by omega), u_nn _ _ _ _ (by omega), u_nn _ _ _ _ (by omega), f3 a j q1]
          · rw [fm a j (by omega) (by omega) (by omega)]
          · rw [u_nn _ _ _ _ (by omega), u_nn _ _ _ _ (by omega), u_nn _ _ _ _ (by omega), u_nn _ _ _ _ (by omega), s5, c5, a5]
          · intro a j q1 q2 q3 q4
            rw [u_f _ _ q3, u_f _ _ (by omega), u_f _ _ (by omega), u_f _ _ (by omega), f3 a j (by omega)]
          · rw [u_ss]
          · rw [u_nn _ _ _ _ (by omega), u_nn _ _ _ _ (by omega), u_nn _ _ _ _ (by omega), u_ss]
          · rw [u_nn _ _ _ _ (by omega), u_nn _ _ _ _ (by omega), u_ss]
          · rw [u_nn _ _ _ _ (by omega), u_ss]
          · rw [t6 84 24 (by omega) (by omega), d6 84 24 (by omega) (by omega), b6 84 24 (by omega) (by omega), u_ss]
          · exact RX_t (fun a j _ => by rw [u_nn _ _ _ _ (by omega), u_nn _ _ _ _ (by omega), u_nn _ _ _ _ (by omega), u_nn _ _ _ _ (by omega)]) s2
          · rw [u_nn _ _ _ _ (by omega), u_nn _ _ _ _ (by omega), u_nn _ _ _ _ (by omega), u_nn _ _ _ _ (by omega), s4]
          · rw [u_nn _ _ _ _ (by omega), u_nn _ _ _ _ (by omega), u_nn _ _ _ _ (by omega), u_nn _ _ _ _ (by omega)]; exact e3'.1
      · obtain ⟨g3, s1, s2, s3, s4, s5⟩ := x_tdF c2 c4 e2.2 h8 ck3
        obtain ⟨m3, t1, t2, t3⟩ := m_intoF (a1 := 98) (n1 := 10) (i := A 0 3) d2 (show 0 ≤ 1 by omega) (show A 0 2 ≤ 1000 by omega) hJ (by omega) (by omega) ck3
        have t1' : fX8_into m2 98 10 (nI (A 0 3)) (0 : Int32) (nI (A 0 2) - 1) = some (nI (kd n T (nz n T (nz n T p)) 0 (A 0 2)), m3) := t1
        refine ⟨g3, m3, kd n T (nz n T (nz n T p)) 0 (A 0 2), ?_, ?_, fun a j q1 q2 => by rw [s5 a j q1, f2 a j q1], fun a j q1 q2 => by rw [t3 a j (by omega) (by omega), d6 a j (by omega) (by omega), b6 a j (by omega) (by omega), u_f _ _ (by omega)], .inr ⟨ck3, by omega, s3, by rw [s4, t2], s2⟩⟩
        · rw [fX6_readJoining, a1, b2_s, c1, b2_s, s1, b2_s]
          simp only [x_ffd s3 ck3 (show kd n T (nz n T (nz n T p)) 0 (A 0 2) ≤ 4 by omega), bd_s, ite_self]
          rw [s3, if_neg (nI_ne0 (by omega) (by omega)), bd_s]
        · rw [fX8_takeJoin, km.2.2.2.1, lt_e, lt_e, nI_1, e22, b1', b2_s, if_pos (by decide), em1, d1', b2_s, b2_s, if_pos (by decide), em2, t1', b2_s, b2_s, if_neg (nI_ne0 (by omega) (by omega))]
    · obtain ⟨g2, c1, c2, c3, c4, c5⟩ := x_tdF a2 a4 e1.2 h8 ck2
      obtain ⟨m2, d1, d2, d3⟩ := m_intoF (a1 := 97) (n1 := 10) (i := A 0 3) b2 (show 0 ≤ 1 by omega) (show A 0 2 ≤ 1000 by omega) hJ (by omega) (by omega) ck2
      have d1' : fX8_into m1 97 10 (nI (A 0 3)) (0 : Int32) (nI (A 0 2) - 1) = some (nI (kd n T (nz n T p) 0 (A 0 2)), m2) := d1
      have f2 : ∀ a j, (a ≠ 1 ∨ j ≤ 1 ∨ 6 ≤ j) → g2 a j = hx a j := fun a j q => by rw [c5 a j q, a6 a j q]
      obtain ⟨g3, s1, s2, s3, s4, s5⟩ := x_tdD c2 c3 (eF g2 f2).2 h8 ck2 (by omega)
      refine ⟨g3, m2, kd n T (nz n T p) 0 (A 0 2), ?_, ?_, fun a j q1 q2 => by rw [s5 a j q1, f2 a j q1], fun a j q1 q2 => by rw [d3 a j (by omega) (by omega), b6 a j (by omega) (by omega), u_f _ _ (by omega)], .inr ⟨ck2, by omega, s3, by rw [s4, c4, d2], s2⟩⟩
      · rw [fX6_readJoining, a1, b2_s, c1, b2_s, s1, b2_s]
        simp only [x_ffd s3 ck2 (show kd n T (nz n T p) 0 (A 0 2) ≤ 4 by omega), bd_s, ite_self]
        rw [s3, if_neg (nI_ne0 (by omega) (by omega)), bd_s]
      · rw [fX8_takeJoin, km.2.2.2.1, lt_e, lt_e, nI_1, e22, b1', b2_s, if_pos (by decide), em1, d1', b2_s, b2_s, if_neg (nI_nle (by omega) (by omega)), b2_s, if_neg (nI_ne0 (by omega) (by omega))]
  · obtain ⟨g1, a1, a2, a3, a4, a5⟩ := x_tdF rx e3 eI h8 ck
    obtain ⟨m1, b1, b2, b3⟩ := m_intoF (a1 := 96) (n1 := 10) (i := A 0 3) rm2 (show 0 ≤ 1 by omega) (show A 0 2 ≤ 1000 by omega) hJ (by omega) (by omega) ck
    have b1' : fX8_into (md_up hm 84 24 (nI (A 0 3 + 1))) 96 10 (nI (A 0 3)) (0 : Int32) (nI (A 0 2) - 1) = some (nI (kd n T p 0 (A 0 2)), m1) := b1
    obtain ⟨g2, c1, c2, c3, c4, c5⟩ := x_tdD a2 a3 (eF g1 a5).2 h8 ck (by omega)
    have f2 : ∀ a j, (a ≠ 1 ∨ j ≤ 1 ∨ 6 ≤ j) → g2 a j = hx a j := fun a j q => by rw [c5 a j q, a5 a j q]
    obtain ⟨g3, s1, s2, s3, s4, s5⟩ := x_tdD c2 c3 (eF g2 f2).2 h8 ck (by omega)
    refine ⟨g3, m1, kd n T p 0 (A 0 2), ?_, ?_, fun a j q1 q2 => by rw [s5 a j q1, f2 a j q1], fun a j q1 q2 => by rw [b3 a j (by omega) (by omega), u_f _ _ (by omega)], .inr ⟨ck, by omega, s3, by rw [s4, c4, a4, b2], s2⟩⟩
    · rw [fX6_readJoining, a1, b2_s, c1, b2_s, s1, b2_s]
      simp only [x_ffd s3 ck (show kd n T p 0 (A 0 2) ≤ 4 by omega), bd_s, ite_self]
      rw [s3, if_neg (nI_ne0 (by omega) (by omega)), bd_s]
    · rw [fX8_takeJoin, km.2.2.2.1, lt_e, lt_e, nI_1, e22, b1', b2_s, if_neg (nI_nle (by omega) (by omega)), b2_s, if_neg (nI_nle (by omega) (by omega)), b2_s, if_neg (nI_ne0 (by omega) (by omega))]
end BP
