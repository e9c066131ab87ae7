theorem fin0 {h g1 h1 g2 h2 : Mm} {A : Ab} {B' : Nat → Nat} {n nx : Nat} {P : Nat → Nat → Nat} (gr : GR h A) (gl : GL h) (hx : HX g1 n nx P) (f1 : ∀ a, (a < 15 ∨ 56 < a) → g1 a = h a) (x1 : XS h1 A B') (f2 : ∀ a, a ≠ 13 → a ≠ 14 → h1 a = g1 a) (hm : HM g2 n P) (f3 : ∀ a j, (a ≠ 84 ∨ j ≠ 35) → a ≠ 103 → g2 a j = h1 a j) (m2 : NS h2 A B') (f4 : ∀ a, a ≠ 92 → h2 a = g2 a) (wp : ∀ i, i < n → WB A (P i)) : Inv h2 :=
  fin gr (GL_t (fun a j _ => by rw [f4 a (by omega), f3 a j (by omega) (by omega), f2 a (by omega) (by omega), f1 a (by omega)]) gl) hx f1 x1 (fun a j h1 h2 _ => by rw [f2 a h1 h2]) hm f3 m2 (fun a j h1 _ => by rw [f4 a h1]) wp
section CA
variable {h : Mm}
theorem eq_pass (I : Inv h) (l : Int32) : ∃ r h1 h2, fX7_pass h l = some (r, h1) ∧ fX8_pass h1 l = some (r, h2) ∧ Inv h2 := by
  obtain ⟨A, B, q, gp, gl, gr⟩ := id I
  have h5 := q.1.2.2.2.2.2.1
  have xs := QS_x q
  have ms := QS_m q
  rw [fX7_pass, xz_isTr xs.2.1, bd_s]
  by_cases hl : 0 ≤ l ∧ l < nI (A 0 5)
  · obtain ⟨t, ht, rfl⟩ := ix_of (by omega) hl
    have hs := xs.2.2.2.2.2.2.1 t (by omega)
    rw [decide_eq_true hl, if_pos rfl, xs_gone xs (by omega), bd_s]
    have M : ∀ h1 : Mm, (∀ a j, 84 ≤ a → h1 a j = h a j) → fX8_pass h1 (nI t) = (if (B 1).testBit t = true then some ((-1000000003 : Int32), h1) else (if decide (A 0 0 < sZ A (B (2 + t))) = true then some ((-1000000003 : Int32), h1) else md_bd (fX8_remember h1) (fun h_4 => md_b2 (fX8_passNow h_4 (nI t)) (fun r_5 h_6 => some (r_5, h_6))))) := by
      intro h1 f
      have ms1 : NS h1 A B := NS_t (fun a j _ => f a j (by omega)) ms
      rw [fX8_pass, mz_isTr ms1.1 ms1.2.1, bd_s, decide_eq_true hl, if_pos rfl, ms_gone ms1 (by omega), bd_s, ms_stuck ms1 (by omega), bd_s]
    cases hg : (B 1).testBit t
    · rw [if_neg (by decide), xs_mind xs (by omega), bd_s, xs_stuck xs hs, bd_s]
      by_cases hk : A 0 0 < sZ A (B (2 + t))
      · rw [decide_eq_true hk, if_pos rfl]
        exact ⟨_, h, h, rfl, by rw [M h (fun _ _ _ => rfl), hg, if_neg (by decide), decide_eq_true hk, if_pos rfl], I⟩
      · rw [decide_eq_false hk, if_neg (by decide)]
        obtain ⟨n, nx, P, g1, a1, a2, a3, a4, a5, a6⟩ := x_st q gp
        obtain ⟨h1, b1, b2, b3⟩ := x_letPass a5 ht
        have f1 : ∀ a j, 84 ≤ a → h1 a j = h a j := fun a j ha => by rw [b3 a (by omega), a3 a (by omega)]
        obtain ⟨g2, c1, c2, c3, c4⟩ := a6 h1 f1
        obtain ⟨h2, d1, d2, d3⟩ := m_passNow c4 ht
        refine ⟨nI (du A B t), h1, h2, by rw [a1, bd_s, b1, b2_s], ?_, fin0 gr gl a2 a3 b2 (fun a h1 _ => b3 a h1) c2 c3 d2 d3 a4⟩
        rw [M h1 f1, hg, if_neg (by decide), decide_eq_false hk, if_neg (by decide), c1, bd_s, d1, b2_s]
    · rw [if_pos rfl]
      exact ⟨_, h, h, rfl, by rw [M h (fun _ _ _ => rfl), hg, if_pos rfl], I⟩
  · rw [decide_eq_false hl]
    refine ⟨_, h, h, rfl, ?_, I⟩
    rw [fX8_pass, mz_isTr ms.1 ms.2.1, bd_s, decide_eq_false hl]
    rfl
theorem eq_goRound (I : Inv h) (l : Int32) (b : Bool) : ∃ r h1 h2, fX7_goRound h l b = some (r, h1) ∧ fX8_goRound h1 l b = some (r, h2) ∧ Inv h2 := by
  obtain ⟨A, B, q, gp, gl, gr⟩ := id I
  have h5 := q.1.2.2.2.2.2.1
  have h8 := q.1.2.2.1
  have xs := QS_x q
  have ms := QS_m q
  rw [fX7_goRound, xz_isTr xs.2.1, bd_s]
  by_cases hl : 0 ≤ l ∧ l < nI (A 0 5)
  · obtain ⟨t, ht, rfl⟩ := ix_of (by omega) hl
    have hs := xs.2.2.2.2.2.2.1 t (by omega)
    have hcl := clo_lt xs.1 xs.2.2.2.2.1
    have ha := lt_p (an_lt (b := clo A (B 0)) hs) h8
    rw [decide_eq_true hl, if_pos rfl, xs_gone xs (by omega), bd_s]
    have M : ∀ h1 : Mm, (∀ a j, 84 ≤ a → h1 a j = h a j) → fX8_goRound h1 (nI t) b = (if (B 1).testBit t = true then some ((-1000000003 : Int32), h1) else md_bd (fX8_remember h1) (fun h_3 => md_b2 (fX8_roundNow h_3 (nI t) b) (fun r_4 h_5 => some (r_4, h_5)))) := by
      intro h1 f
      have ms1 : NS h1 A B := NS_t (fun a j _ => f a j (by omega)) ms
      rw [fX8_goRound, mz_isTr ms1.1 ms1.2.1, bd_s, decide_eq_true hl, if_pos rfl, ms_gone ms1 (by omega), bd_s]
    have e0 : (nI (an (B (2 + t)) (clo A (B 0))) = 0) ↔ an (B (2 + t)) (clo A (B 0)) = 0 := n_eq (b := 0) (by omega) (by omega)
    have V : (if b = true then md_bd (fX4_mindOf h 13 (nI t)) (fun r_5 => md_bd (fX7_inTheCountry h) (fun r_6 => (if (r_5 &&& (r_6 ^^^ (-1 : Int32))) = 0 then some false else some true))) else some false) = some (br A B t b) := by
      cases b
      · rfl
      · rw [if_pos rfl, xs_mind xs (by omega), bd_s, xs_in xs, bd_s, n_an (p31 h8 hs) (p31 h8 hcl)]
        simp only [e0]
        by_cases z : an (B (2 + t)) (clo A (B 0)) = 0
        · rw [if_pos z]; simp [br, z]
        · rw [if_neg z]; simp [br, z]
    cases hg : (B 1).testBit t
    · rw [if_neg (by decide), V, bd_s]
      obtain ⟨n, nx, P, g1, a1, a2, a3, a4, a5, a6⟩ := x_st q gp
      obtain ⟨h1, b1, b2, b3⟩ := x_leaves a5 ht b
      have f1 : ∀ a j, 84 ≤ a → h1 a j = h a j := fun a j ha => by rw [b3 a (by omega), a3 a (by omega)]
      obtain ⟨g2, c1, c2, c3, c4⟩ := a6 h1 f1
      obtain ⟨h2, d1, d2, d3⟩ := m_roundNow c4 ht b
      refine ⟨md_bi (br A B t b), h1, h2, ?_, ?_, fin0 gr gl a2 a3 b2 (fun a h1 _ => b3 a h1) c2 c3 d2 d3 a4⟩
      · rw [a1, bd_s, b1, bd_s]
        cases br A B t b <;> rfl
      · rw [M h1 f1, hg, if_neg (by decide), c1, bd_s, d1, b2_s]
    · rw [if_pos rfl]
      exact ⟨_, h, h, rfl, by rw [M h (fun _ _ _ => rfl), hg, if_pos rfl], I⟩
  · rw [decide_eq_false hl]
    refine ⟨_, h, h, rfl, ?_, I⟩
    rw [fX8_goRound, mz_isTr ms.1 ms.2.1, bd_s, decide_eq_false hl]
    rfl
theorem x_setMind (h : Mm) {t : Nat} (ht : t < 5) (v : Int32) : fX4_setMind h 13 (nI t) v = some (md_up h 14 t v) := by
  rw [fX4_setMind, if_neg (nI_pos (by omega)), show (5 : Int32) = nI 5 from rfl, if_neg (by rw [n_le (by omega) (by omega)]; omega), in_t (by omega) (by omega), ck_t, lt_e, bd_s, nI_c (by omega)]
def cB (B : Nat → Nat) (t s : Nat) : Nat → Nat := uB (uB B (2 + t) s) 1 (an (B 1) (2 ^ t))
theorem cB_m (B : Nat → Nat) (t s : Nat) : cB B t s (2 + t) = s := by
  unfold cB
  rw [uB_n _ _ (by omega), uB_s]
theorem p2_31 {A : Ab} (w : WA A) {t : Nat} (ht : t < 5) : 2 ^ t < 2 ^ 31 := Nat.pow_lt_pow_right (by decide) (by omega)
theorem x_comes {A : Ab} {B : Nat → Nat} (x : XS h A B) {t s : Nat} (ht : t < 5) (hs : s < 2 ^ A 0 2) : ∃ h' : Mm, fX4_comes h 13 (nI t) (nI s) = some h' ∧ XS h' A (cB B t s) ∧ (∀ a, a ≠ 13 → a ≠ 14 → h' a = h a) := by
  have wb := x.2.2.2.2
  have g := g31 x.1 wb.2.1
  rw [fX4_comes, x_setMind h ht, bd_s, lt_e, u_nn _ _ _ _ (show 13 ≠ 14 by omega), x.2.2.2.1.2.1, n_shl t (by omega), n_an (by omega) (p2_31 x.1 ht)]
  exact ⟨_, rfl, XS1 (XSm x ht hs) (an_lt wb.2.1), fun a h1 h2 => by rw [up_n _ _ _ h1, up_n _ _ _ h2]⟩
theorem eq_come (I : Inv h) (l l2 : Int32) : ∃ r h1 h2, fX7_come h l l2 = some (r, h1) ∧ fX8_come h1 l l2 = some (r, h2) ∧ Inv h2 := by
  obtain ⟨A, B, q, gp, gl, gr⟩ := id I
  have h5 := q.1.2.2.2.2.2.1
  have h8 := q.1.2.2.1
  have xs := QS_x q
  have ms := QS_m q
  rw [fX7_come, xz_isTr xs.2.1, bd_s]
  by_cases hl : 0 ≤ l ∧ l < nI (A 0 5)
  · obtain ⟨t, ht, rfl⟩ := ix_of (by omega) hl
    rw [decide_eq_true hl, if_pos rfl, xz_isSet xs.1 xs.2.1, bd_s]
    by_cases hl2 : 0 ≤ l2 ∧ l2 < nI (2 ^ A 0 2)
    · obtain ⟨s, hs, rfl⟩ := set_of xs.1 hl2
      rw [decide_eq_true hl2, if_pos rfl, xs_gone xs (by omega), bd_s]
      have M : ∀ h1 : Mm, (∀ a j, 84 ≤ a → h1 a j = h a j) → fX8_come h1 (nI t) (nI s) = (if (B 1).testBit t = true then md_bd (fX8_remember h1) (fun h_4 => md_ck (md_in ((2 : Int32) + nI t) 9) (md_lt (md_up h_4 92 (((2 : Int32) + nI t)).toNatClampNeg (nI s)) (fun h_5 : Mm => md_ck (md_in (1 : Int32) 9) (md_ck (md_in (1 : Int32) 9) (md_lt (md_up h_5 92 ((1 : Int32)).toNatClampNeg ((h_5 92 ((1 : Int32)).toNatClampNeg) &&& (((1 : Int32) <<< (nI t &&& 31)) ^^^ (-1 : Int32)))) (fun h_6 : Mm => md_bd (fX8_owedFor h_6 (nI s)) (fun r_7 => some (r_7, h_6)))))))) else some ((-1000000003 : Int32), h1)) := by
        intro h1 f
        have ms1 : NS h1 A B := NS_t (fun a j _ => f a j (by omega)) ms
        rw [fX8_come, mz_isTr ms1.1 ms1.2.1, bd_s, decide_eq_true hl, if_pos rfl, mz_isSet ms1.1 ms1.2.1, bd_s, decide_eq_true hl2, if_pos rfl, ms_gone ms1 (by omega), bd_s]
      cases hg : (B 1).testBit t
      · rw [if_neg (by decide)]
        exact ⟨_, h, h, rfl, by rw [M h (fun _ _ _ => rfl), hg, if_neg (by decide)], I⟩
      · rw [if_pos rfl]
        obtain ⟨n, nx, P, g1, a1, a2, a3, a4, a5, a6⟩ := x_st q gp
        obtain ⟨h1, b1, b2, b3⟩ := x_comes a5 (show t < 5 by omega) hs
        have f1 : ∀ a j, 84 ≤ a → h1 a j = h a j := fun a j ha => by rw [b3 a (by omega) (by omega), a3 a (by omega)]
        obtain ⟨g2, c1, c2, c3, c4⟩ := a6 h1 f1
        have wb := c4.2.2.2
        have g := g31 c4.1 wb.2.1
        have n1 := NSk c4 (k := 2 + t) (v := s) (WBm wb (by omega) hs)
        have n2 : NS _ A (cB B t s) := NSk n1 (k := 1) (v := an (B 1) (2 ^ t)) (WB1 n1.2.2.2 (an_lt wb.2.1))
        refine ⟨_, h1, _, by rw [a1, bd_s, b1, bd_s, xs_duty b2 (by omega), bd_s], ?_, fin0 gr gl a2 a3 b2 b3 c2 c3 n2 (fun a ha => by rw [up_n _ _ _ ha, up_n _ _ _ ha]) a4⟩
        rw [M h1 f1, hg, if_pos rfl, c1, bd_s, in_2t (by omega), ck_t, cl_2t (by omega), lt_e, in_1, ck_t, ck_t, lt_e, c_1, u_sn _ _ _ (show 1 ≠ 2 + t by omega), ms_now c4 (show 1 < 9 by omega), n_shl t (by omega), n_an (by omega) (p2_31 c4.1 (by omega)), ms_owed n2 hs, bd_s, cB_m]
    · rw [decide_eq_false hl2]
      refine ⟨_, h, h, rfl, ?_, I⟩
      rw [fX8_come, mz_isTr ms.1 ms.2.1, bd_s, decide_eq_true hl, if_pos rfl, mz_isSet ms.1 ms.2.1, bd_s, decide_eq_false hl2]
      rfl
  · rw [decide_eq_false hl]
    refine ⟨_, h, h, rfl, ?_, I⟩
    rw [fX8_come, mz_isTr ms.1 ms.2.1, bd_s, decide_eq_false hl]
    rfl
theorem eq_register (I : Inv h) (l : Int32) (b : Bool) : ∃ r h1 h2, fX7_register h l b = some (r, h1) ∧ fX8_register h1 l b = some (r, h2) ∧ Inv h2 := by
  obtain ⟨A, B, q, gp, gl, gr⟩ := id I
  have h8 := q.1.2.2.1
  have xs := QS_x q
  have ms := QS_m q
  rw [fX7_register, xz_isIdea xs.2.1, bd_s]
  by_cases hl : 0 ≤ l ∧ l < nI (A 0 2)
  · obtain ⟨i, hi, rfl⟩ := ix_of (by omega) hl
    have wb := xs.2.2.2.2
    have hB := p31 h8 wb.1
    have hpi : 2 ^ i < 2 ^ A 0 2 := Nat.pow_lt_pow_right (by decide) hi
    obtain ⟨n, nx, P, g1, a1, a2, a3, a4, a5, a6⟩ := x_st q gp
    have hv : (if b then B 0 ||| 2 ^ i else an (B 0) (2 ^ i)) < 2 ^ A 0 2 := by
      cases b
      · exact an_lt wb.1
      · exact or_lt wb.1 hpi
    rw [decide_eq_true hl, if_pos rfl, xs.2.2.2.1.1, lt_e, a1, bd_s, a5.2.2.2.1.1, n_shl i (by omega), n_an hB (p31 h8 hpi), n_or, n_shr hB (by omega), n_and1]
    have b2 := XS0 a5 hv
    have b3 : ∀ a, a ≠ 13 → md_up g1 13 1 (nI (if b then B 0 ||| 2 ^ i else an (B 0) (2 ^ i))) a = g1 a := fun a ha => up_n _ _ _ ha
    generalize hh1 : md_up g1 13 1 (nI (if b then B 0 ||| 2 ^ i else an (B 0) (2 ^ i))) = h1 at b2 b3
    have f1 : ∀ a j, 84 ≤ a → h1 a j = h a j := fun a j ha => by rw [b3 a (by omega), a3 a (by omega)]
    obtain ⟨g2, c1, c2, c3, c4⟩ := a6 h1 f1
    have ms1 : NS h1 A B := NS_t (fun a j _ => f1 a j (by omega)) ms
    have n2 := NSk c4 (k := 0) (v := if b then B 0 ||| 2 ^ i else an (B 0) (2 ^ i)) (WB0 wb hv)
    refine ⟨nI (B 0 / 2 ^ i % 2), h1, _, ?_, ?_, fin0 gr gl a2 a3 b2 (fun a h1 _ => b3 a h1) c2 c3 n2 (fun a ha => up_n _ _ _ ha) a4⟩
    · rw [← hh1]
      cases b <;> rfl
    · rw [fX8_register, mz_isIdea ms1.1 ms1.2.1, bd_s, decide_eq_true hl, if_pos rfl, c1, bd_s, in_0, ck_t, lt_e, c_0, ms_now c4 (show 0 < 9 by omega), n_shr hB (by omega), n_and1, ck_t, ck_t, n_shl i (by omega), n_an hB (p31 h8 hpi), n_or]
      cases b <;> rfl
  · rw [decide_eq_false hl]
    refine ⟨_, h, h, rfl, ?_, I⟩
    rw [fX8_register, mz_isIdea ms.1 ms.2.1, bd_s, decide_eq_false hl]
    rfl
def tB (B : Nat → Nat) (t a b d : Nat) : Nat → Nat := uB (uB B (2 + t) (an (B (2 + t)) (2 ^ a) ||| 2 ^ b)) 8 (min 999999 (B 8 + d))
theorem eq_talk (I : Inv h) (l l2 l3 : Int32) : ∃ r h1 h2, fX7_talk h l l2 l3 = some (r, h1) ∧ fX8_talk h1 l l2 l3 = some (r, h2) ∧ Inv h2 := by
  obtain ⟨A, B, q, gp, gl, gr⟩ := id I
  have h5 := q.1.2.2.2.2.2.1
  have h8 := q.1.2.2.1
  have xs := QS_x q
  have ms := QS_m q
  rw [fX7_talk, xz_isTr xs.2.1, bd_s]
  by_cases hl : 0 ≤ l ∧ l < nI (A 0 5)
  · obtain ⟨t, ht, rfl⟩ := ix_of (by omega) hl
    rw [decide_eq_true hl, if_pos rfl, xz_isIdea xs.2.1, bd_s]
    by_cases hl2 : 0 ≤ l2 ∧ l2 < nI (A 0 2)
    · obtain ⟨i, hi, rfl⟩ := ix_of (by omega) hl2
      rw [decide_eq_true hl2, if_pos rfl, xz_isIdea xs.2.1, bd_s]
      by_cases hl3 : 0 ≤ l3 ∧ l3 < nI (A 0 2)
      · obtain ⟨j, hj, rfl⟩ := ix_of (by omega) hl3
        have wb := xs.2.2.2.2
        have hs := wb.2.2.1 t (by omega)
        have hs31 := p31 h8 hs
        have hpi : 2 ^ i < 2 ^ A 0 2 := Nat.pow_lt_pow_right (by decide) hi
        have hpj : 2 ^ j < 2 ^ A 0 2 := Nat.pow_lt_pow_right (by decide) hj
        have hv : an (B (2 + t)) (2 ^ i) ||| 2 ^ j < 2 ^ A 0 2 := or_lt (an_lt hs) hpj
        obtain ⟨v, u, o1, o2, o3⟩ := eq_quickest xs.1 xs.2.1 ms.2.1 (nI i) (nI j)
        rw [decide_eq_true hl3, if_pos rfl, o1, bd_s, xs_gone xs (by omega), bd_s]
        have M : ∀ h1 : Mm, (∀ a j, 84 ≤ a → h1 a j = h a j) → fX8_talk h1 (nI t) (nI i) (nI j) = (if (B 1).testBit t = true then some ((-1000000003 : Int32), h1) else (if (B (2 + t)).testBit i = true then (if u = (1000000 : Int32) then some ((-1000000003 : Int32), h1) else md_bd (fX8_remember h1) (fun h_7 => md_ck (md_in ((2 : Int32) + nI t) 9) (md_bd (fX8_talked h_7 (h_7 92 (((2 : Int32) + nI t)).toNatClampNeg) (nI i) (nI j)) (fun r_8 => md_ck (md_in ((2 : Int32) + nI t) 9) (md_lt (md_up h_7 92 (((2 : Int32) + nI t)).toNatClampNeg r_8) (fun h_9 : Mm => md_ck (md_in (8 : Int32) 9) (md_bd (fX8_atMost h_9 ((h_9 92 ((8 : Int32)).toNatClampNeg) + u)) (fun r_10 => md_ck (md_in (8 : Int32) 9) (md_lt (md_up h_9 92 ((8 : Int32)).toNatClampNeg r_10) (fun h_11 : Mm => some (u, h_11))))))))))) else some ((-1000000003 : Int32), h1))) := by
          intro h1 f
          have ms1 : NS h1 A B := NS_t (fun a j _ => f a j (by omega)) ms
          have u1 : fX8_quickest h1 (nI i) (nI j) = some u := by
            obtain ⟨r, e1, e2, e3, e4⟩ := mz_quick ms1.1 ms1.2.1 (show i < 8 by omega) (show j < 8 by omega)
            obtain ⟨r', f1, f2, f3, f4⟩ := mz_quick ms.1 ms.2.1 (show i < 8 by omega) (show j < 8 by omega)
            rw [o2] at f1
            have hu : u = nI r' := Option.some.inj f1
            rw [e1, hu]
            have : r = r' := by
              rcases e4 with e | ⟨k, k1, k2, k3, k4⟩
              · rcases f4 with e' | ⟨k', k1', k2', k3', k4'⟩
                · omega
                · have := e3 k' k1' k2' k3'; omega
              · have := f3 k k1 k2 k3
                rcases f4 with e' | ⟨k', k1', k2', k3', k4'⟩
                · omega
                · have := e3 k' k1' k2' k3'; omega
            rw [this]
          rw [fX8_talk, mz_isTr ms1.1 ms1.2.1, bd_s, decide_eq_true hl, if_pos rfl, mz_isIdea ms1.1 ms1.2.1, bd_s, decide_eq_true hl2, if_pos rfl, mz_isIdea ms1.1 ms1.2.1, bd_s, decide_eq_true hl3, if_pos rfl, u1, bd_s, ms_gone ms1 (by omega), bd_s, in_2t (by omega), ck_t, cl_2t (by omega), ms_now ms1 (show 2 + t < 9 by omega), has_iff hs31 (by omega), bd_s]
        cases hg : (B 1).testBit t
        · rw [if_neg (by decide), xs_mind xs (by omega), bd_s]
          simp only [n_bit (s := B (2 + t)) (i := i) (by omega)]
          cases hb : (B (2 + t)).testBit i
          · rw [if_pos rfl]
            exact ⟨_, h, h, rfl, by rw [M h (fun _ _ _ => rfl), hg, if_neg (by decide), hb, if_neg (by decide)], I⟩
          · rw [if_neg (by decide)]
            rcases o3 with ⟨rfl, rfl⟩ | ⟨d, d1, d2, rfl, rfl⟩
            · rw [if_pos rfl]
              exact ⟨_, h, h, rfl, by rw [M h (fun _ _ _ => rfl), hg, if_neg (by decide), hb, if_pos rfl, if_pos rfl], I⟩
            · rw [if_neg (nI_n1 d (by omega))]
              have hd1 : ¬ nI d = (1000000 : Int32) := by rw [show (1000000 : Int32) = nI 1000000 from rfl, n_eq (by omega) (by omega)]; omega
              obtain ⟨n, nx, P, g1, a1, a2, a3, a4, a5, a6⟩ := x_st q gp
              have hB8 := wb.2.2.2.2
              have b2 : XS _ A (tB B t i j d) := XS8 (XSm a5 (show t < 5 by omega) hv) (show min 999999 (B 8 + d) ≤ 999999 by omega)
              have b3 : ∀ a, a ≠ 13 → a ≠ 14 → md_up (md_up g1 14 t (nI (an (B (2 + t)) (2 ^ i) ||| 2 ^ j))) 13 4 (nI (min 999999 (B 8 + d))) a = g1 a := fun a h1 h2 => by rw [up_n _ _ _ h1, up_n _ _ _ h2]
              generalize hh1 : md_up (md_up g1 14 t (nI (an (B (2 + t)) (2 ^ i) ||| 2 ^ j))) 13 4 (nI (min 999999 (B 8 + d))) = h1 at b2 b3
              have f1 : ∀ a j, 84 ≤ a → h1 a j = h a j := fun a j ha => by rw [b3 a (by omega) (by omega), a3 a (by omega)]
              obtain ⟨g2, c1, c2, c3, c4⟩ := a6 h1 f1
              have n1 := NSk c4 (k := 2 + t) (v := an (B (2 + t)) (2 ^ i) ||| 2 ^ j) (WBm wb (by omega) hv)
              have n2 : NS _ A (tB B t i j d) := NSk n1 (k := 8) (v := min 999999 (B 8 + d)) (WB8 n1.2.2.2 (by omega))
              refine ⟨nI d, h1, _, ?_, ?_, fin0 gr gl a2 a3 b2 b3 c2 c3 n2 (fun a ha => by rw [up_n _ _ _ ha, up_n _ _ _ ha]) a4⟩
              · rw [a1, bd_s, xs_mind a5 (by omega), bd_s, fX7_afterTalk, bd_s, x_setMind _ (by omega), bd_s, lt_e, u_nn _ _ _ _ (show 13 ≠ 14 by omega), a5.2.2.2.1.2.2.2.2, nI_add, x_atMost (by omega), n_shl i (by omega), n_shl j (by omega), n_an hs31 (p31 h8 hpi), n_or, hh1]
              · rw [M h1 f1, hg, if_neg (by decide), hb, if_pos rfl, if_neg hd1, c1, bd_s, in_2t (by omega), ck_t, cl_2t (by omega), ms_now c4 (show 2 + t < 9 by omega), fX8_talked, bd_s, ck_t, lt_e, in_8, ck_t, c_8, u_sn _ _ _ (show 8 ≠ 2 + t by omega), ms_now c4 (show 8 < 9 by omega), nI_add, m_atMost _ (by omega), bd_s, ck_t, lt_e, n_shl i (by omega), n_shl j (by omega), n_an hs31 (p31 h8 hpi), n_or]
        · rw [if_pos rfl]
          exact ⟨_, h, h, rfl, by rw [M h (fun _ _ _ => rfl), hg, if_pos rfl], I⟩
      · rw [decide_eq_false hl3]
        refine ⟨_, h, h, rfl, ?_, I⟩
        rw [fX8_talk, mz_isTr ms.1 ms.2.1, bd_s, decide_eq_true hl, if_pos rfl, mz_isIdea ms.1 ms.2.1, bd_s, decide_eq_true hl2, if_pos rfl, mz_isIdea ms.1 ms.2.1, bd_s, decide_eq_false hl3]
        rfl
    · rw [decide_eq_false hl2]
      refine ⟨_, h, h, rfl, ?_, I⟩
      rw [fX8_talk, mz_isTr ms.1 ms.2.1, bd_s, decide_eq_true hl, if_pos rfl, mz_isIdea ms.1 ms.2.1, bd_s, decide_eq_false hl2]
      rfl
  · rw [decide_eq_false hl]
    refine ⟨_, h, h, rfl, ?_, I⟩
    rw [fX8_talk, mz_isTr ms.1 ms.2.1, bd_s, decide_eq_false hl]
    rfl
end CA
