theorem u_f (h : Mm) {k j a i : Nat} (v : Int32) (e : a ≠ k ∨ i ≠ j) : md_up h k j v a i = h a i := by
  by_cases c : a = k
  · subst c; exact u_sn _ _ _ (by omega)
  · exact u_nn _ _ _ _ c
section CB
variable {h : Mm}
theorem eq_seed (I : Inv h) (l : Int32) : ∃ r h1 h2, fX7_seed h l = some (r, h1) ∧ fX8_seed h1 l = some (r, h2) ∧ Inv h2 := by
  obtain ⟨A, B, q, gp, gl, nb, sw, gi0, gi1, gq, bk, gt, gf⟩ := id I
  have xs := QS_x q
  have ms := QS_m q
  obtain ⟨z, z1, z2, z3⟩ := gl
  rw [fX7_seed]
  by_cases hl : 0 ≤ l
  · obtain ⟨v, hv, rfl⟩ := nI_of (i_nlt.mpr hl)
    rw [if_pos hl, lt_e, lt_e, z2]
    refine ⟨nI z, _, md_up (md_up h 0 8 (nI v)) 84 14 (nI v), rfl, ?_, ?_⟩
    · rw [fX8_seed, if_pos hl, lt_e, lt_e, u_nn _ _ _ _ (show 84 ≠ 0 by omega), z3]
    · have f : ∀ a j, (a ≠ 0 ∨ j ≠ 8) → (a ≠ 84 ∨ j ≠ 14) → md_up (md_up h 0 8 (nI v)) 84 14 (nI v) a j = h a j := fun a j h1 h2 => by rw [u_f _ _ h2, u_f _ _ h1]
      exact ⟨A, B, QS_of (XS_t (fun a j _ => f a j (by omega) (by omega)) xs) (NS_t (fun a j _ => f a j (by omega) (by omega)) ms), GP_t (fun a j _ => f a j (by omega) (by omega)) gp, ⟨v, by omega, by rw [u_nn _ _ _ _ (by omega), u_ss], by rw [u_ss]⟩, NB_t (fun a j _ => f a j (by omega) (by omega)) nb, SW_t (fun a j _ => f a j (by omega) (by omega)) sw, GI1_t (fun a j _ => f a j (by omega) (by omega)) gi0, GI1_t (fun a j _ => f a j (by omega) (by omega)) gi1, GQ_t (fun a j _ => f a j (by omega) (by omega)) gq, BK_t (fun a j _ => f a j (by omega) (by omega)) bk, GT_t (fun a j _ => f a j (by omega) (by omega)) gt, by rw [f 1 2 (by omega) (by omega), f 84 17 (by omega) (by omega)]; exact gf⟩
  · rw [if_neg hl]
    exact ⟨_, h, h, rfl, by rw [fX8_seed, if_neg hl], I⟩
theorem eq_tear (I : Inv h) : ∃ r h1 h2, fX7_tear h = some (r, h1) ∧ fX8_tear h1 = some (r, h2) ∧ Inv h2 := by
  obtain ⟨A, B, q, gp, gl, nb, sw, gi0, gi1, gq, bk, gt, gf⟩ := id I
  have xs := QS_x q
  have ms := QS_m q
  obtain ⟨n, Q, w, x, y⟩ := gq
  obtain ⟨m, b1, b2, b3, b4⟩ := bk
  rw [fX7_tear, lt_e, lt_e, lt_e, x.1, b2]
  refine ⟨nI n + nI m, _, md_up (md_up (md_up (md_up h 65 4 0) 70 2 0) 84 38 0) 84 43 0, rfl, ?_, ?_⟩
  · rw [fX8_tear, lt_e, lt_e, lt_e, u_nn _ _ _ _ (show 84 ≠ 70 by omega), u_nn _ _ _ _ (show 84 ≠ 65 by omega), y.1, u_nn _ _ _ _ (show 84 ≠ 70 by omega), u_nn _ _ _ _ (show 84 ≠ 65 by omega), b3]
  · have f : ∀ a j, (a ≠ 65 ∨ j ≠ 4) → (a ≠ 70 ∨ j ≠ 2) → (a ≠ 84 ∨ j ≠ 38) → (a ≠ 84 ∨ j ≠ 43) → md_up (md_up (md_up (md_up h 65 4 0) 70 2 0) 84 38 0) 84 43 0 a j = h a j := fun a j h1 h2 h3 h4 => by rw [u_f _ _ h4, u_f _ _ h3, u_f _ _ h2, u_f _ _ h1]
    exact ⟨A, B, QS_of (XS_t (fun a j _ => f a j (by omega) (by omega) (by omega) (by omega)) xs) (NS_t (fun a j _ => f a j (by omega) (by omega) (by omega) (by omega)) ms), GP_t (fun a j _ => f a j (by omega) (by omega) (by omega) (by omega)) gp, GL_t (fun a j _ => f a j (by omega) (by omega) (by omega) (by omega)) gl, NB_t (fun a j _ => f a j (by omega) (by omega) (by omega) (by omega)) nb, SW_t (fun a j _ => f a j (by omega) (by omega) (by omega) (by omega)) sw, GI1_t (fun a j _ => f a j (by omega) (by omega) (by omega) (by omega)) gi0, GI1_t (fun a j _ => f a j (by omega) (by omega) (by omega) (by omega)) gi1, ⟨0, Q, ⟨by omega, fun i hi => by omega⟩, ⟨by rw [u_nn _ _ _ _ (by omega), u_nn _ _ _ _ (by omega), u_nn _ _ _ _ (by omega), u_ss]; rfl, fun i hi => by omega⟩, by rw [u_sn _ _ _ (by omega), u_ss]; rfl, fun i hi => by omega⟩, ⟨0, by omega, by rw [u_nn _ _ _ _ (by omega), u_nn _ _ _ _ (by omega), u_ss]; rfl, by rw [u_ss]; rfl, fun i hi => by omega⟩, GT_t (fun a j _ => f a j (by omega) (by omega) (by omega) (by omega)) gt, by rw [f 1 2 (by omega) (by omega) (by omega) (by omega), f 84 17 (by omega) (by omega) (by omega) (by omega)]; exact gf⟩
theorem eq_feed (I : Inv h) (l : Int32) : ∃ r h1 h2, fX7_feed h l = some (r, h1) ∧ fX8_feed h1 l = some (r, h2) ∧ Inv h2 := by
  obtain ⟨A, B, q, gp, gl, nb, sw, gi0, gi1, gq, bk, gt, gf⟩ := id I
  have xs := QS_x q
  have ms := QS_m q
  obtain ⟨n, T, t1, t2, t3, t4, t5⟩ := id gt
  rw [fX7_feed, x_in2]
  by_cases hl : 0 ≤ l ∧ l ≤ 255
  · obtain ⟨c, hc, rfl⟩ := nI_of2 (M := 255) (n := 255) (by decide) (i_nlt.mpr hl.1) hl.2
    rw [if_pos hl, fX6_append, t3, show (240 : Int32) = nI 240 from rfl]
    simp only [n_lt (show n < 1000000001 by omega) (show 240 < 1000000001 by omega)]
    by_cases hn : n < 240
    · rw [if_pos hn, in_t (by omega) (by omega), ck_t, lt_e, lt_e, nI_c (by omega), b2_s, if_pos rfl, bd_s, u_nn _ _ _ _ (show 1 ≠ 2 by omega), t3, nI_1, u_ss]
      refine ⟨nI (n + 1), _, md_up (md_up (md_up (md_up h 2 n (nI c)) 1 1 (nI (n + 1))) 93 n (nI c)) 84 16 (nI (n + 1)), rfl, ?_, ?_⟩
      · rw [fX8_feed, show (0 : Int64) = (0 : Int32).toInt64 from rfl, show (255 : Int64) = (255 : Int32).toInt64 from rfl, m_in, bd_s, decide_eq_true hl, if_pos rfl, u_nn _ _ _ _ (show 84 ≠ 1 by omega), u_nn _ _ _ _ (show 84 ≠ 2 by omega), t4, show (240 : Int32) = nI 240 from rfl, if_neg (by rw [n_eq (by omega) (by omega)]; omega), in_t (by omega) (by omega), ck_t, lt_e, lt_e, nI_c (by omega), u_nn _ _ _ _ (show 84 ≠ 93 by omega), u_nn _ _ _ _ (show 84 ≠ 1 by omega), u_nn _ _ _ _ (show 84 ≠ 2 by omega), t4, nI_1, u_ss]
      · have f : ∀ a j, (a ≠ 1 ∨ j ≠ 1) → a ≠ 2 → (a ≠ 84 ∨ j ≠ 16) → a ≠ 93 → md_up (md_up (md_up (md_up h 2 n (nI c)) 1 1 (nI (n + 1))) 93 n (nI c)) 84 16 (nI (n + 1)) a j = h a j := fun a j h1 h2 h3 h4 => by rw [u_f _ _ h3, u_nn _ _ _ _ h4, u_f _ _ h1, u_nn _ _ _ _ h2]
        refine ⟨A, B, QS_of (XS_t (fun a j _ => f a j (by omega) (by omega) (by omega) (by omega)) xs) (NS_t (fun a j _ => f a j (by omega) (by omega) (by omega) (by omega)) ms), GP_t (fun a j _ => f a j (by omega) (by omega) (by omega) (by omega)) gp, GL_t (fun a j _ => f a j (by omega) (by omega) (by omega) (by omega)) gl, NB_t (fun a j _ => f a j (by omega) (by omega) (by omega) (by omega)) nb, SW_t (fun a j _ => f a j (by omega) (by omega) (by omega) (by omega)) sw, GI1_t (fun a j _ => f a j (by omega) (by omega) (by omega) (by omega)) gi0, GI1_t (fun a j _ => f a j (by omega) (by omega) (by omega) (by omega)) gi1, GQ_t (fun a j _ => f a j (by omega) (by omega) (by omega) (by omega)) gq, BK_t (fun a j _ => f a j (by omega) (by omega) (by omega) (by omega)) bk, ⟨n + 1, uB T n c, by omega, fun i hi => ?_, by rw [u_nn _ _ _ _ (by omega), u_nn _ _ _ _ (by omega), u_ss], by rw [u_ss], fun i hi => ?_⟩, by rw [f 1 2 (by omega) (by omega) (by omega) (by omega), f 84 17 (by omega) (by omega) (by omega) (by omega)]; exact gf⟩
        · by_cases e : i = n
          · subst e; rw [uB_s]; omega
          · rw [uB_n _ _ e]; exact t2 i (by omega)
        · by_cases e : i = n
          · subst e
            rw [uB_s, u_nn _ _ _ _ (show 2 ≠ 84 by omega), u_nn _ _ _ _ (show 2 ≠ 93 by omega), u_nn _ _ _ _ (show 2 ≠ 1 by omega), u_ss, u_nn _ _ _ _ (show 93 ≠ 84 by omega), u_ss]
            exact ⟨rfl, rfl⟩
          · rw [uB_n _ _ e, u_nn _ _ _ _ (show 2 ≠ 84 by omega), u_nn _ _ _ _ (show 2 ≠ 93 by omega), u_nn _ _ _ _ (show 2 ≠ 1 by omega), u_sn _ _ _ e, u_nn _ _ _ _ (show 93 ≠ 84 by omega), u_sn _ _ _ e, u_nn _ _ _ _ (show 93 ≠ 1 by omega), u_nn _ _ _ _ (show 93 ≠ 2 by omega)]
            exact t5 i (by omega)
    · rw [if_neg hn]
      refine ⟨_, h, h, rfl, ?_, I⟩
      rw [fX8_feed, show (0 : Int64) = (0 : Int32).toInt64 from rfl, show (255 : Int64) = (255 : Int32).toInt64 from rfl, m_in, bd_s, decide_eq_true hl, if_pos rfl, t4, show n = 240 by omega, if_pos (show nI 240 = (240 : Int32) from rfl)]
  · rw [if_neg hl]
    refine ⟨_, h, h, rfl, ?_, I⟩
    rw [fX8_feed, show (0 : Int64) = (0 : Int32).toInt64 from rfl, show (255 : Int64) = (255 : Int32).toInt64 from rfl, m_in, bd_s, decide_eq_false hl]
    rfl
theorem eq_write (I : Inv h) (l l2 : Int32) : ∃ r h1 h2, fX7_write h l l2 = some (r, h1) ∧ fX8_write h1 l l2 = some (r, h2) ∧ Inv h2 := by
  obtain ⟨A, B, q, gp, gl, nb, sw, gi0, gi1, gq, bk, gt, gf⟩ := id I
  have xs := QS_x q
  have ms := QS_m q
  obtain ⟨n, b1, b2, b3, b4⟩ := id bk
  rw [fX7_write, xz_isIdea xs.2.1, bd_s]
  by_cases hl : 0 ≤ l ∧ l < nI (A 0 2)
  · rw [decide_eq_true hl, if_pos rfl, x_in2]
    by_cases hl2 : 0 ≤ l2 ∧ l2 ≤ 1
    · rw [if_pos hl2, fX0_append, b2, show (15 : Int32) = nI 15 from rfl]
      simp only [n_lt (show n < 1000000001 by omega) (show 15 < 1000000001 by omega)]
      by_cases hn : n < 15
      · rw [if_pos hn, in_t (by omega) (by omega), ck_t, lt_e, nI_c (by omega), u_nn _ _ _ _ (show 70 ≠ 71 by omega), b2, in_t (by omega) (by omega), ck_t, lt_e, lt_e, nI_c (by omega), u_nn _ _ _ _ (show 70 ≠ 72 by omega), u_nn _ _ _ _ (show 70 ≠ 71 by omega), b2, nI_1, b2_s, if_pos rfl, bd_s, u_ss]
        generalize hg : md_up (md_up (md_up h 71 n l) 72 n l2) 70 2 (nI (n + 1)) = g
        have fg : ∀ a j, (a ≠ 70 ∨ j ≠ 2) → (a < 71 ∨ 72 < a) → g a j = h a j := fun a j h1 h2 => by rw [← hg, u_f _ _ h1, u_nn _ _ _ _ (by omega), u_nn _ _ _ _ (by omega)]
        have ms1 : NS g A B := NS_t (fun a j _ => fg a j (by omega) (by omega)) ms
        have g43 : g 84 43 = nI n := by rw [fg 84 43 (by omega) (by omega)]; exact b3
        refine ⟨nI (n + 1), g, md_up (md_up (md_up g 109 n l) 110 n l2) 84 43 (nI (n + 1)), rfl, ?_, ?_⟩
        · rw [fX8_write, mz_isIdea ms1.1 ms1.2.1, bd_s, decide_eq_true hl, if_pos rfl, show (0 : Int64) = (0 : Int32).toInt64 from rfl, show (1 : Int64) = (1 : Int32).toInt64 from rfl, m_in, bd_s, decide_eq_true hl2, if_pos rfl, g43, show (15 : Int32) = nI 15 from rfl, if_neg (by rw [n_eq (by omega) (by omega)]; omega), in_t (by omega) (by omega), ck_t, lt_e, nI_c (by omega), u_nn _ _ _ _ (show 84 ≠ 109 by omega), g43, in_t (by omega) (by omega), ck_t, lt_e, lt_e, nI_c (by omega), u_nn _ _ _ _ (show 84 ≠ 110 by omega), u_nn _ _ _ _ (show 84 ≠ 109 by omega), g43, nI_1, u_ss]
        · have f : ∀ a j, (a ≠ 70 ∨ j ≠ 2) → (a < 71 ∨ 72 < a) → (a ≠ 84 ∨ j ≠ 43) → (a < 109 ∨ 110 < a) → md_up (md_up (md_up g 109 n l) 110 n l2) 84 43 (nI (n + 1)) a j = h a j := fun a j h1 h2 h3 h4 => by rw [u_f _ _ h3, u_nn _ _ _ _ (by omega), u_nn _ _ _ _ (by omega), fg a j h1 h2]
          refine ⟨A, B, QS_of (XS_t (fun a j _ => f a j (by omega) (by omega) (by omega) (by omega)) xs) (NS_t (fun a j _ => f a j (by omega) (by omega) (by omega) (by omega)) ms), GP_t (fun a j _ => f a j (by omega) (by omega) (by omega) (by omega)) gp, GL_t (fun a j _ => f a j (by omega) (by omega) (by omega) (by omega)) gl, NB_t (fun a j _ => f a j (by omega) (by omega) (by omega) (by omega)) nb, SW_t (fun a j _ => f a j (by omega) (by omega) (by omega) (by omega)) sw, GI1_t (fun a j _ => f a j (by omega) (by omega) (by omega) (by omega)) gi0, GI1_t (fun a j _ => f a j (by omega) (by omega) (by omega) (by omega)) gi1, GQ_t (fun a j _ => f a j (by omega) (by omega) (by omega) (by omega)) gq, ⟨n + 1, by omega, by rw [u_nn _ _ _ _ (by omega), u_nn _ _ _ _ (by omega), u_nn _ _ _ _ (by omega), ← hg, u_ss], by rw [u_ss], fun i hi => ?_⟩, GT_t (fun a j _ => f a j (by omega) (by omega) (by omega) (by omega)) gt, by rw [f 1 2 (by omega) (by omega) (by omega) (by omega), f 84 17 (by omega) (by omega) (by omega) (by omega)]; exact gf⟩
          rw [u_nn _ _ _ _ (show 71 ≠ 84 by omega), u_nn _ _ _ _ (show 71 ≠ 110 by omega), u_nn _ _ _ _ (show 71 ≠ 109 by omega), u_nn _ _ _ _ (show 72 ≠ 84 by omega), u_nn _ _ _ _ (show 72 ≠ 110 by omega), u_nn _ _ _ _ (show 72 ≠ 109 by omega), u_nn _ _ _ _ (show 109 ≠ 84 by omega), u_nn _ _ _ _ (show 109 ≠ 110 by omega), u_nn _ _ _ _ (show 110 ≠ 84 by omega), ← hg, u_nn _ _ _ _ (show 71 ≠ 70 by omega), u_nn _ _ _ _ (show 71 ≠ 72 by omega), u_nn _ _ _ _ (show 72 ≠ 70 by omega)]
          by_cases e : i = n
          · subst e
            rw [u_ss, u_ss, u_ss, u_ss]
            exact ⟨rfl, rfl⟩
          · rw [u_sn _ _ _ e, u_sn _ _ _ e, u_sn _ _ _ e, u_sn _ _ _ e, hg, fg 109 i (by omega) (by omega), u_nn _ _ _ _ (show 72 ≠ 71 by omega), u_nn _ _ _ _ (show 110 ≠ 109 by omega), fg 110 i (by omega) (by omega)]
            exact b4 i (by omega)
      · rw [if_neg hn]
        refine ⟨_, h, h, rfl, ?_, I⟩
        rw [fX8_write, mz_isIdea ms.1 ms.2.1, bd_s, decide_eq_true hl, if_pos rfl, show (0 : Int64) = (0 : Int32).toInt64 from rfl, show (1 : Int64) = (1 : Int32).toInt64 from rfl, m_in, bd_s, decide_eq_true hl2, if_pos rfl, b3, show n = 15 by omega, if_pos (show nI 15 = (15 : Int32) from rfl)]
    · rw [if_neg hl2]
      refine ⟨_, h, h, rfl, ?_, I⟩
      rw [fX8_write, mz_isIdea ms.1 ms.2.1, bd_s, decide_eq_true hl, if_pos rfl, show (0 : Int64) = (0 : Int32).toInt64 from rfl, show (1 : Int64) = (1 : Int32).toInt64 from rfl, m_in, bd_s, decide_eq_false hl2]
      rfl
  · rw [decide_eq_false hl]
    refine ⟨_, h, h, rfl, ?_, I⟩
    rw [fX8_write, mz_isIdea ms.1 ms.2.1, bd_s, decide_eq_false hl]
    rfl
def qU (Q : Ab) (n s y z : Nat) : Ab := fun a i => if i = n then (if a = 0 then s else if a = 1 then y else z) else Q a i
theorem eq_ask (I : Inv h) (l l2 : Int32) (b : Bool) : ∃ r h1 h2, fX7_ask h l l2 b = some (r, h1) ∧ fX8_ask h1 l l2 b = some (r, h2) ∧ Inv h2 := by
  obtain ⟨A, B, q, gp, gl, nb, sw, gi0, gi1, gq, bk, gt, gf⟩ := id I
  have xs := QS_x q
  have ms := QS_m q
  obtain ⟨n, Q, wq, x, y⟩ := id gq
  have h8 := xs.1.2.2.1
  have wn := wq.1
  rw [fX7_ask, xz_isSet xs.1 xs.2.1, bd_s]
  by_cases hl : 0 ≤ l ∧ l < nI (2 ^ A 0 2)
  · obtain ⟨s, hs, rfl⟩ := set_of xs.1 hl
    have hs2 := lt_p hs h8
    rw [decide_eq_true hl, if_pos rfl, x_in2]
    by_cases hl2 : 0 ≤ l2 ∧ l2 ≤ 10
    · obtain ⟨c, hc, rfl⟩ := nI_of2 (M := 10) (n := 10) (by decide) (i_nlt.mpr hl2.1) hl2.2
      obtain ⟨z, hz, ez⟩ : ∃ z, z ≤ 1 ∧ md_bi b = nI z := by
        cases b
        · exact ⟨0, by omega, rfl⟩
        · exact ⟨1, by omega, rfl⟩
      rw [if_pos hl2, fX5_append, x.1, ez, show (6 : Int32) = nI 6 from rfl]
      simp only [n_lt (show n < 1000000001 by omega) (show 6 < 1000000001 by omega)]
      by_cases hn : n < 6
      · rw [if_pos hn, in_t (by omega) (by omega), ck_t, lt_e, nI_c (by omega), u_nn _ _ _ _ (show 65 ≠ 66 by omega), x.1, in_t (by omega) (by omega), ck_t, lt_e, nI_c (by omega), u_nn _ _ _ _ (show 65 ≠ 67 by omega), u_nn _ _ _ _ (show 65 ≠ 66 by omega), x.1, in_t (by omega) (by omega), ck_t, lt_e, lt_e, nI_c (by omega), u_nn _ _ _ _ (show 65 ≠ 68 by omega), u_nn _ _ _ _ (show 65 ≠ 67 by omega), u_nn _ _ _ _ (show 65 ≠ 66 by omega), x.1, nI_1, b2_s, if_pos rfl, bd_s, u_ss]
        generalize hg : md_up (md_up (md_up (md_up h 66 n (nI s)) 67 n (nI c)) 68 n (nI z)) 65 4 (nI (n + 1)) = g
        have fg : ∀ a j, (a ≠ 65 ∨ j ≠ 4) → (a < 66 ∨ 68 < a) → g a j = h a j := fun a j h1 h2 => by rw [← hg, u_f _ _ h1, u_nn _ _ _ _ (by omega), u_nn _ _ _ _ (by omega), u_nn _ _ _ _ (by omega)]
        have ms1 : NS g A B := NS_t (fun a j _ => fg a j (by omega) (by omega)) ms
        have g38 : g 84 38 = nI n := by rw [fg 84 38 (by omega) (by omega)]; exact y.1
        have gx : QX g (n + 1) (qU Q n s c z) := by
          refine ⟨by rw [← hg, u_ss], fun i hi => ?_⟩
          by_cases e : i = n
          · subst e
            simp only [qU, if_pos]
            rw [← hg, u_nn _ _ _ _ (show 66 ≠ 65 by omega), u_nn _ _ _ _ (show 66 ≠ 68 by omega), u_nn _ _ _ _ (show 66 ≠ 67 by omega), u_ss, u_nn _ _ _ _ (show 67 ≠ 65 by omega), u_nn _ _ _ _ (show 67 ≠ 68 by omega), u_ss, u_nn _ _ _ _ (show 68 ≠ 65 by omega), u_ss]
            exact ⟨rfl, rfl, rfl⟩
          · simp only [qU, if_neg e]
            rw [← hg, u_nn _ _ _ _ (show 66 ≠ 65 by omega), u_nn _ _ _ _ (show 66 ≠ 68 by omega), u_nn _ _ _ _ (show 66 ≠ 67 by omega), u_sn _ _ _ e, u_nn _ _ _ _ (show 67 ≠ 65 by omega), u_nn _ _ _ _ (show 67 ≠ 68 by omega), u_sn _ _ _ e, u_nn _ _ _ _ (show 67 ≠ 66 by omega), u_nn _ _ _ _ (show 68 ≠ 65 by omega), u_sn _ _ _ e, u_nn _ _ _ _ (show 68 ≠ 67 by omega), u_nn _ _ _ _ (show 68 ≠ 66 by omega)]
            exact x.2 i (by omega)
        have wq' : WQ (n + 1) (qU Q n s c z) := by
          refine ⟨by omega, fun i hi => ?_⟩
          by_cases e : i = n
          · subst e
            simp only [qU, if_pos]
            exact ⟨hs2, hc, hz⟩
          · simp only [qU, if_neg e]
            exact wq.2 i (by omega)
        generalize hk : md_up (md_up (md_up (md_up g 105 n (nI s)) 106 n (nI c)) 107 n (nI z)) 84 38 (nI (n + 1)) = k
        have gy : QY k (n + 1) (qU Q n s c z) := by
          refine ⟨by rw [← hk, u_ss], fun i hi => ?_⟩
          by_cases e : i = n
          · subst e
            simp only [qU, if_pos]
            rw [← hk, u_nn _ _ _ _ (show 105 ≠ 84 by omega), u_nn _ _ _ _ (show 105 ≠ 107 by omega), u_nn _ _ _ _ (show 105 ≠ 106 by omega), u_ss, u_nn _ _ _ _ (show 106 ≠ 84 by omega), u_nn _ _ _ _ (show 106 ≠ 107 by omega), u_ss, u_nn _ _ _ _ (show 107 ≠ 84 by omega), u_ss]
            exact ⟨rfl, rfl, rfl⟩
          · simp only [qU, if_neg e]
            rw [← hk, u_nn _ _ _ _ (show 105 ≠ 84 by omega), u_nn _ _ _ _ (show 105 ≠ 107 by omega), u_nn _ _ _ _ (show 105 ≠ 106 by omega), u_sn _ _ _ e, u_nn _ _ _ _ (show 106 ≠ 84 by omega), u_nn _ _ _ _ (show 106 ≠ 107 by omega), u_sn _ _ _ e, u_nn _ _ _ _ (show 106 ≠ 105 by omega), u_nn _ _ _ _ (show 107 ≠ 84 by omega), u_sn _ _ _ e, u_nn _ _ _ _ (show 107 ≠ 106 by omega), u_nn _ _ _ _ (show 107 ≠ 105 by omega), fg 105 i (by omega) (by omega), fg 106 i (by omega) (by omega), fg 107 i (by omega) (by omega)]
            exact y.2 i (by omega)
        have f0 : ∀ a j, (a ≠ 84 ∨ j ≠ 38) → (a < 105 ∨ 107 < a) → k a j = g a j := fun a j h3 h4 => by rw [← hk, u_f _ _ h3, u_nn _ _ _ _ (by omega), u_nn _ _ _ _ (by omega), u_nn _ _ _ _ (by omega)]
        refine ⟨nI (n + 1), g, k, rfl, ?_, ?_⟩
        · rw [fX8_ask, mz_isSet ms1.1 ms1.2.1, bd_s, decide_eq_true hl, if_pos rfl, show (0 : Int64) = (0 : Int32).toInt64 from rfl, show (10 : Int64) = (10 : Int32).toInt64 from rfl, m_in, bd_s, decide_eq_true hl2, if_pos rfl, g38, show (6 : Int32) = nI 6 from rfl, if_neg (by rw [n_eq (by omega) (by omega)]; omega), ez, in_t (by omega) (by omega), ck_t, lt_e, nI_c (by omega), u_nn _ _ _ _ (show 84 ≠ 105 by omega), g38, in_t (by omega) (by omega), ck_t, lt_e, nI_c (by omega), u_nn _ _ _ _ (show 84 ≠ 106 by omega), u_nn _ _ _ _ (show 84 ≠ 105 by omega), g38, in_t (by omega) (by omega), ck_t, lt_e, lt_e, nI_c (by omega), u_nn _ _ _ _ (show 84 ≠ 107 by omega), u_nn _ _ _ _ (show 84 ≠ 106 by omega), u_nn _ _ _ _ (show 84 ≠ 105 by omega), g38, nI_1, u_ss, hk]
        · have f : ∀ a j, (a ≠ 65 ∨ j ≠ 4) → (a < 66 ∨ 68 < a) → (a ≠ 84 ∨ j ≠ 38) → (a < 105 ∨ 107 < a) → k a j = h a j := fun a j h1 h2 h3 h4 => by rw [f0 a j h3 h4, fg a j h1 h2]
          exact ⟨A, B, QS_of (XS_t (fun a j _ => f a j (by omega) (by omega) (by omega) (by omega)) xs) (NS_t (fun a j _ => f a j (by omega) (by omega) (by omega) (by omega)) ms), GP_t (fun a j _ => f a j (by omega) (by omega) (by omega) (by omega)) gp, GL_t (fun a j _ => f a j (by omega) (by omega) (by omega) (by omega)) gl, NB_t (fun a j _ => f a j (by omega) (by omega) (by omega) (by omega)) nb, SW_t (fun a j _ => f a j (by omega) (by omega) (by omega) (by omega)) sw, GI1_t (fun a j _ => f a j (by omega) (by omega) (by omega) (by omega)) gi0, GI1_t (fun a j _ => f a j (by omega) (by omega) (by omega) (by omega)) gi1, ⟨n + 1, qU Q n s c z, wq', ⟨by rw [f0 65 4 (by omega) (by omega)]; exact gx.1, fun i hi => by rw [f0 66 i (by omega) (by omega), f0 67 i (by omega) (by omega), f0 68 i (by omega) (by omega)]; exact gx.2 i hi⟩, gy⟩, BK_t (fun a j _ => f a j (by omega) (by omega) (by omega) (by omega)) bk, GT_t (fun a j _ => f a j (by omega) (by omega) (by omega) (by omega)) gt, by rw [f 1 2 (by omega) (by omega) (by omega) (by omega), f 84 17 (by omega) (by omega) (by omega) (by omega)]; exact gf⟩
      · rw [if_neg hn]
        refine ⟨_, h, h, rfl, ?_, I⟩
        rw [fX8_ask, mz_isSet ms.1 ms.2.1, bd_s, decide_eq_true hl, if_pos rfl, show (0 : Int64) = (0 : Int32).toInt64 from rfl, show (10 : Int64) = (10 : Int32).toInt64 from rfl, m_in, bd_s, decide_eq_true hl2, if_pos rfl, y.1, show n = 6 by omega, if_pos (show nI 6 = (6 : Int32) from rfl)]
    · rw [if_neg hl2]
      refine ⟨_, h, h, rfl, ?_, I⟩
      rw [fX8_ask, mz_isSet ms.1 ms.2.1, bd_s, decide_eq_true hl, if_pos rfl, show (0 : Int64) = (0 : Int32).toInt64 from rfl, show (10 : Int64) = (10 : Int32).toInt64 from rfl, m_in, bd_s, decide_eq_false hl2]
      rfl
  · rw [decide_eq_false hl]
    refine ⟨_, h, h, rfl, ?_, I⟩
    rw [fX8_ask, mz_isSet ms.1 ms.2.1, bd_s, decide_eq_false hl]
    rfl
end CB
