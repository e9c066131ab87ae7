theorem JP_p {n c R p q : Nat} {T M : Nat → Nat} {A : Ab} {g k g1 k1 : Mm} (j : JP n T c A R M p g k) (f1 : ∀ a j, (a ≠ 1 ∨ j ≠ 4) → g1 a j = g a j) (f2 : ∀ a j, (a ≠ 84 ∨ j ≠ 18) → k1 a j = k a j) (rx : RX g1 n T q) (rm : RM k1 n T q) : JP n T c A R M q g1 k1 := by
  obtain ⟨w, kx, km, _, _, e3, ec, hc⟩ := j
  exact ⟨w, KX_t (fun a j _ _ => f1 a j (by omega)) kx, KM_t (fun a j _ => f2 a j (by omega)) km, rx, rm, by rw [f1 1 3 (by omega)]; exact e3, by rw [f1 1 6 (by omega)]; exact ec, hc⟩
theorem OC_pre {n c p f : Nat} {T : Nat → Nat} {hx hm h3 h7 hx' hm' : Mm} (o : OC n T c p h3 h7 hx' hm' f) (f1 : FX c hx h3) (f2 : FM hm h7) (e1 : h3 1 2 = hx 1 2) (e2 : h7 84 17 = hm 84 17) : OC n T c p hx hm hx' hm' f := by
  obtain ⟨o1, o2, o3⟩ := o
  refine ⟨fun a j q1 q2 => by rw [o1 a j q1 q2, f1 a j q1 q2], fun a j q1 q2 => by rw [o2 a j q1 q2, f2 a j q1 q2], ?_⟩
  rcases o3 with ⟨r1, r2, r3, r4⟩ | r
  · exact .inl ⟨r1, by rw [r2, e1], by rw [r3, e2], r4⟩
  · exact .inr r
theorem ltr_59 {n q : Nat} {T : Nat → Nat} (e : ltr n T q = (59 : Int32)) : q < n := by
  unfold ltr at e
  by_cases c : q < n
  · exact c
  · rw [if_neg c] at e; exact absurd e (by decide)
theorem e_end {n c p f : Nat} {T : Nat → Nat} {hx hm g k : Mm} (hc : c = 3 ∨ c = 74) (o : OC n T c p hx hm g k f) : ∃ hx' hm' f', fX6_readEnd g = some hx' ∧ (if (nI f) = 0 then md_b2 (fX8_here k) (fun r_11 h_12 => (if r_11 = (59 : Int32) then md_lt (md_up h_12 84 18 ((h_12 84 18) + (1 : Int32))) (fun h_13 : Mm => some (nI f, h_13)) else md_b2 (fX8_fails h_12 (1 : Int32) (h_12 84 18)) (fun r_14 h_15 => some (r_14, h_15)))) else md_lt (md_up k 84 18 ((k 84 18) + (1 : Int32))) (fun h_10 : Mm => some (nI f, h_10))) = some (nI f', hm') ∧ OC n T c p hx hm hx' hm' f' := by
  obtain ⟨o1, o2, o3⟩ := o
  rcases o3 with ⟨rfl, r2, r3, A, R, M, p', r4, j⟩ | ⟨r1, r2, r3, r4, p', r5⟩
  · obtain ⟨w, kx, km, rx, rm, e3, ec, -⟩ := id j
    have hb := sk_b T rx.2.1
    obtain ⟨g1, a1, a2, a3⟩ := x_skip rx
    obtain ⟨k1, b1, b2, b3⟩ := m_here rm
    have j1 : JP n T c A R M (sk n T p') g1 k1 := JP_p j a3 b3 a2 b2
    rw [if_pos (show nI 0 = 0 from rfl), b1, b2_s, b2.2.2.2.2.1, fX6_readEnd, a1, bd_s, x_letter a2, bd_s, a2.2.2.2.2.1]
    by_cases h59 : ltr n T (sk n T p') = (59 : Int32)
    · have hq := ltr_59 h59
      rw [if_pos h59, if_pos h59, lt_e, lt_e, bd_s, nI_1]
      refine ⟨_, _, 0, rfl, rfl, fun a j q1 q2 => ?_, fun a j q1 q2 => ?_, .inl ⟨rfl, ?_, ?_, A, R, M, sk n T p' + 1, by omega, JP_p j1 (fun a j q => u_f _ _ q) (fun a j q => u_f _ _ q) ?_ ?_⟩⟩
      · rw [u_f _ _ (by omega), a3 a j (by omega), o1 a j q1 q2]
      · rw [u_f _ _ (by omega), b3 a j (by omega), o2 a j q1 q2]
      · rw [u_sn _ _ _ (by omega), a3 1 2 (by omega), r2]
      · rw [u_sn _ _ _ (by omega), b3 84 17 (by omega), r3]
      · exact RX_p a2 (by omega) (u_ss _ _ _ _) (fun a j _ => u_f _ _ (by omega))
      · exact RM_p b2 (by omega) (u_ss _ _ _ _) (fun a j _ => u_f _ _ (by omega))
    · rw [if_neg h59, if_neg h59, fX8_fails, lt_e, b2_s]
      have e3' : g1 1 3 = 0 := j1.2.2.2.2.2.1
      obtain ⟨g2, c1, c2, c3, c4⟩ := x_ff0 (1 : Int32) (nI (sk n T p')) e3'
      rw [c1, bd_s, bd_s]
      refine ⟨g2, _, 1, rfl, rfl, fun a j q1 q2 => ?_, fun a j q1 q2 => ?_, .inr ⟨by omega, by omega, c2, ?_, sk n T p', RX_t (fun a j _ => c4 a j (by omega) (by omega)) a2⟩⟩
      · rw [c4 a j (by omega) (by omega), a3 a j (by omega), o1 a j q1 q2]
      · rw [u_f _ _ (by omega), b3 a j (by omega), o2 a j q1 q2]
      · rw [c3, u_ss]
  · have hb := sk_b T r5.2.1
    obtain ⟨g1, a1, a2, a3⟩ := x_skip r5
    have e3' : g1 1 3 = nI f := by rw [a3 1 3 (by omega)]; exact r3
    rw [if_neg (nI_ne0 (by omega) (by omega)), lt_e, fX6_readEnd, a1, bd_s, x_letter a2, bd_s, a2.2.2.2.2.1, x_ffd e3' r1 r2, bd_s]
    by_cases h59 : ltr n T (sk n T p') = (59 : Int32)
    · have hq := ltr_59 h59
      rw [if_pos h59, lt_e, bd_s, nI_1]
      refine ⟨_, _, f, rfl, rfl, fun a j q1 q2 => ?_, fun a j q1 q2 => ?_, .inr ⟨r1, r2, ?_, ?_, sk n T p' + 1, RX_p a2 (by omega) (u_ss _ _ _ _) (fun a j _ => u_f _ _ (by omega))⟩⟩
      · rw [u_f _ _ (by omega), a3 a j (by omega), o1 a j q1 q2]
      · rw [u_f _ _ (by omega), o2 a j q1 q2]
      · rw [u_sn _ _ _ (by omega)]; exact e3'
      · rw [u_sn _ _ _ (by omega), u_sn _ _ _ (by omega), a3 1 2 (by omega), r4]
    · rw [if_neg h59, bd_s]
      refine ⟨g1, _, f, rfl, rfl, fun a j q1 q2 => ?_, fun a j q1 q2 => ?_, .inr ⟨r1, r2, e3', ?_, sk n T p', a2⟩⟩
      · rw [a3 a j (by omega), o1 a j q1 q2]
      · rw [u_f _ _ (by omega), o2 a j q1 q2]
      · rw [u_sn _ _ _ (by omega), a3 1 2 (by omega), r4]
def wc (w : Nat) : Int32 := if w = 103 then 0 else if w = 105 then 1 else if w = 106 then 2 else if w = 100 then 3 else if w = 114 then 4 else 5
theorem n_le0 {x : Nat} (h : x < 1000000) : (nI x ≤ 0) ↔ x = 0 := by
  rw [show (0 : Int32) = nI 0 from rfl, n_le (by omega) (by omega)]; omega
theorem n_e0 {x : Nat} (h : x < 1000000) : (nI x = 0) ↔ x = 0 := n_eq (b := 0) (by omega) (by omega)
theorem m_tc {hm : Mm} {n q R : Nat} {T M : Nat → Nat} {A : Ab} (wa : WA A) (km : KM hm A R M) (rm : RM hm n T q) (hq : q < n) (hs : sk n T q = q) : ∃ k : Mm, RM k n T q ∧ (∀ a j, (a ≠ 84 ∨ j ≠ 18) → k a j = hm a j) ∧ fX8_takeClause hm = (if cwk A (T q) = 0 then md_lt (md_up k 84 18 (nI (q + 1))) (fun h_7 : Mm => md_b2 (fX8_takeBody h_7 (wc (T q))) (fun r_8 h_9 => (if r_8 = 0 then md_b2 (fX8_here h_9) (fun r_11 h_12 => (if r_11 = (59 : Int32) then md_lt (md_up h_12 84 18 ((h_12 84 18) + (1 : Int32))) (fun h_13 : Mm => some (r_8, h_13)) else md_b2 (fX8_fails h_12 (1 : Int32) (h_12 84 18)) (fun r_14 h_15 => some (r_14, h_15)))) else md_lt (md_up h_9 84 18 ((h_9 84 18) + (1 : Int32))) (fun h_10 : Mm => some (r_8, h_10))))) else some (nI (cwk A (T q)), md_up k 84 17 (nI q))) := by
  obtain ⟨k, b1, b2, b3⟩ := m_here rm
  rw [hs] at b1 b2
  refine ⟨k, b2, b3, ?_⟩
  have hw := rm.2.2.1 q hq
  generalize hT : T q = w at hw
  have c103 : (nI w = (103 : Int32)) ↔ w = 103 := n_eq (b := 103) (by omega) (by omega)
  have c105 : (nI w = (105 : Int32)) ↔ w = 105 := n_eq (b := 105) (by omega) (by omega)
  have c106 : (nI w = (106 : Int32)) ↔ w = 106 := n_eq (b := 106) (by omega) (by omega)
  have c100 : (nI w = (100 : Int32)) ↔ w = 100 := n_eq (b := 100) (by omega) (by omega)
  have c114 : (nI w = (114 : Int32)) ↔ w = 114 := n_eq (b := 114) (by omega) (by omega)
  have c116 : (nI w = (116 : Int32)) ↔ w = 116 := n_eq (b := 116) (by omega) (by omega)
  have w0 := wa.1
  have w2 := wa.2.2.1
  have w3 := wa.2.2.2.1
  have w4 := wa.2.2.2.2.1
  have w5 := wa.2.2.2.2.2.1
  have e94 : k 94 0 = nI (A 0 0) := by rw [b3 94 0 (by omega)]; exact km.1
  have e22 : (k 84 22 = (8 : Int32)) ↔ A 0 2 = 8 := by rw [b3 84 22 (by omega), km.2.2.1]; exact n_eq (b := 8) (by omega) (by omega)
  have e24 : (k 84 24 = (10 : Int32)) ↔ A 0 3 = 10 := by rw [b3 84 24 (by omega), km.2.2.2.1]; exact n_eq (b := 10) (by omega) (by omega)
  have e28 : (k 84 28 = (10 : Int32)) ↔ A 0 4 = 10 := by rw [b3 84 28 (by omega), km.2.2.2.2.1]; exact n_eq (b := 10) (by omega) (by omega)
  have e33 : (k 84 33 = (5 : Int32)) ↔ A 0 5 = 5 := by rw [b3 84 33 (by omega), km.2.2.2.2.2.1]; exact n_eq (b := 5) (by omega) (by omega)
  have i0 : md_in (0 : Int32) 2 = true := by decide
  have z0 := n_e0 (x := A 0 0) (by omega)
  rw [fX8_takeClause, b1, b2_s, show ltr n T q = nI w by rw [ltr, if_pos hq, hT], fX8_whichClause, b2.2.2.2.2.1, nI_1]
  simp only [c103, c105, c106, c100, c114, c116, i0, ck_t, c_0, e94, z0, fX8_fails, lt_e, b2_s]
  by_cases w103 : w = 103
  · have ck : cwk A w = if A 0 0 = 0 then 0 else 3 := by unfold cwk; rw [if_pos w103]
    have wk : wc w = 0 := by unfold wc; rw [if_pos w103]
    rw [if_pos w103, bd_s, bd_s, if_neg (by decide), if_pos (by decide), fX8_isFull, if_pos rfl, i0, ck_t, c_0, e94, ck, wk]
    simp only [n_le0 (show A 0 0 < 1000000 by omega)]
    by_cases z : A 0 0 = 0
    · simp only [if_pos z, bd_s, Bool.false_eq_true, if_false, if_true]
    · simp only [if_neg z, bd_s, if_true]
      rfl
  · rw [if_neg w103]
    by_cases w105 : w = 105
    · have ck : cwk A w = if A 0 0 = 0 then 1 else if 8 ≤ A 0 2 then 3 else 0 := by unfold cwk; rw [if_neg w103, if_pos w105]
      have wk : wc w = 1 := by unfold wc; rw [if_neg w103, if_pos w105]
      rw [if_pos w105, bd_s, bd_s, if_neg (by decide), if_neg (by decide), ck, wk]
      by_cases z : A 0 0 = 0
      · simp only [if_pos z]; rfl
      · simp only [if_neg z]
        rw [fX8_isFull, if_neg (by decide), if_pos rfl]
        simp only [e22]
        by_cases y : A 0 2 = 8
        · simp only [if_pos y, bd_s, if_true, if_pos (show 8 ≤ A 0 2 by omega)]; rfl
        · simp only [if_neg y, bd_s, Bool.false_eq_true, if_false, if_neg (show ¬ 8 ≤ A 0 2 by omega), if_true]
    · rw [if_neg w105]
      by_cases w106 : w = 106
      · have ck : cwk A w = if A 0 0 = 0 then 1 else if 10 ≤ A 0 3 then 3 else 0 := by unfold cwk; rw [if_neg w103, if_neg w105, if_pos w106]
        have wk : wc w = 2 := by unfold wc; rw [if_neg w103, if_neg w105, if_pos w106]
        rw [if_pos w106, bd_s, bd_s, if_neg (by decide), if_neg (by decide), ck, wk]
        by_cases z : A 0 0 = 0
        · simp only [if_pos z]; rfl
        · simp only [if_neg z]
          rw [fX8_isFull, if_neg (by decide), if_neg (by decide), if_pos rfl]
          simp only [e24]
          by_cases y : A 0 3 = 10
          · simp only [if_pos y, bd_s, if_true, if_pos (show 10 ≤ A 0 3 by omega)]; rfl
          · simp only [if_neg y, bd_s, Bool.false_eq_true, if_false, if_neg (show ¬ 10 ≤ A 0 3 by omega), if_true]
      · rw [if_neg w106]
        by_cases w100 : w = 100
        · have ck : cwk A w = if A 0 0 = 0 then 1 else if 10 ≤ A 0 4 then 3 else 0 := by unfold cwk; rw [if_neg w103, if_neg w105, if_neg w106, if_pos w100]
          have wk : wc w = 3 := by unfold wc; rw [if_neg w103, if_neg w105, if_neg w106, if_pos w100]
          rw [if_pos w100, bd_s, bd_s, if_neg (by decide), if_neg (by decide), ck, wk]
          by_cases z : A 0 0 = 0
          · simp only [if_pos z]; rfl
          · simp only [if_neg z]
            rw [fX8_isFull, if_neg (by decide), if_neg (by decide), if_neg (by decide), if_pos rfl]
            simp only [e28]
            by_cases y : A 0 4 = 10
            · simp only [if_pos y, bd_s, if_true, if_pos (show 10 ≤ A 0 4 by omega)]; rfl
            · simp only [if_neg y, bd_s, Bool.false_eq_true, if_false, if_neg (show ¬ 10 ≤ A 0 4 by omega), if_true]
        · rw [if_neg w100]
          by_cases w114 : w = 114
          · have ck : cwk A w = if A 0 0 = 0 then 1 else 0 := by unfold cwk; rw [if_neg w103, if_neg w105, if_neg w106, if_neg w100, if_pos w114]
            have wk : wc w = 4 := by unfold wc; rw [if_neg w103, if_neg w105, if_neg w106, if_neg w100, if_pos w114]
            rw [if_pos w114, bd_s, bd_s, if_neg (by decide), if_neg (by decide), ck, wk]
            by_cases z : A 0 0 = 0
            · simp only [if_pos z]; rfl
            · simp only [if_neg z]
              rw [fX8_isFull, if_neg (by decide), if_neg (by decide), if_neg (by decide), if_neg (by decide), if_pos rfl]
              simp only [bd_s, Bool.false_eq_true, if_false, if_true]
          · rw [if_neg w114]
            by_cases w116 : w = 116
            · have ck : cwk A w = if A 0 0 = 0 then 1 else if 5 ≤ A 0 5 then 3 else 0 := by unfold cwk; rw [if_neg w103, if_neg w105, if_neg w106, if_neg w100, if_neg w114, if_pos w116]
              have wk : wc w = 5 := by unfold wc; rw [if_neg w103, if_neg w105, if_neg w106, if_neg w100, if_neg w114]
              rw [if_pos w116, bd_s, bd_s, if_neg (by decide), if_neg (by decide), ck, wk]
              by_cases z : A 0 0 = 0
              · simp only [if_pos z]; rfl
              · simp only [if_neg z]
                rw [fX8_isFull, if_neg (by decide), if_neg (by decide), if_neg (by decide), if_neg (by decide), if_neg (by decide)]
                simp only [e33]
                by_cases y : A 0 5 = 5
                · simp only [if_pos y, bd_s, if_true, if_pos (show 5 ≤ A 0 5 by omega)]; rfl
                · simp only [if_neg y, bd_s, Bool.false_eq_true, if_false, if_neg (show ¬ 5 ≤ A 0 5 by omega), if_true]
            · have ck : cwk A w = 1 := by unfold cwk; rw [if_neg w103, if_neg w105, if_neg w106, if_neg w100, if_neg w114, if_neg w116]
              rw [if_neg w116, bd_s, bd_s, if_pos (by decide), ck, if_neg (by decide)]
              rfl
