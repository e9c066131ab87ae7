section LO
variable {n c R q : Nat} {T M : Nat → Nat} {A : Ab} {hx hm : Mm}
theorem b_all (j : JP n T c A R M q hx hm) {w : Nat} (hw : w ≤ 255) (ck : cwk A w = 0) : ∃ g4 k9 f, (if nI w = (100 : Int32) then md_bd (fX6_readTalk hx) (fun h_6 => some h_6) else if nI w = (103 : Int32) then md_bd (fX6_readGate hx) (fun h_7 => some h_7) else if nI w = (105 : Int32) then md_bd (fX6_readIdea hx) (fun h_8 => some h_8) else if nI w = (106 : Int32) then md_bd (fX6_readJoining hx) (fun h_9 => some h_9) else if nI w = (114 : Int32) then md_bd (fX6_readRegistered hx) (fun h_10 => some h_10) else md_bd (fX6_readTraveller hx) (fun h_11 => some h_11)) = some g4 ∧ fX8_takeBody hm (wc w) = some (nI f, k9) ∧ OC n T c q hx hm g4 k9 f := by
  have c103 : (nI w = (103 : Int32)) ↔ w = 103 := n_eq (b := 103) (by omega) (by omega)
  have c105 : (nI w = (105 : Int32)) ↔ w = 105 := n_eq (b := 105) (by omega) (by omega)
  have c106 : (nI w = (106 : Int32)) ↔ w = 106 := n_eq (b := 106) (by omega) (by omega)
  have c100 : (nI w = (100 : Int32)) ↔ w = 100 := n_eq (b := 100) (by omega) (by omega)
  have c114 : (nI w = (114 : Int32)) ↔ w = 114 := n_eq (b := 114) (by omega) (by omega)
  simp only [c103, c105, c106, c100, c114]
  by_cases w103 : w = 103
  · have wk : wc w = 0 := by unfold wc; rw [if_pos w103]
    obtain ⟨g, k, f, a1, a2, a3⟩ := b_gate j
    refine ⟨g, k, f, ?_, ?_, a3⟩
    · rw [if_neg (by omega), if_pos w103, a1, bd_s]
    · rw [wk, fX8_takeBody, if_pos rfl, a2, b2_s]
  · by_cases w105 : w = 105
    · have wk : wc w = 1 := by unfold wc; rw [if_neg w103, if_pos w105]
      unfold cwk at ck
      rw [if_neg w103, if_pos w105] at ck
      have hI : A 0 2 < 8 := by
        by_cases z : A 0 0 = 0
        · rw [if_pos z] at ck; omega
        · rw [if_neg z] at ck
          by_cases y : 8 ≤ A 0 2
          · rw [if_pos y] at ck; omega
          · omega
      obtain ⟨g, k, f, a1, a2, a3⟩ := b_idea j hI
      refine ⟨g, k, f, ?_, ?_, a3⟩
      · rw [if_neg (by omega), if_neg w103, if_pos w105, a1, bd_s]
      · rw [wk, fX8_takeBody, if_neg (by decide), if_pos rfl, a2, b2_s]
    · by_cases w106 : w = 106
      · have wk : wc w = 2 := by unfold wc; rw [if_neg w103, if_neg w105, if_pos w106]
        unfold cwk at ck
        rw [if_neg w103, if_neg w105, if_pos w106] at ck
        have hI : A 0 3 < 10 := by
          by_cases z : A 0 0 = 0
          · rw [if_pos z] at ck; omega
          · rw [if_neg z] at ck
            by_cases y : 10 ≤ A 0 3
            · rw [if_pos y] at ck; omega
            · omega
        obtain ⟨g, k, f, a1, a2, a3⟩ := b_join j hI
        refine ⟨g, k, f, ?_, ?_, a3⟩
        · rw [if_neg (by omega), if_neg w103, if_neg w105, if_pos w106, a1, bd_s]
        · rw [wk, fX8_takeBody, if_neg (by decide), if_neg (by decide), if_pos rfl, a2, b2_s]
      · by_cases w100 : w = 100
        · have wk : wc w = 3 := by unfold wc; rw [if_neg w103, if_neg w105, if_neg w106, if_pos w100]
          unfold cwk at ck
          rw [if_neg w103, if_neg w105, if_neg w106, if_pos w100] at ck
          have hI : A 0 4 < 10 := by
            by_cases z : A 0 0 = 0
            · rw [if_pos z] at ck; omega
            · rw [if_neg z] at ck
              by_cases y : 10 ≤ A 0 4
              · rw [if_pos y] at ck; omega
              · omega
          obtain ⟨g, k, f, a1, a2, a3⟩ := b_talk j hI
          refine ⟨g, k, f, ?_, ?_, a3⟩
          · rw [if_pos w100, a1, bd_s]
          · rw [wk, fX8_takeBody, if_neg (by decide), if_neg (by decide), if_neg (by decide), if_pos rfl, a2, b2_s]
        · by_cases w114 : w = 114
          · have wk : wc w = 4 := by unfold wc; rw [if_neg w103, if_neg w105, if_neg w106, if_neg w100, if_pos w114]
            obtain ⟨g, k, f, a1, a2, a3⟩ := b_reg j
            refine ⟨g, k, f, ?_, ?_, a3⟩
            · rw [if_neg w100, if_neg w103, if_neg w105, if_neg w106, if_pos w114, a1, bd_s]
            · rw [wk, fX8_takeBody, if_neg (by decide), if_neg (by decide), if_neg (by decide), if_neg (by decide), if_pos rfl, a2, b2_s]
          · have wk : wc w = 5 := by unfold wc; rw [if_neg w103, if_neg w105, if_neg w106, if_neg w100, if_neg w114]
            unfold cwk at ck
            rw [if_neg w103, if_neg w105, if_neg w106, if_neg w100, if_neg w114] at ck
            have hI : A 0 5 < 5 := by
              by_cases w116 : w = 116
              · rw [if_pos w116] at ck
                by_cases z : A 0 0 = 0
                · rw [if_pos z] at ck; omega
                · rw [if_neg z] at ck
                  by_cases y : 5 ≤ A 0 5
                  · rw [if_pos y] at ck; omega
                  · omega
              · rw [if_neg w116] at ck; omega
            obtain ⟨g, k, f, a1, a2, a3⟩ := b_trav j hI
            refine ⟨g, k, f, ?_, ?_, a3⟩
            · rw [if_neg w100, if_neg w103, if_neg w105, if_neg w106, if_neg w114, a1, bd_s]
            · rw [wk, fX8_takeBody, if_neg (by decide), if_neg (by decide), if_neg (by decide), if_neg (by decide), if_neg (by decide), a2, b2_s]
theorem cl_clause (j : JP n T c A R M q hx hm) (hq : q < n) (hs : sk n T q = q) : ∃ hx' hm' f, fX6_readClause hx = some hx' ∧ fX8_takeClause hm = some (nI f, hm') ∧ OC n T c (q + 1) hx hm hx' hm' f := by
  obtain ⟨w, kx, km, rx, rm, e3, ec, hc⟩ := id j
  have hw := rx.2.2.1 q hq
  obtain ⟨g, a1, a2, a3, a4, a5⟩ := x_cw w.1 kx rx e3 ec hw
  obtain ⟨k, b1, b2, b3⟩ := m_tc w.1 km rm hq hs
  have el : fX6_letterHere hx = some (nI (T q)) := by rw [x_letter rx, ltr, if_pos hq]
  by_cases ck : cwk A (T q) = 0
  · obtain rfl : g = hx := a5 ck
    have jk : JP n T c A R M q g k := JP_p j (fun _ _ _ => rfl) b2 rx b1
    have j' : JP n T c A R M (q + 1) (md_up g 1 4 (nI (q + 1))) (md_up k 84 18 (nI (q + 1))) := JP_p jk (fun a j q => u_f _ _ q) (fun a j q => u_f _ _ q) (RX_p rx (by omega) (u_ss _ _ _ _) (fun a j _ => u_f _ _ (by omega))) (RM_p b1 (by omega) (u_ss _ _ _ _) (fun a j _ => u_f _ _ (by omega)))
    obtain ⟨g4, k9, f, d1, d2, d3⟩ := b_all j' hw ck
    obtain ⟨hx', hm', f', s1, s2, s3⟩ := e_end hc d3
    refine ⟨hx', hm', f', ?_, ?_, OC_pre s3 (fun a j q1 q2 => u_f _ _ (by omega)) (fun a j q1 q2 => by rw [u_f _ _ (by omega), b2 a j (by omega)]) (u_sn _ _ _ (by omega)) (by rw [u_sn _ _ _ (by omega), b2 84 17 (by omega)])⟩
    · rw [fX6_readClause, el, bd_s, a1, bd_s, e3, if_pos rfl, rx.2.2.2.2.1, nI_1, lt_e, d1, bd_s, s1, bd_s]
    · rw [b3, if_pos ck, lt_e, d2, b2_s]; exact s2
  · have hk := cwk_le A (T q)
    rw [if_neg ck] at b3 a3
    refine ⟨g, _, cwk A (T q), ?_, b3, fun a j q1 q2 => a4 a j (by omega) (by omega), fun a j q1 q2 => by rw [u_f _ _ (by omega), b2 a j (by omega)], .inr ⟨ck, hk, a2, by rw [a3, u_ss], q, RX_t (fun a j _ => a4 a j (by omega) (by omega)) rx⟩⟩
    rw [fX6_readClause, el, bd_s, a1, bd_s, a2, if_neg (nI_ne0 (by omega) (by omega))]
end LO
def EN (c : Nat) (hx hm hx' hm' : Mm) (f : Nat) : Prop := FX c hx hx' ∧ FM hm hm' ∧ ((f = 0 ∧ hx' 1 3 = 0 ∧ hx' 1 2 = hx 1 2 ∧ hm' 84 17 = hm 84 17 ∧ ∃ A R M, WK A R M ∧ KX hx' c A R M ∧ KM hm' A R M) ∨ (f ≠ 0 ∧ f ≤ 4 ∧ hx' 1 3 = nI f ∧ hx' 1 2 = hm' 84 17))
theorem lp_all {n c : Nat} {T : Nat → Nat} : ∀ k i p R (A : Ab) (M : Nat → Nat) (hx hm : Mm) F G, n - p ≤ k → i ≤ p → k + 2 < F → k + 2 < G → JP n T c A R M p hx hm → ∃ hx' hm' f, fX6_read_24 F hx (nI i) = some hx' ∧ fX8_thePass_51 G hm (nI 0) = some (nI f, hm') ∧ EN c hx hm hx' hm' f := by
  intro k
  induction k with
  | zero =>
    intro i p R A M hx hm F G hk hi hF hG j
    obtain ⟨F, rfl⟩ : ∃ H, F = H + 1 := ⟨F - 1, by omega⟩
    obtain ⟨G, rfl⟩ : ∃ H, G = H + 1 := ⟨G - 1, by omega⟩
    obtain ⟨w, kx, km, rx, rm, e3, ec, hc⟩ := id j
    have hn := rx.1
    have hp := rx.2.1
    have hb := sk_b T hp
    obtain ⟨g1, a1, a2, a3⟩ := x_skip rx
    obtain ⟨k1, b1, b2, b3⟩ := m_here rm
    have j1 : JP n T c A R M (sk n T p) g1 k1 := JP_p j a3 b3 a2 b2
    refine ⟨g1, k1, 0, ?_, ?_, fun a j q1 q2 => a3 a j (by omega), fun a j q1 q2 => b3 a j (by omega), .inl ⟨rfl, j1.2.2.2.2.2.1, a3 1 2 (by omega), b3 84 17 (by omega), A, R, M, j1.1, j1.2.1, j1.2.2.1⟩⟩
    · rw [fX6_read_24, show (240 : Int32) = nI 240 from rfl, if_neg (by rw [n_lt (by omega) (by omega)]; omega), a1, bd_s, a2.2.2.2.1, a2.2.2.2.2.1, if_pos ((n_le (by omega) (by omega)).mpr (by omega))]
    · rw [fX8_thePass_51, if_pos (show nI 0 = 0 from rfl), b1, b2_s, show ltr n T (sk n T p) = -1 from if_neg (by omega), if_pos (by decide)]
  | succ k ih =>
    intro i p R A M hx hm F G hk hi hF hG j
    obtain ⟨F, rfl⟩ : ∃ H, F = H + 1 := ⟨F - 1, by omega⟩
    obtain ⟨G, rfl⟩ : ∃ H, G = H + 1 := ⟨G - 1, by omega⟩
    obtain ⟨w, kx, km, rx, rm, e3, ec, hc⟩ := id j
    have hn := rx.1
    have hp := rx.2.1
    have hb := sk_b T hp
    obtain ⟨g1, a1, a2, a3⟩ := x_skip rx
    obtain ⟨k1, b1, b2, b3⟩ := m_here rm
    have j1 : JP n T c A R M (sk n T p) g1 k1 := JP_p j a3 b3 a2 b2
    have e31 : g1 1 3 = 0 := j1.2.2.2.2.2.1
    by_cases hq : sk n T p < n
    · obtain ⟨g2, k2, f, c1, c2, c3, c4, c5⟩ := cl_clause j1 hq (sk_id T hp)
      have hC : fX6_read_24 (F + 1) hx (nI i) = fX6_read_24 F g2 (nI (i + 1)) := by
        rw [fX6_read_24, show (240 : Int32) = nI 240 from rfl, if_neg (by rw [n_lt (by omega) (by omega)]; omega), a1, bd_s, a2.2.2.2.1, a2.2.2.2.2.1, if_neg (by rw [n_le (by omega) (by omega)]; omega), e31, if_pos rfl, c1, bd_s, nI_1]
      have hT := rx.2.2.1 _ hq
      have hM : fX8_thePass_51 (G + 1) hm (nI 0) = fX8_thePass_51 G k2 (nI f) := by
        rw [fX8_thePass_51, if_pos (show nI 0 = 0 from rfl), b1, b2_s, show ltr n T (sk n T p) = nI (T (sk n T p)) from if_pos hq, if_neg (nI_pos (by omega)), c2, b2_s]
      rw [hC, hM]
      rcases c5 with ⟨rfl, r2, r3, A', R', M', p', r4, j'⟩ | ⟨r1, r2, r3, r4, p', r5⟩
      · obtain ⟨hx', hm', f', d1, d2, d3, d4, d5⟩ := ih (i + 1) p' R' A' M' g2 k2 F G (by omega) (by omega) (by omega) (by omega) j'
        refine ⟨hx', hm', f', d1, d2, fun a j q1 q2 => by rw [d3 a j q1 q2, c3 a j q1 q2, a3 a j (by omega)], fun a j q1 q2 => by rw [d4 a j q1 q2, c4 a j q1 q2, b3 a j (by omega)], ?_⟩
        rcases d5 with ⟨s1, s2, s3, s4, s5⟩ | s
        · exact .inl ⟨s1, s2, by rw [s3, r2, a3 1 2 (by omega)], by rw [s4, r3, b3 84 17 (by omega)], s5⟩
        · exact .inr s
      · obtain ⟨F, rfl⟩ : ∃ H, F = H + 1 := ⟨F - 1, by omega⟩
        obtain ⟨G, rfl⟩ : ∃ H, G = H + 1 := ⟨G - 1, by omega⟩
        obtain ⟨g3, s1, s2, s3⟩ := x_skip r5
        have e33 : g3 1 3 = nI f := by rw [s3 1 3 (by omega)]; exact r3
        refine ⟨g3, k2, f, ?_, ?_, fun a j q1 q2 => by rw [s3 a j (by omega), c3 a j q1 q2, a3 a j (by omega)], fun a j q1 q2 => by rw [c4 a j q1 q2, b3 a j (by omega)], .inr ⟨r1, r2, e33, by rw [s3 1 2 (by omega), r4]⟩⟩
        · rw [fX6_read_24, show (240 : Int32) = nI 240 from rfl, if_neg (by rw [n_lt (by omega) (by omega)]; omega), s1, bd_s, e33, if_neg (nI_ne0 (by omega) (by omega)), ite_self]
        · rw [fX8_thePass_51, if_neg (nI_ne0 (by omega) (by omega))]
    · refine ⟨g1, k1, 0, ?_, ?_, fun a j q1 q2 => a3 a j (by omega), fun a j q1 q2 => b3 a j (by omega), .inl ⟨rfl, e31, a3 1 2 (by omega), b3 84 17 (by omega), A, R, M, j1.1, j1.2.1, j1.2.2.1⟩⟩
      · rw [fX6_read_24, show (240 : Int32) = nI 240 from rfl, if_neg (by rw [n_lt (by omega) (by omega)]; omega), a1, bd_s, a2.2.2.2.1, a2.2.2.2.2.1, if_pos ((n_le (by omega) (by omega)).mpr (by omega))]
      · rw [fX8_thePass_51, if_pos (show nI 0 = 0 from rfl), b1, b2_s, show ltr n T (sk n T p) = -1 from if_neg hq, if_pos (by decide)]
