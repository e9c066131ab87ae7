/-! numbers read -/
def nz (n : Nat) (T : Nat → Nat) (p : Nat) : Nat := neF T (n - sk n T p) (sk n T p)
def nv (n : Nat) (T : Nat → Nat) (p : Nat) : Nat := vlF T (n - sk n T p) (sk n T p) 0
def kd (n : Nat) (T : Nat → Nat) (p lo m : Nat) : Nat := if nz n T p = sk n T p then 1 else if 3 < nz n T p - sk n T p ∨ nv n T p < lo ∨ m ≤ nv n T p then 2 else 0
theorem kd_le (n : Nat) (T : Nat → Nat) (p lo m : Nat) : kd n T p lo m ≤ 2 := by
  unfold kd
  split
  · omega
  · split <;> omega
theorem nz_b {n : Nat} (T : Nat → Nat) {p : Nat} (hp : p ≤ n) : p ≤ sk n T p ∧ sk n T p ≤ nz n T p ∧ nz n T p ≤ n := by
  have h1 := sk_b T hp
  have h2 := neF_b T (n - sk n T p) (sk n T p)
  unfold nz
  omega
theorem kd_0 {n : Nat} {T : Nat → Nat} {p lo m : Nat} (h : kd n T p lo m = 0) : lo ≤ nv n T p ∧ nv n T p < m ∧ nz n T p ≠ sk n T p := by
  unfold kd at h
  by_cases c : nz n T p = sk n T p
  · rw [if_pos c] at h; omega
  · rw [if_neg c] at h
    by_cases c2 : 3 < nz n T p - sk n T p ∨ nv n T p < lo ∨ m ≤ nv n T p
    · rw [if_pos c2] at h; omega
    · exact ⟨by omega, by omega, c⟩
theorem nz_iff (n : Nat) (T : Nat → Nat) (p : Nat) : (nz n T p = sk n T p) ↔ ¬ (sk n T p < n ∧ 48 ≤ T (sk n T p) ∧ T (sk n T p) ≤ 57) := by
  unfold nz
  generalize sk n T p = q
  cases e : n - q with
  | zero => exact ⟨fun _ => by omega, fun _ => rfl⟩
  | succ k =>
    rw [neF]
    by_cases c : 48 ≤ T q ∧ T q ≤ 57
    · rw [if_pos c]
      have := (neF_b T k (q + 1)).1
      exact ⟨fun _ => by omega, fun q => absurd ⟨by omega, c⟩ q⟩
    · rw [if_neg c]
      exact ⟨fun _ q => c q.2, fun _ => rfl⟩
theorem n_lem1 {x m : Nat} (hx : x < 1000000000) (hm : m < 1000000000) : (nI x ≤ nI m - 1) ↔ x < m := by
  rw [fa_le, show (1 : Int32) = nI 1 from rfl, pk_sub_toInt (by omega) (by omega), nI_toInt (by omega)]
  omega
theorem x_ff {h : Mm} {f : Nat} (k l : Int32) (e : h 1 3 = nI f) (hf : f ≤ 4) : ∃ h' : Mm, fX6_findFault h k l = some h' ∧ h' 1 3 = (if f = 0 then k else nI f) ∧ h' 1 2 = (if f = 0 then l else h 1 2) ∧ (∀ a j, (a ≠ 1 ∨ j ≠ 2) → (a ≠ 1 ∨ j ≠ 3) → h' a j = h a j) := by
  rw [fX6_findFault, e]
  by_cases c : f = 0
  · rw [c, if_pos (show nI 0 = 0 from rfl), lt_e, lt_e, bd_s, if_pos rfl, if_pos rfl]
    exact ⟨_, rfl, by rw [u_sn _ _ _ (by omega), u_ss], by rw [u_ss], fun a j q1 q2 => by rw [u_f _ _ q1, u_f _ _ q2]⟩
  · rw [if_neg (nI_ne0 (by omega) (by omega)), bd_s, if_neg c, if_neg c]
    exact ⟨h, rfl, e, rfl, fun _ _ _ _ => rfl⟩
theorem x_num {h : Mm} {n p f lo m : Nat} {T : Nat → Nat} (x : RX h n T p) (e : h 1 3 = nI f) (hf : f ≤ 4) (hlo : lo ≤ 1) (hm : m ≤ 1000) : ∃ h' : Mm, fX6_readNumber h (nI lo) (nI m - 1) = some (nI (if f = 0 ∧ kd n T p lo m = 0 then nv n T p else 0), h') ∧ RX h' n T (nz n T p) ∧ h' 1 5 = nI (sk n T p) ∧ h' 1 3 = nI (if f = 0 then kd n T p lo m else f) ∧ h' 1 2 = (if f = 0 ∧ kd n T p lo m ≠ 0 then nI (sk n T p) else h 1 2) ∧ (∀ a j, (a ≠ 1 ∨ j ≤ 1 ∨ 6 ≤ j) → h' a j = h a j) := by
  have hn := x.1
  have hb := nz_b T x.2.1
  obtain ⟨g1, a1, a2, a3⟩ := x_skip x
  have x2 : RX (md_up g1 1 5 (nI (sk n T p))) n T (sk n T p) := RX_t (fun a j _ => u_f _ _ (by omega)) a2
  obtain ⟨g3, b1, b2, b3⟩ := x_nu (nI lo) (nI m - 1) (n - sk n T p) (sk n T p) 0 (md_up g1 1 5 (nI (sk n T p))) md_N (by omega) (by unfold md_N; omega) x2
  have b1' : fX6_readNumber_14 md_N (md_up g1 1 5 (nI (sk n T p))) (nI lo) (nI m - 1) (0 : Int32) = some (nI (min 1000 (nv n T p)), g3) := b1
  have e5 : g3 1 5 = nI (sk n T p) := by rw [b3 1 5 (by omega), u_ss]
  have e4 : g3 1 4 = nI (nz n T p) := b2.2.2.2.2.1
  have e3 : g3 1 3 = nI f := by rw [b3 1 3 (by omega), u_sn _ _ _ (by omega), a3 1 3 (by omega)]; exact e
  have e2 : g3 1 2 = h 1 2 := by rw [b3 1 2 (by omega), u_sn _ _ _ (by omega), a3 1 2 (by omega)]
  have b2' : RX g3 n T (nz n T p) := b2
  have fr : ∀ a j, (a ≠ 1 ∨ j ≤ 1 ∨ 6 ≤ j) → g3 a j = h a j := fun a j q => by rw [b3 a j (by omega), u_f _ _ (by omega), a3 a j (by omega)]
  rw [fX6_readNumber, a1, bd_s, lt_e, a2.2.2.2.2.1, b1', b2_s, lt_e, e4, e5, n_sub hb.2.1]
  obtain ⟨g4, c1, c2, c3, c4⟩ : ∃ g4 : Mm, (if nI (nz n T p - sk n T p) = 0 then md_bd (fX6_findFault g3 (1 : Int32) (nI (sk n T p))) (fun h_13 => some h_13) else some g3) = some g4 ∧ g4 1 3 = nI (if nz n T p = sk n T p ∧ f = 0 then 1 else f) ∧ g4 1 2 = (if nz n T p = sk n T p ∧ f = 0 then nI (sk n T p) else h 1 2) ∧ (∀ a j, (a ≠ 1 ∨ j ≠ 2) → (a ≠ 1 ∨ j ≠ 3) → g4 a j = g3 a j) := by
    by_cases c : nz n T p = sk n T p
    · rw [if_pos (by rw [show nz n T p - sk n T p = 0 by omega]; rfl)]
      obtain ⟨g, d1, d2, d3, d4⟩ := x_ff (1 : Int32) (nI (sk n T p)) e3 hf
      rw [d1, bd_s]
      refine ⟨g, rfl, ?_, ?_, d4⟩
      · rw [d2]
        by_cases cf : f = 0
        · rw [if_pos cf, if_pos ⟨c, cf⟩]; rfl
        · rw [if_neg cf, if_neg (fun q => cf q.2)]
      · rw [d3]
        by_cases cf : f = 0
        · rw [if_pos cf, if_pos ⟨c, cf⟩]
        · rw [if_neg cf, if_neg (fun q => cf q.2), e2]
    · rw [if_neg (nI_ne0 (by omega) (by omega)), if_neg (fun q => c q.1), if_neg (fun q => c q.1)]
      exact ⟨g3, rfl, e3, e2, fun _ _ _ _ => rfl⟩
  have hf1 : (if nz n T p = sk n T p ∧ f = 0 then 1 else f) ≤ 4 := by split <;> omega
  have e5' : g4 1 5 = nI (sk n T p) := by rw [c4 1 5 (by omega) (by omega)]; exact e5
  rw [c1, bd_s, e5', show (3 : Int32) = nI 3 from rfl]
  obtain ⟨g5, d1, d2, d3, d4⟩ : ∃ g5 : Mm, (if nI 3 < nI (nz n T p - sk n T p) then md_bd (fX6_findFault g4 (2 : Int32) (nI (sk n T p))) (fun h_16 => some h_16) else (if nI (min 1000 (nv n T p)) < nI lo then md_bd (fX6_findFault g4 (2 : Int32) (nI (sk n T p))) (fun h_17 => some h_17) else (if nI (min 1000 (nv n T p)) ≤ nI m - 1 then some g4 else md_bd (fX6_findFault g4 (2 : Int32) (nI (sk n T p))) (fun h_18 => some h_18)))) = some g5 ∧ g5 1 3 = nI (if f = 0 then kd n T p lo m else f) ∧ g5 1 2 = (if f = 0 ∧ kd n T p lo m ≠ 0 then nI (sk n T p) else h 1 2) ∧ (∀ a j, (a ≠ 1 ∨ j ≠ 2) → (a ≠ 1 ∨ j ≠ 3) → g5 a j = g4 a j) := by
    simp only [n_lt (show 3 < 1000000001 by omega) (show nz n T p - sk n T p < 1000000001 by omega), n_lt (show min 1000 (nv n T p) < 1000000001 by omega) (show lo < 1000000001 by omega), n_lem1 (show min 1000 (nv n T p) < 1000000000 by omega) (show m < 1000000000 by omega)]
    obtain ⟨g, d1, d2, d3, d4⟩ := x_ff (2 : Int32) (nI (sk n T p)) c2 hf1
    have all : (3 < nz n T p - sk n T p ∨ nv n T p < lo ∨ m ≤ nv n T p) → g 1 3 = nI (if f = 0 then kd n T p lo m else f) ∧ g 1 2 = (if f = 0 ∧ kd n T p lo m ≠ 0 then nI (sk n T p) else h 1 2) := by
      intro hc
      rw [d2, d3, c3]
      unfold kd
      by_cases cf : f = 0
      · by_cases ce : nz n T p = sk n T p
        · simp [cf, ce]
        · simp [cf, ce, hc]; rfl
      · simp [cf]
    by_cases k1 : 3 < nz n T p - sk n T p
    · rw [if_pos k1, d1, bd_s]
      exact ⟨g, rfl, (all (.inl k1)).1, (all (.inl k1)).2, d4⟩
    · rw [if_neg k1]
      by_cases k2 : min 1000 (nv n T p) < lo
      · rw [if_pos k2, d1, bd_s]
        have := all (.inr (.inl (by omega)))
        exact ⟨g, rfl, this.1, this.2, d4⟩
      · rw [if_neg k2]
        by_cases k3 : min 1000 (nv n T p) < m
        · rw [if_pos k3]
          have hc : ¬ (3 < nz n T p - sk n T p ∨ nv n T p < lo ∨ m ≤ nv n T p) := by omega
          refine ⟨g4, rfl, ?_, ?_, fun _ _ _ _ => rfl⟩
          · rw [c2]; unfold kd
            by_cases cf : f = 0
            · by_cases ce : nz n T p = sk n T p
              · simp [cf, ce]
              · simp [cf, ce, hc]
            · simp [cf]
          · rw [c3]; unfold kd
            by_cases cf : f = 0
            · by_cases ce : nz n T p = sk n T p
              · simp [cf, ce]
              · simp [cf, ce, hc]
            · simp [cf]
        · rw [if_neg k3, d1, bd_s]
          have := all (.inr (.inr (by omega)))
          exact ⟨g, rfl, this.1, this.2, d4⟩
  rw [d1, bd_s, d2]
  have hk := kd_le n T p lo m
  have x5 : RX g5 n T (nz n T p) := RX_t (fun a j _ => by rw [d4 a j (by omega) (by omega), c4 a j (by omega) (by omega)]) b2'
  have f5 : g5 1 5 = nI (sk n T p) := by rw [d4 1 5 (by omega) (by omega)]; exact e5'
  have fr5 : ∀ a j, (a ≠ 1 ∨ j ≤ 1 ∨ 6 ≤ j) → g5 a j = h a j := fun a j q => by rw [d4 a j (by omega) (by omega), c4 a j (by omega) (by omega), fr a j q]
  refine ⟨g5, ?_, x5, f5, d2, d3, fr5⟩
  by_cases cf : f = 0
  · by_cases ck : kd n T p lo m = 0
    · have := kd_0 ck
      rw [if_pos cf, ck, if_pos (show nI 0 = 0 from rfl), bd_s, if_pos ⟨cf, rfl⟩, show min 1000 (nv n T p) = nv n T p by omega]
    · rw [if_pos cf, if_neg (nI_ne0 (by omega) (by omega)), bd_s, if_neg (fun q => ck q.2)]; rfl
  · rw [if_neg cf, if_neg (nI_ne0 (by omega) (by omega)), bd_s, if_neg (fun q => cf q.1)]; rfl
theorem m_num {h : Mm} {n p lo m : Nat} {T : Nat → Nat} (x : RM h n T p) (hlo : lo ≤ 1) (hm : m ≤ 1000) : ∃ h' : Mm, fX8_takeNumber h (nI lo) (nI m - 1) = some (nI (kd n T p lo m), h') ∧ RM h' n T (nz n T p) ∧ h' 84 17 = (if kd n T p lo m = 0 then h 84 17 else nI (sk n T p)) ∧ (kd n T p lo m = 0 → h' 84 19 = nI (nv n T p) ∧ h' 84 20 = nI (sk n T p)) ∧ (∀ a j, (a ≠ 84 ∨ j < 17 ∨ 20 < j) → h' a j = h a j) := by
  have hn := x.1
  have hb := nz_b T x.2.1
  obtain ⟨g1, a1, a2, a3⟩ := m_here x
  have hin : fX8_in g1 (ltr n T (sk n T p)).toInt64 (48 : Int64) (57 : Int64) = some (decide (¬ nz n T p = sk n T p)) := by
    have hi := nz_iff n T p
    by_cases c : sk n T p < n
    · rw [show ltr n T (sk n T p) = nI (T (sk n T p)) from if_pos c, m_dig _ (x.2.2.1 _ c)]
      congr 1
      apply decide_eq_decide.mpr
      rw [hi]
      constructor
      · intro q w; exact w ⟨c, q⟩
      · intro q
        by_cases d : 48 ≤ T (sk n T p) ∧ T (sk n T p) ≤ 57
        · exact d
        · exact absurd (fun w => d w.2) q
    · rw [show ltr n T (sk n T p) = -1 from if_neg c, show (48 : Int64) = (48 : Int32).toInt64 from rfl, show (57 : Int64) = (57 : Int32).toInt64 from rfl, m_in]
      congr 1
      rw [decide_eq_false (show ¬ ((48 : Int32) ≤ -1 ∧ (-1 : Int32) ≤ 57) by decide), decide_eq_false (fun q => q (hi.mpr (fun w => c w.1)))]
  rw [fX8_takeNumber, a1, b2_s, hin, bd_s, a2.2.2.2.2.1]
  by_cases c : nz n T p = sk n T p
  · have ck : kd n T p lo m = 1 := if_pos c
    rw [decide_eq_false (fun q => q c), if_neg (by decide), fX8_fails, lt_e, b2_s, ck, c]
    refine ⟨_, rfl, RM_t (fun a j _ => u_f _ _ (by omega)) a2, by rw [u_ss]; rfl, fun q => by omega, fun a j q => by rw [u_f _ _ (by omega), a3 a j (by omega)]⟩
  · rw [decide_eq_true c, if_pos rfl, lt_e, lt_e]
    have x2 : RM (md_up (md_up g1 84 20 (nI (sk n T p))) 84 19 (0 : Int32)) n T (sk n T p) := RM_t (fun a j _ => by rw [u_f _ _ (by omega), u_f _ _ (by omega)]) a2
    obtain ⟨g3, w, b1, b2, b3, b4, b5⟩ := m_nu (nI lo) (nI m - 1) (n - sk n T p) (sk n T p) 0 0 (md_up (md_up g1 84 20 (nI (sk n T p))) 84 19 (0 : Int32)) md_N (by omega) (by unfold md_N; omega) x2 (by rw [u_ss]; rfl) (.inl ⟨by omega, rfl⟩)
    have b2' : RM g3 n T (nz n T p) := b2
    have b4' : Rv (nv n T p) w := b4
    have e20 : g3 84 20 = nI (sk n T p) := by rw [b5 84 20 (by omega) (by omega), u_sn _ _ _ (by omega), u_ss]
    have e17 : g3 84 17 = h 84 17 := by rw [b5 84 17 (by omega) (by omega), u_sn _ _ _ (by omega), u_sn _ _ _ (by omega), a3 84 17 (by omega)]
    have fr : ∀ a j, (a ≠ 84 ∨ j < 17 ∨ 20 < j) → g3 a j = h a j := fun a j q => by rw [b5 a j (by omega) (by omega), u_f _ _ (by omega), u_f _ _ (by omega), a3 a j (by omega)]
    have hw : w ≤ 100009 := by rcases b4' with ⟨a, b⟩ | ⟨a, b, c⟩ <;> omega
    rw [b1, bd_s, b2'.2.2.2.2.1, e20, n_sub hb.2.1, b3, show (3 : Int32) = nI 3 from rfl, m_in, bd_s]
    simp only [n_lt (show 3 < 1000000001 by omega) (show nz n T p - sk n T p < 1000000001 by omega), n_le (show lo < 1000000001 by omega) (show w < 1000000001 by omega), n_lem1 (show w < 1000000000 by omega) (show m < 1000000000 by omega)]
    have bad : (3 < nz n T p - sk n T p ∨ nv n T p < lo ∨ m ≤ nv n T p) → ∃ h' : Mm, md_b2 (md_b2 (fX8_fails g3 (2 : Int32) (nI (sk n T p))) (fun r_15 h_16 => some (r_15, h_16))) (fun (v_12 : Int32) (h_13 : Mm) => some (v_12, h_13)) = some (nI (kd n T p lo m), h') ∧ RM h' n T (nz n T p) ∧ h' 84 17 = (if kd n T p lo m = 0 then h 84 17 else nI (sk n T p)) ∧ (kd n T p lo m = 0 → h' 84 19 = nI (nv n T p) ∧ h' 84 20 = nI (sk n T p)) ∧ (∀ a j, (a ≠ 84 ∨ j < 17 ∨ 20 < j) → h' a j = h a j) := by
      intro hc
      have ck : kd n T p lo m = 2 := by unfold kd; rw [if_neg c, if_pos hc]
      rw [fX8_fails, lt_e, b2_s, b2_s, ck]
      exact ⟨_, rfl, RM_t (fun a j _ => u_f _ _ (by omega)) b2', by rw [u_ss]; rfl, fun q => by omega, fun a j q => by rw [u_f _ _ (by omega), fr a j q]⟩
    by_cases k1 : 3 < nz n T p - sk n T p
    · rw [if_pos k1]
      exact bad (.inl k1)
    · rw [if_neg k1]
      by_cases k2 : lo ≤ w ∧ w < m
      · have hvw : nv n T p = w := by rcases b4' with ⟨a, b⟩ | ⟨a, b, c⟩ <;> omega
        have hc : ¬ (3 < nz n T p - sk n T p ∨ nv n T p < lo ∨ m ≤ nv n T p) := by omega
        have ck : kd n T p lo m = 0 := by unfold kd; rw [if_neg c, if_neg hc]
        rw [decide_eq_true k2, if_pos rfl, b2_s, ck]
        exact ⟨g3, rfl, b2', by rw [if_pos rfl]; exact e17, fun _ => ⟨by rw [hvw]; exact b3, e20⟩, fr⟩
      · rw [decide_eq_false k2, if_neg (by decide)]
        refine bad (.inr ?_)
        rcases b4' with ⟨a, b⟩ | ⟨a, b, c⟩ <;> omega
