theorem l_and (a b : Nat) : lN a &&& lN b = lN (a &&& b) := by
  apply Int64.toBitVec_inj.1
  show BitVec.ofNat 64 a &&& BitVec.ofNat 64 b = BitVec.ofNat 64 (a &&& b)
  apply BitVec.eq_of_getLsbD_eq
  intro i hi
  simp [hi]
def dr (z : Nat) : Nat := (z * 1103515245 + 12345) % 2147483648
theorem dr_lt (z : Nat) : dr z < 2147483648 := Nat.mod_lt _ (by omega)
theorem x_dr {z : Nat} (hz : z < 2147483648) : ((((nI z).toInt64 * (1103515245 : Int64)) + (12345 : Int64)) &&& (2147483647 : Int64)).toInt32 = nI (dr z) := by
  rw [nI_l (by omega), show (1103515245 : Int64) = lN 1103515245 from rfl, show (12345 : Int64) = lN 12345 from rfl, show (2147483647 : Int64) = lN (2 ^ 31 - 1) from rfl, lN_mul, lN_add, l_and, Nat.and_two_pow_sub_one_eq_mod, lN_i]
  rfl
theorem m_dr {z : Nat} (hz : z < 2147483648) : ((((nI z).toInt64 * (1103515245 : Int64)) + (12345 : Int64)) - (((nI z).toInt64 * (1103515245 : Int64)) + (12345 : Int64)) / (2147483648 : Int64) * (2147483648 : Int64)).toInt32 = nI (dr z) := by
  rw [nI_l (by omega), show (1103515245 : Int64) = lN 1103515245 from rfl, show (12345 : Int64) = lN 12345 from rfl, show (2147483648 : Int64) = lN 2147483648 from rfl, lN_mul, lN_add, pk_lRem (by omega) (by omega) (by omega), lN_i]
  rfl
theorem x_draw {h : Mm} {z n : Nat} (e : h 0 8 = nI z) (hz : z < 2147483648) (h0 : 0 < n) (hn : n ≤ 1000) : fX7_draw h (nI n) = some (nI (dr z / 65536 % n), md_up h 0 8 (nI (dr z))) := by
  have hd := dr_lt z
  have hq : dr z / 65536 < 2 ^ 31 := by omega
  rw [fX7_draw, e, x_dr hz, lt_e, u_ss, if_pos (show (1 : Int32) ≤ nI n by rw [show (1 : Int32) = nI 1 from rfl, n_le (by omega) (by omega)]; omega), decide_eq_true (nI_ne0 h0 (by omega)), ck_t, bd_s, show (65536 : Int32) = nI 65536 from rfl, pk_div (by omega) (by omega) (by omega), pk_rem hq h0 (by omega)]
theorem m_draw {h : Mm} {z n : Nat} (e : h 84 14 = nI z) (hz : z < 2147483648) (h0 : 0 < n) (hn : n ≤ 1000) : fX8_draw h (nI n) = some (nI (dr z / 65536 % n), md_up h 84 14 (nI (dr z))) := by
  have hd := dr_lt z
  have hq : dr z / 65536 < 2 ^ 31 := by omega
  rw [fX8_draw, e, m_dr hz, lt_e, u_ss, decide_eq_true (nI_ne0 h0 (by omega)), ck_t, show (65536 : Int32) = nI 65536 from rfl, pk_div (by omega) (by omega) (by omega), pk_rem hq h0 (by omega)]
theorem or_an (x t : Nat) : an x (2 ^ t) ||| 2 ^ t = x ||| 2 ^ t := by
  apply Nat.eq_of_testBit_eq
  intro i
  rw [Nat.testBit_or, Nat.testBit_or, an_t]
  cases x.testBit i <;> cases (2 ^ t).testBit i <;> rfl
theorem or_or (x t : Nat) : (x ||| 2 ^ t) ||| 2 ^ t = x ||| 2 ^ t := by
  apply Nat.eq_of_testBit_eq
  intro i
  rw [Nat.testBit_or, Nat.testBit_or]
  cases x.testBit i <;> cases (2 ^ t).testBit i <;> rfl
theorem lB_1 (Y : Nat → Nat) {t c : Nat} (b : Bool) (hc : c ||| 2 ^ t = Y 1 ||| 2 ^ t) : uB (lB Y t b) 1 ((lB Y t b) 1 ||| 2 ^ t) = lB (uB Y 1 c) t b := by
  funext k
  by_cases h1 : k = 1
  · subst h1
    rw [uB_s]
    show (uB (uB Y 0 _) 1 (Y 1 ||| 2 ^ t)) 1 ||| 2 ^ t = (uB (uB (uB Y 1 c) 0 _) 1 ((uB Y 1 c) 1 ||| 2 ^ t)) 1
    rw [uB_s, uB_s, uB_s, or_or, hc]
  · rw [uB_n _ _ h1]
    show (uB (uB Y 0 (Y 0 ||| (if b then Y (2 + t) else 0))) 1 _) k = (uB (uB (uB Y 1 c) 0 ((uB Y 1 c) 0 ||| (if b then (uB Y 1 c) (2 + t) else 0))) 1 _) k
    rw [uB_n _ _ h1, uB_n _ _ h1, uB_n Y c (show 0 ≠ 1 by omega), uB_n Y c (show 2 + t ≠ 1 by omega)]
    by_cases h0 : k = 0
    · subst h0; rw [uB_s, uB_s]
    · rw [uB_n _ _ h0, uB_n _ _ h0, uB_n _ _ h1]
theorem pB_1 (A : Ab) (Y : Nat → Nat) {t c : Nat} (hc : c ||| 2 ^ t = Y 1 ||| 2 ^ t) : uB (pB A Y t) 1 ((pB A Y t) 1 ||| 2 ^ t) = pB A (uB Y 1 c) t := by
  have hd : du A (uB Y 1 c) t = du A Y t := by
    unfold du
    rw [uB_n _ _ (show 2 + t ≠ 1 by omega), uB_n _ _ (show 0 ≠ 1 by omega)]
  have e : pB A (uB Y 1 c) t = lB (uB (uB Y 7 (min 999999 (Y 7 + du A Y t))) 1 c) t true := by
    unfold pB
    rw [hd, uB_n Y c (show 7 ≠ 1 by omega)]
    congr 1
    funext k
    by_cases h1 : k = 1
    · subst h1; rw [uB_s, uB_n _ _ (by omega), uB_s]
    · rw [uB_n _ _ h1]
      by_cases h7 : k = 7
      · subst h7; rw [uB_s, uB_s]
      · rw [uB_n _ _ h7, uB_n _ _ h7, uB_n _ _ h1]
  rw [e]
  exact lB_1 _ true hc
def dt (A : Ab) (z : Nat) : Nat := dr z / 65536 % A 0 5
def dm (A : Ab) (z : Nat) : Nat := dr (dr z) / 65536 % 2 ^ A 0 2
def dB (A : Ab) (B : Nat → Nat) (z : Nat) : Nat → Nat := if A 0 0 < sZ A (dm A z) then lB (cB B (dt A z) (dm A z)) (dt A z) (decide (A 0 1 ≤ dr (dr (dr z)) / 65536 % 100)) else pB A (cB B (dt A z) (dm A z)) (dt A z)
def dzz (A : Ab) (z : Nat) : Nat := if A 0 0 < sZ A (dm A z) then dr (dr (dr z)) else dr (dr z)
theorem dzz_lt (A : Ab) (z : Nat) : dzz A z < 2147483648 := by
  unfold dzz
  split <;> exact dr_lt _
theorem n_risk {α : Type} {a b : Nat} (ha : a < 1000) (hb : b < 1000) (k : Bool → Option α) : md_bd (if nI a < nI b then some false else some true) k = k (decide (b ≤ a)) := by
  by_cases c : a < b
  · rw [if_pos ((n_lt (by omega) (by omega)).mpr c), bd_s, decide_eq_false (by omega)]
  · rw [if_neg (by rw [n_lt (by omega) (by omega)]; exact c), bd_s, decide_eq_true (by omega)]
theorem x_day {h : Mm} {A : Ab} {B : Nat → Nat} {z : Nat} (x : XS h A B) (e : h 0 8 = nI z) (hz : z < 2147483648) (h5 : 0 < A 0 5) : ∃ h' : Mm, fX7_driftOneDay h = some h' ∧ XS h' A (dB A B z) ∧ h' 0 8 = nI (dzz A z) ∧ (∀ a j, a ≠ 13 → a ≠ 14 → (a ≠ 0 ∨ j ≠ 8) → h' a j = h a j) := by
  have w5 := x.1.2.2.2.2.2.1
  have w8 := x.1.2.2.1
  have hp := pw_le w8
  have hpp : 0 < 2 ^ A 0 2 := Nat.two_pow_pos _
  have ht : dt A z < A 0 5 := Nat.mod_lt _ h5
  have hm : dm A z < 2 ^ A 0 2 := Nat.mod_lt _ hpp
  have x1 : XS (md_up h 0 8 (nI (dr z))) A B := XS_t (fun a j _ => u_f _ _ (by omega)) x
  have x2 : XS (md_up (md_up h 0 8 (nI (dr z))) 0 8 (nI (dr (dr z)))) A B := XS_t (fun a j _ => u_f _ _ (by omega)) x1
  rw [fX7_driftOneDay, x.2.1.2.2.2.2.2.1, x_draw e hz h5 (by omega), b2_s, x1.2.1.2.2.1, n_shl _ (by omega), x_draw (u_ss _ _ _ _) (dr_lt z) hpp (by omega), b2_s]
  obtain ⟨g, g1, g2, g3⟩ := x_comes x2 (show dt A z < 5 by omega) hm
  have f2 : ∀ a j, a ≠ 13 → a ≠ 14 → (a ≠ 0 ∨ j ≠ 8) → g a j = h a j := fun a j q1 q2 q3 => by rw [g3 a q1 q2, u_f _ _ q3, u_f _ _ q3]
  have e2 : g 0 8 = nI (dr (dr z)) := by rw [g3 0 (by omega) (by omega), u_ss]
  change ∃ h' : Mm, md_bd (fX4_comes (md_up (md_up h 0 8 (nI (dr z))) 0 8 (nI (dr (dr z)))) 13 (nI (dt A z)) (nI (dm A z))) _ = some h' ∧ _
  rw [g1, bd_s, show nI (dr (dr z) / 65536 % 2 ^ A 0 2) = nI (dm A z) from rfl, show nI (dr z / 65536 % A 0 5) = nI (dt A z) from rfl, xs_stuck g2 hm, bd_s]
  unfold dB dzz
  by_cases hs : A 0 0 < sZ A (dm A z)
  · rw [decide_eq_true hs, if_pos rfl, show (100 : Int32) = nI 100 from rfl, x_draw e2 (dr_lt _) (by omega) (by omega), b2_s, if_pos hs, if_pos hs]
    have x3 : XS (md_up g 0 8 (nI (dr (dr (dr z))))) A (cB B (dt A z) (dm A z)) := XS_t (fun a j _ => u_f _ _ (by omega)) g2
    rw [x3.2.1.2.1, n_risk (Nat.lt_trans (Nat.mod_lt _ (by omega)) (by omega)) (by have := x.1.2.1; omega)]
    obtain ⟨k, k1, k2, k3⟩ := x_leaves x3 ht (decide (A 0 1 ≤ dr (dr (dr z)) / 65536 % 100))
    rw [k1, bd_s, bd_s]
    exact ⟨k, rfl, k2, by rw [k3 0 (by omega), u_ss], fun a j q1 q2 q3 => by rw [k3 a q1, u_f _ _ q3, f2 a j q1 q2 q3]⟩
  · rw [decide_eq_false hs, if_neg (by decide), if_neg hs, if_neg hs]
    obtain ⟨k, k1, k2, k3⟩ := x_letPass g2 ht
    rw [k1, b2_s, bd_s]
    exact ⟨k, rfl, k2, by rw [k3 0 (by omega)]; exact e2, fun a j q1 q2 q3 => by rw [k3 a q1, f2 a j q1 q2 q3]⟩
theorem m_day {h : Mm} {A : Ab} {B : Nat → Nat} {z : Nat} (m : NS h A B) (e : h 84 14 = nI z) (hz : z < 2147483648) (h5 : 0 < A 0 5) : ∃ h' : Mm, fX8_dayByDraws h = some h' ∧ NS h' A (dB A B z) ∧ h' 84 14 = nI (dzz A z) ∧ (∀ a j, a ≠ 92 → (a ≠ 84 ∨ j ≠ 14) → h' a j = h a j) := by
  have w5 := m.1.2.2.2.2.2.1
  have w8 := m.1.2.2.1
  have hp := pw_le w8
  have hpp : 0 < 2 ^ A 0 2 := Nat.two_pow_pos _
  have ht : dt A z < A 0 5 := Nat.mod_lt _ h5
  have hm : dm A z < 2 ^ A 0 2 := Nat.mod_lt _ hpp
  have m1 : NS (md_up h 84 14 (nI (dr z))) A B := NS_t (fun a j _ => u_f _ _ (by omega)) m
  have m2 : NS (md_up (md_up h 84 14 (nI (dr z))) 84 14 (nI (dr (dr z)))) A B := NS_t (fun a j _ => u_f _ _ (by omega)) m1
  have m3 := NSk m2 (k := 2 + dt A z) (v := dm A z) (WBm m.2.2.2 (by omega) hm)
  rw [fX8_dayByDraws, m.2.1.2.2.2.2.2.1, m_draw e hz h5 (by omega), b2_s, m1.2.1.2.2.1, n_shl _ (by omega), m_draw (u_ss _ _ _ _) (dr_lt z) hpp (by omega), b2_s, show nI (dr (dr z) / 65536 % 2 ^ A 0 2) = nI (dm A z) from rfl, show nI (dr z / 65536 % A 0 5) = nI (dt A z) from rfl, in_2t (by omega), ck_t, lt_e, cl_2t (by omega), ms_stuck m3 (by omega), bd_s, uB_s]
  have f3 : ∀ a j, a ≠ 92 → (a ≠ 84 ∨ j ≠ 14) → md_up (md_up (md_up h 84 14 (nI (dr z))) 84 14 (nI (dr (dr z)))) 92 (2 + dt A z) (nI (dm A z)) a j = h a j := fun a j q1 q2 => by rw [u_nn _ _ _ _ q1, u_f _ _ q2, u_f _ _ q2]
  have e3 : md_up (md_up (md_up h 84 14 (nI (dr z))) 84 14 (nI (dr (dr z)))) 92 (2 + dt A z) (nI (dm A z)) 84 14 = nI (dr (dr z)) := by rw [u_nn _ _ _ _ (by omega), u_ss]
  generalize md_up (md_up (md_up h 84 14 (nI (dr z))) 84 14 (nI (dr (dr z)))) 92 (2 + dt A z) (nI (dm A z)) = g at m3 f3 e3
  have hc : an (B 1) (2 ^ dt A z) ||| 2 ^ dt A z = (uB B (2 + dt A z) (dm A z)) 1 ||| 2 ^ dt A z := by rw [uB_n _ _ (by omega), or_an]
  have last : ∀ (k : Mm) (C : Nat → Nat) (v : Int32), NS k A C → ¬ v < 0 → ∃ h' : Mm, (md_ck (md_in (1 : Int32) 9) (md_bd ((if v < 0 then some (0 : Int32) else some ((1 : Int32) <<< (nI (dt A z) &&& 31)))) (fun (v_18 : Int32) => md_ck (md_in (1 : Int32) 9) (md_lt (md_up k 92 ((1 : Int32)).toNatClampNeg ((k 92 ((1 : Int32)).toNatClampNeg) ||| v_18)) (fun h_20 : Mm => some h_20))))) = some h' ∧ NS h' A (uB C 1 (C 1 ||| 2 ^ dt A z)) ∧ (∀ a, a ≠ 92 → h' a = k a) := by
    intro k C v mk hv
    rw [in_1, ck_t, if_neg hv, bd_s, ck_t, lt_e, c_1, ms_now mk (show 1 < 9 by omega), n_shl _ (by omega), n_or]
    exact ⟨_, rfl, NSk mk (WB1 mk.2.2.2 (or_lt mk.2.2.2.2.1 (Nat.pow_lt_pow_right (by decide) ht))), fun a ha => up_n _ _ _ ha⟩
  unfold dB dzz
  by_cases hs : A 0 0 < sZ A (dm A z)
  · rw [decide_eq_true hs, if_pos rfl, show (100 : Int32) = nI 100 from rfl, m_draw e3 (dr_lt _) (by omega) (by omega), b2_s, if_pos hs, if_pos hs]
    have m4 : NS (md_up g 84 14 (nI (dr (dr (dr z))))) A (uB B (2 + dt A z) (dm A z)) := NS_t (fun a j _ => u_f _ _ (by omega)) m3
    rw [m4.2.1.2.1, n_risk (Nat.lt_trans (Nat.mod_lt _ (by omega)) (by omega)) (by have := m.1.2.1; omega)]
    obtain ⟨k, k1, k2, k3⟩ := m_roundNow m4 ht (decide (A 0 1 ≤ dr (dr (dr z)) / 65536 % 100))
    rw [k1, b2_s, b2_s]
    obtain ⟨h', l1, l2, l3⟩ := last k _ (md_bi (br A (uB B (2 + dt A z) (dm A z)) (dt A z) (decide (A 0 1 ≤ dr (dr (dr z)) / 65536 % 100)))) k2 (by cases br A (uB B (2 + dt A z) (dm A z)) (dt A z) (decide (A 0 1 ≤ dr (dr (dr z)) / 65536 % 100)) <;> decide)
    rw [lB_1 _ _ hc] at l2
    exact ⟨h', l1, l2, by rw [l3 84 (by omega), k3 84 (by omega), u_ss], fun a j q1 q2 => by rw [l3 a q1, k3 a q1, u_f _ _ q2, f3 a j q1 q2]⟩
  · rw [decide_eq_false hs, if_neg (by decide), if_neg hs, if_neg hs]
    obtain ⟨k, k1, k2, k3⟩ := m_passNow m3 ht
    rw [k1, b2_s, b2_s]
    have hd : du A (uB B (2 + dt A z) (dm A z)) (dt A z) ≤ 792 := dZ_le m.1 _ _
    obtain ⟨h', l1, l2, l3⟩ := last k _ (nI (du A (uB B (2 + dt A z) (dm A z)) (dt A z))) k2 (nI_pos (by omega))
    rw [pB_1 _ _ hc] at l2
    exact ⟨h', l1, l2, by rw [l3 84 (by omega), k3 84 (by omega)]; exact e3, fun a j q1 q2 => by rw [l3 a q1, k3 a q1, f3 a j q1 q2]⟩
def dI (A : Ab) : Nat → (Nat → Nat) × Nat → (Nat → Nat) × Nat
  | 0, s => s
  | k + 1, s => dI A k (dB A s.1 s.2, dzz A s.2)
theorem x_days {A : Ab} (h5 : 0 < A 0 5) : ∀ k i n (h : Mm) (B : Nat → Nat) z F, i + k = n → n ≤ 60 → k < F → XS h A B → h 0 8 = nI z → z < 2147483648 → ∃ h' : Mm, fX7_drift_60 F h (nI n) (nI i) = some h' ∧ XS h' A (dI A k (B, z)).1 ∧ h' 0 8 = nI (dI A k (B, z)).2 ∧ (dI A k (B, z)).2 < 2147483648 ∧ (∀ a j, a ≠ 13 → a ≠ 14 → (a ≠ 0 ∨ j ≠ 8) → h' a j = h a j) := by
  intro k
  induction k with
  | zero =>
    intro i n h B z F hi hn hF x e hz
    obtain ⟨F, rfl⟩ : ∃ G, F = G + 1 := ⟨F - 1, by omega⟩
    rw [fX7_drift_60, if_pos ((n_le (by omega) (by omega)).mpr (by omega))]
    exact ⟨h, rfl, x, e, hz, fun _ _ _ _ _ => rfl⟩
  | succ k ih =>
    intro i n h B z F hi hn hF x e hz
    obtain ⟨F, rfl⟩ : ∃ G, F = G + 1 := ⟨F - 1, by omega⟩
    obtain ⟨g, g1, g2, g3, g4⟩ := x_day x e hz h5
    rw [fX7_drift_60, if_neg (by rw [n_le (by omega) (by omega)]; omega), g1, bd_s, nI_1]
    obtain ⟨h', k1, k2, k3, k4, k5⟩ := ih (i + 1) n g (dB A B z) (dzz A z) F (by omega) hn (by omega) g2 g3 (dzz_lt A z)
    exact ⟨h', k1, k2, k3, k4, fun a j q1 q2 q3 => by rw [k5 a j q1 q2 q3, g4 a j q1 q2 q3]⟩
theorem m_days {A : Ab} (h5 : 0 < A 0 5) (h2 : 0 < A 0 2) : ∀ k i n (h : Mm) (B : Nat → Nat) z F, i + k = n → n ≤ 60 → k < F → NS h A B → h 84 14 = nI z → z < 2147483648 → ∃ h' : Mm, fX8_drift_31 F h (nI n) (nI i) = some h' ∧ NS h' A (dI A k (B, z)).1 ∧ h' 84 14 = nI (dI A k (B, z)).2 ∧ (∀ a j, a ≠ 92 → (a ≠ 84 ∨ j ≠ 14) → h' a j = h a j) := by
  intro k
  induction k with
  | zero =>
    intro i n h B z F hi hn hF x e hz
    obtain ⟨F, rfl⟩ : ∃ G, F = G + 1 := ⟨F - 1, by omega⟩
    rw [fX8_drift_31, if_pos ((n_le (by omega) (by omega)).mpr (by omega))]
    exact ⟨h, rfl, x, e, fun _ _ _ _ => rfl⟩
  | succ k ih =>
    intro i n h B z F hi hn hF x e hz
    obtain ⟨F, rfl⟩ : ∃ G, F = G + 1 := ⟨F - 1, by omega⟩
    have w5 := x.1.2.2.2.2.2.1
    have w8 := x.1.2.2.1
    obtain ⟨g, g1, g2, g3, g4⟩ := m_day x e hz h5
    rw [fX8_drift_31, if_neg (by rw [n_le (by omega) (by omega)]; omega), x.2.1.2.2.2.2.2.1, if_neg (nI_nle h5 (by omega)), x.2.1.2.2.1, if_neg (nI_nle h2 (by omega)), g1, bd_s, nI_1]
    obtain ⟨h', k1, k2, k3, k4⟩ := ih (i + 1) n g (dB A B z) (dzz A z) F (by omega) hn (by omega) g2 g3 (dzz_lt A z)
    exact ⟨h', k1, k2, k3, fun a j q1 q2 => by rw [k4 a j q1 q2, g4 a j q1 q2]⟩
theorem x_in2g {α : Type} (l v u : Int32) (X Z : α) : (if l < v then Z else (if l ≤ u then X else Z)) = if (v ≤ l ∧ l ≤ u) then X else Z := by
  by_cases h1 : l < v
  · have : ¬ v ≤ l := i_nle.mpr h1
    rw [if_pos h1, if_neg (fun q => this q.1)]
  · have h0 : v ≤ l := i_nlt.mp h1
    rw [if_neg h1]
    by_cases h2 : l ≤ u
    · rw [if_pos h2, if_pos ⟨h0, h2⟩]
    · rw [if_neg h2, if_neg (fun q => h2 q.2)]
theorem eq_drift {h : Mm} (I : Inv h) (l : Int32) : ∃ r h1 h2, fX7_drift h l = some (r, h1) ∧ fX8_drift h1 l = some (r, h2) ∧ Inv h2 := by
  obtain ⟨A, B, q, gp, gl, gr⟩ := id I
  have xs := QS_x q
  have ms := QS_m q
  have w0 := xs.1.1
  have w5 := xs.1.2.2.2.2.2.1
  have w8 := xs.1.2.2.1
  obtain ⟨z, z1, z2, z3⟩ := id gl
  rw [fX7_drift, x_in2g]
  by_cases hl : 1 ≤ l ∧ l ≤ 60
  · have hl0 : ¬ l < 0 := by
      have := hl.1
      rw [fa_le, show (1 : Int32).toInt = 1 by decide] at this
      rw [fa_lt, show (0 : Int32).toInt = 0 by decide]
      omega
    obtain ⟨n, hn, rfl⟩ := nI_of2 (M := 60) (n := 60) (by decide) hl0 hl.2
    have hn1 : 1 ≤ n := by
      have := hl.1
      rw [show (1 : Int32) = nI 1 from rfl, n_le (by omega) (by omega)] at this
      exact this
    have M : ∀ h1 : Mm, fX8_drift h1 (nI n) = (if (h1 84 0) = 0 then some ((-1000000003 : Int32), h1) else md_bd (fX8_remember h1) (fun h_2 => md_bd (fX8_drift_31 md_N h_2 (nI n) (nI 0)) (fun (h_4 : Mm) => some (h_4 92 7, h_4)))) := by
      intro h1
      rw [fX8_drift, show (1 : Int64) = (1 : Int32).toInt64 from rfl, show (60 : Int64) = (60 : Int32).toInt64 from rfl, m_in, bd_s, decide_eq_true hl, if_pos rfl, in_7, c_7]
      rfl
    have nb : h (md_dx (h 0 7)) 0 = nI (if A 0 0 = 0 then 0 else 1) := gr.1
    rw [if_pos hl, nb]
    by_cases h0 : A 0 0 = 0
    · rw [if_pos h0, if_pos (show nI 0 = 0 from rfl)]
      exact ⟨_, h, h, rfl, by rw [M h, ms.2.1.1, h0, if_pos (show nI 0 = 0 from rfl)], I⟩
    · have e84 : ¬ nI (A 0 0) = 0 := nI_ne0 (by omega) (by omega)
      rw [if_neg h0, if_neg (show ¬ nI 1 = 0 by decide)]
      obtain ⟨k, nx, P, g1, a1, a2, a3, a4, a5, a6⟩ := x_st q gp
      have e1 : g1 0 8 = nI z := by rw [a3 0 (by omega)]; exact z2
      rw [a1, bd_s, a5.2.1.2.2.2.2.2.1, a5.2.1.2.2.1]
      by_cases c : 0 < A 0 5 ∧ 0 < A 0 2
      · rw [if_neg (nI_nle c.1 (by omega)), if_neg (nI_nle c.2 (by omega))]
        obtain ⟨h1, b1, b2, b3, b4, b5⟩ := x_days c.1 n 0 n g1 B z md_N (by omega) hn (by unfold md_N; omega) a5 e1 z1
        have f1 : ∀ a j, 84 ≤ a → h1 a j = h a j := fun a j ha => by rw [b5 a j (by omega) (by omega) (by omega), a3 a (by omega)]
        obtain ⟨g2, c1, c2, c3, c4⟩ := a6 h1 f1
        have e2 : g2 84 14 = nI z := by rw [c3 84 14 (by omega) (by omega), f1 84 14 (by omega)]; exact z3
        obtain ⟨h2, d1, d2, d3, d4⟩ := m_days c.1 c.2 n 0 n g2 B z md_N (by omega) hn (by unfold md_N; omega) c4 e2 z1
        refine ⟨_, h1, h2, by rw [show (0 : Int32) = nI 0 from rfl, b1, bd_s, bd_s, b2.2.2.2.1.2.2.2.1], ?_, fin gr ⟨_, b4, ?_, d3⟩ a2 a3 b2 b5 c2 c3 d2 d4 a4⟩
        · rw [M h1, f1 84 0 (by omega), ms.2.1.1, if_neg e84, c1, bd_s, d1, bd_s, ms_now d2 (show 7 < 9 by omega)]
        · rw [d4 0 8 (by omega) (by omega), c3 0 8 (by omega) (by omega)]; exact b3
      · have f1 : ∀ a j, 84 ≤ a → g1 a j = h a j := fun a j ha => by rw [a3 a (by omega)]
        obtain ⟨g2, c1, c2, c3, c4⟩ := a6 g1 f1
        have e3 : (if nI (A 0 5) ≤ 0 then some g1 else (if nI (A 0 2) ≤ 0 then some g1 else md_bd (fX7_drift_60 md_N g1 (nI n) (0 : Int32)) (fun (h_4 : Mm) => some h_4))) = some g1 := by
          by_cases c5 : A 0 5 = 0
          · rw [c5, if_pos (by decide)]
          · have c2 : A 0 2 = 0 := by omega
            rw [if_neg (nI_nle (by omega) (by omega)), c2, if_pos (by decide)]
        have e4 : fX8_drift_31 md_N g2 (nI n) (nI 0) = some g2 := by
          have : md_N = (md_N - 1) + 1 := by unfold md_N; rfl
          rw [this, fX8_drift_31, if_neg (by rw [n_le (by omega) (by omega)]; omega), c4.2.1.2.2.2.2.2.1, c4.2.1.2.2.1]
          by_cases c5 : A 0 5 = 0
          · rw [c5, if_pos (by decide)]
          · have c2 : A 0 2 = 0 := by omega
            rw [if_neg (nI_nle (by omega) (by omega)), c2, if_pos (by decide)]
        refine ⟨_, g1, g2, by rw [e3, bd_s, a5.2.2.2.1.2.2.2.1], ?_, fin gr ⟨z, z1, ?_, ?_⟩ a2 a3 a5 (fun _ _ _ _ _ => rfl) c2 c3 c4 (fun _ _ _ _ => rfl) a4⟩
        · rw [M g1, f1 84 0 (by omega), ms.2.1.1, if_neg e84, c1, bd_s, e4, bd_s, ms_now c4 (show 7 < 9 by omega)]
        · rw [c3 0 8 (by omega) (by omega)]; exact e1
        · rw [c3 84 14 (by omega) (by omega), f1 84 14 (by omega)]; exact z3
  · rw [if_neg hl]
    refine ⟨_, h, h, rfl, ?_, I⟩
    rw [fX8_drift, show (1 : Int64) = (1 : Int32).toInt64 from rfl, show (60 : Int64) = (60 : Int32).toInt64 from rfl, m_in, bd_s, decide_eq_false hl]
    rfl
