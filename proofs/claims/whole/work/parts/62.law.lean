/-! the law's loop -/
theorem FL_f {h h1 : Mm} (f : FL h h1) : ∀ a j, (a ≠ 65 ∨ j ≤ 4) → a ≠ 69 → h1 a j = h a j := by
  intro a j q1 q2
  by_cases e : a = 65
  · subst e; exact f.2 j (by omega)
  · rw [f.1 a e q2]
theorem sc_talkDown {h : Mm} (I : Inv h) (l1 l2 l3 : Int32) : ∃ r h1 h2, fX7_talkDown h l1 l2 l3 = some (r, h1) ∧ fX8_talkDown h1 l1 l2 l3 = some (r, h2) ∧ Inv h2 := by
  obtain ⟨A, B, q, -⟩ := id I
  obtain ⟨r, h1, h2, a1, a2, a3, a4⟩ := eq_talkDown q l1 l2 l3
  exact ⟨r, h1, h2, a1, a3, Inv_s (fun a j _ _ q3 q4 _ => by rw [a4 a q4, a2 a q3]) I⟩
theorem sc_minds {h : Mm} (I : Inv h) (l : Int32) : ∃ r h1, fX7_minds h l = some (r, h1) ∧ fX8_minds h1 l = some r ∧ Inv h1 := by
  obtain ⟨A, B, q, gp, gl, nb, sw, gi0, gi1, ⟨n, Q, w, x, y⟩, bk, gt, gf⟩ := id I
  obtain ⟨r, h1, a1, a2, a3⟩ := eq_minds q w x y l
  exact ⟨r, h1, a1, a3, Inv_s (fun a j q1 q2 _ _ _ => FL_f a2 a j q1 q2) I⟩
theorem sc_askNext {h : Mm} (I : Inv h) : ∃ r h1 h2, fX7_askNext h = some (r, h1) ∧ fX8_askNext h1 = some (r, h2) ∧ Inv h2 := by
  obtain ⟨A, B, q, gp, gl, nb, sw, gi0, gi1, ⟨n, Q, w, x, y⟩, bk, gt, gf⟩ := id I
  obtain ⟨r, h1, h2, a1, a2, a3, a4⟩ := eq_askNext q w x y
  exact ⟨r, h1, h2, a1, a3, Inv_s (fun a j q1 q2 _ _ q5 => by rw [a4 a q5, FL_f a2 a j q1 q2]) I⟩
theorem it_ex {c : Prop} [Decidable c] {a b : Option Mm} (ha : ∃ h', a = some h') (hb : ∃ h', b = some h') : ∃ h', (if c then a else b) = some h' := by
  by_cases q : c
  · rw [if_pos q]; exact ha
  · rw [if_neg q]; exact hb
theorem zb (x : Int32) : (if x = 0 then some false else some true) = some (decide (¬ x = 0)) := by
  by_cases q : x = 0
  · rw [if_pos q, decide_eq_false (fun z => z q)]
  · rw [if_neg q, decide_eq_true q]
theorem law_loop (xs : Nat → Int32) {L : Nat} (hL : L ≤ 256) : ∀ k i (h : Mm) F, L ≤ i + k → i ≤ 300 → k < F → Inv h → ∃ h', fL_law_18 F h xs L (nI i) = some h' := by
  have cond : ∀ i, i ≤ 300 → ((nI L - (4 : Int32) < nI i) ↔ L < i + 4) := fun i hi => by
    rw [fa_lt, show (4 : Int32) = nI 4 from rfl, pk_sub_toInt (by omega) (by omega), nI_toInt (by omega)]
    omega
  intro k
  induction k with
  | zero =>
    intro i h F hk hi hF I
    obtain ⟨F, rfl⟩ : ∃ G, F = G + 1 := ⟨F - 1, by omega⟩
    rw [fL_law_18, if_pos ((cond i hi).mpr (by omega))]
    exact ⟨h, rfl⟩
  | succ k ih =>
    intro i h F hk hi hF I
    obtain ⟨F, rfl⟩ : ∃ G, F = G + 1 := ⟨F - 1, by omega⟩
    by_cases hc : L < i + 4
    · rw [fL_law_18, if_pos ((cond i hi).mpr hc)]
      exact ⟨h, rfl⟩
    · have go : ∀ h2, Inv h2 → ∃ h', fL_law_18 F h2 xs L (nI i + 4) = some h' := fun h2 I2 => by
        rw [show (4 : Int32) = nI 4 from rfl, nI_add]
        exact ih (i + 4) h2 F (by omega) (by omega) (by omega) I2
      have b0 : md_in (nI i) L = true := in_t (by omega) (by omega)
      have b1 : md_in (nI i + (1 : Int32)) L = true := by rw [show (1 : Int32) = nI 1 from rfl, nI_add]; exact in_t (by omega) (by omega)
      have b2 : md_in (nI i + (2 : Int32)) L = true := by rw [show (2 : Int32) = nI 2 from rfl, nI_add]; exact in_t (by omega) (by omega)
      have b3 : md_in (nI i + (3 : Int32)) L = true := by rw [show (3 : Int32) = nI 3 from rfl, nI_add]; exact in_t (by omega) (by omega)
      obtain ⟨A, B, q, gp, gl, nb, sw, gi0, gi1, gq, bk, gt, gf⟩ := id I
      have e1 : h 1 1 = h 84 16 := by obtain ⟨n, T, -, -, t3, t4, -⟩ := gt; rw [t3, t4]
      have e2 : h 65 4 = h 84 38 := by obtain ⟨n, Q, -, x, y⟩ := gq; rw [x.1, y.1]
      have e3 : h 70 2 = h 84 43 := by obtain ⟨n, -, t3, t4, -⟩ := bk; rw [t3, t4]
      have e4 : h 15 2 = h 84 35 := by obtain ⟨n, nx, P, x, y, -⟩ := gp; rw [x.2.2.2.1, y.1]
      have two : ∀ (P : Option (Int32 × Mm)) (Q : Mm → Option (Int32 × Mm)), (∃ r h1 h2, P = some (r, h1) ∧ Q h1 = some (r, h2) ∧ Inv h2) → ∃ h', md_b2 P (fun r h1 => md_b2 (Q h1) (fun r' h2 => if r = r' then fL_law_18 F h2 xs L (nI i + 4) else none)) = some h' := by
        rintro P Q ⟨r, h1, h2, a1, a2, a3⟩
        rw [a1, b2_s, a2, b2_s, if_pos rfl]
        exact go h2 a3
      have mid : ∀ (P : Option (Int32 × Mm)) (Q : Mm → Option Int32), (∃ r h1, P = some (r, h1) ∧ Q h1 = some r ∧ Inv h1) → ∃ h', md_b2 P (fun r h1 => md_bd (Q h1) (fun r' => if r = r' then fL_law_18 F h1 xs L (nI i + 4) else none)) = some h' := by
        rintro P Q ⟨r, h1, a1, a2, a3⟩
        rw [a1, b2_s, a2, bd_s, if_pos rfl]
        exact go h1 a3
      have one : ∀ (P Q : Option Int32), (∃ r, P = some r ∧ Q = some r) → ∃ h', md_bd P (fun r => md_bd Q (fun r' => if r = r' then fL_law_18 F h xs L (nI i + 4) else none)) = some h' := by
        rintro P Q ⟨r, a1, a2⟩
        rw [a1, bd_s, a2, bd_s, if_pos rfl]
        exact go h I
      rw [fL_law_18, if_neg (by rw [cond i hi]; exact hc)]
      simp only [b0, b1, b2, b3, ck_t, zb, bd_s]
      refine it_ex (two _ _ (eq_feed I (xs (nI i + 1).toNatClampNeg))) ?_
      refine it_ex (two _ _ (eq_thePass I)) ?_
      refine it_ex (one _ _ ⟨_, rfl, congrArg some gf.symm⟩) ?_
      refine it_ex (one _ _ (eq_told q e1 e2 e3 e4 (xs (nI i + 1).toNatClampNeg))) ?_
      refine it_ex (one _ _ (eq_size q (xs (nI i + 1).toNatClampNeg))) ?_
      refine it_ex (one _ _ (eq_traveller q (xs (nI i + 1).toNatClampNeg) (xs (nI i + 2).toNatClampNeg))) ?_
      refine it_ex (two _ _ (eq_pass I (xs (nI i + 1).toNatClampNeg))) ?_
      refine it_ex (two _ _ (eq_goRound I (xs (nI i + 1).toNatClampNeg) (decide (¬ (xs (nI i + 2).toNatClampNeg) = 0)))) ?_
      refine it_ex (two _ _ (eq_talk I (xs (nI i + 1).toNatClampNeg) (xs (nI i + 2).toNatClampNeg) (xs (nI i + 3).toNatClampNeg))) ?_
      refine it_ex (two _ _ (eq_come I (xs (nI i + 1).toNatClampNeg) (xs (nI i + 2).toNatClampNeg))) ?_
      refine it_ex (two _ _ (eq_register I (xs (nI i + 1).toNatClampNeg) (decide (¬ (xs (nI i + 2).toNatClampNeg) = 0)))) ?_
      refine it_ex (two _ _ (eq_drift I (xs (nI i + 1).toNatClampNeg))) ?_
      refine it_ex (two _ _ (eq_undo I)) ?_
      refine it_ex (one _ _ (eq_follows q (xs (nI i + 1).toNatClampNeg))) ?_
      refine it_ex (one _ _ (eq_owed q (xs (nI i + 1).toNatClampNeg))) ?_
      refine it_ex (one _ _ (eq_parts q (xs (nI i + 1).toNatClampNeg) (xs (nI i + 2).toNatClampNeg))) ?_
      refine it_ex (two _ _ (sc_talkDown I (xs (nI i + 1).toNatClampNeg) (xs (nI i + 2).toNatClampNeg) (xs (nI i + 3).toNatClampNeg))) ?_
      refine it_ex (one _ _ (eq_soonest q (xs (nI i + 1).toNatClampNeg))) ?_
      refine it_ex (one _ _ (eq_smallest q (xs (nI i + 1).toNatClampNeg))) ?_
      refine it_ex (one _ _ (eq_better q (xs (nI i + 1).toNatClampNeg) (xs (nI i + 2).toNatClampNeg))) ?_
      refine it_ex (one _ _ (eq_gains q (xs (nI i + 1).toNatClampNeg) (xs (nI i + 2).toNatClampNeg))) ?_
      refine it_ex (one _ _ (eq_free q)) ?_
      refine it_ex (one _ _ (eq_share q (xs (nI i + 1).toNatClampNeg))) ?_
      refine it_ex (one _ _ (eq_glacier q (xs (nI i + 1).toNatClampNeg))) ?_
      refine it_ex (two _ _ (eq_ask I (xs (nI i + 1).toNatClampNeg) (xs (nI i + 2).toNatClampNeg) (decide (¬ (xs (nI i + 3).toNatClampNeg) = 0)))) ?_
      refine it_ex (mid _ _ (sc_minds I (xs (nI i + 1).toNatClampNeg))) ?_
      refine it_ex (two _ _ (sc_askNext I)) ?_
      refine it_ex (two _ _ (eq_write I (xs (nI i + 1).toNatClampNeg) (xs (nI i + 2).toNatClampNeg))) ?_
      refine it_ex (two _ _ (eq_tear I)) ?_
      refine it_ex (one _ _ (eq_judge q bk)) ?_
      refine it_ex (two _ _ (eq_seed I (xs (nI i + 1).toNatClampNeg))) ?_
      refine it_ex (two _ _ (eq_keep I (xs (nI i + 1).toNatClampNeg))) ?_
      refine it_ex (two _ _ (eq_goBack I (xs (nI i + 1).toNatClampNeg))) ?_
      exact go h I
theorem h2_z : ∀ a j, (a ≠ 1 ∨ j ≠ 2) → (a ≠ 0 ∨ j ≠ 7) → (a ≠ 84 ∨ j ≠ 17) → md_h2 a j = 0 := by
  intro a j q1 q2 q3
  unfold md_h2 md_h1
  by_cases c1 : a = 84 ∧ j = 0
  · obtain ⟨rfl, rfl⟩ := c1
    rw [u_ss]
  · rw [u_f _ _ (by omega), u_f _ _ q3, u_f _ _ q2]
    by_cases c2 : a = 1 ∧ j = 6
    · obtain ⟨rfl, rfl⟩ := c2
      rw [u_ss]; rfl
    · rw [u_f _ _ (by omega), u_f _ _ q1]
theorem Inv_0 : Inv md_h2 := by
  have e07 : md_h2 0 7 = 1 := by
    unfold md_h2 md_h1
    rw [u_nn _ _ _ _ (by omega), u_nn _ _ _ _ (by omega), u_ss]; rfl
  have e12 : md_h2 1 2 = -1 := by
    unfold md_h2 md_h1
    rw [u_nn _ _ _ _ (by omega), u_nn _ _ _ _ (by omega), u_nn _ _ _ _ (by omega), u_sn _ _ _ (by omega), u_ss]
  have e17 : md_h2 84 17 = -1 := by
    unfold md_h2
    rw [u_sn _ _ _ (by omega), u_ss]
  have dx : md_dx (md_h2 0 7) = 74 := by rw [e07]; decide
  have z := h2_z
  have wb : WB A0 M0 := ⟨Nat.two_pow_pos _, Nat.two_pow_pos _, fun t ht => Nat.two_pow_pos _, Nat.zero_le _, Nat.zero_le _⟩
  have cl0 : ∀ s, s < 2 ^ A0 0 2 → clo A0 s = 0 := fun s hs => by
    have h1 : clo A0 s < 2 ^ A0 0 2 := clo_lt WK_0.1 hs
    have h2 : 2 ^ A0 0 2 = 1 := rfl
    omega
  refine ⟨A0, M0, ⟨WK_0.1, ?_, ?_, ?_, ?_, ?_, wb⟩, ⟨0, 0, fun _ => M0, ⟨by omega, by omega, z 15 1 (by omega) (by omega) (by omega), z 15 2 (by omega) (by omega) (by omega), fun i hi => by omega⟩, ⟨z 84 35 (by omega) (by omega) (by omega), fun i hi => by omega⟩, fun i hi => by omega⟩, ⟨0, by omega, z 0 8 (by omega) (by omega) (by omega), z 84 14 (by omega) (by omega) (by omega)⟩, ?_, .inr ⟨e07, z 1 6 (by omega) (by omega) (by omega)⟩, .inl ⟨z 60 0 (by omega) (by omega) (by omega), z 112 0 (by omega) (by omega) (by omega)⟩, .inl ⟨z 60 1 (by omega) (by omega) (by omega), z 112 1 (by omega) (by omega) (by omega)⟩, ⟨0, A0, ⟨by omega, fun i hi => by omega⟩, ⟨z 65 4 (by omega) (by omega) (by omega), fun i hi => by omega⟩, z 84 38 (by omega) (by omega) (by omega), fun i hi => by omega⟩, ⟨0, by omega, z 70 2 (by omega) (by omega) (by omega), z 84 43 (by omega) (by omega) (by omega), fun i hi => by omega⟩, ⟨0, M0, by omega, fun i hi => by omega, z 1 1 (by omega) (by omega) (by omega), z 84 16 (by omega) (by omega) (by omega), fun i hi => by omega⟩, by rw [e12, e17]⟩
  · rw [dx]
    exact ⟨z 74 1 (by omega) (by omega) (by omega), z 74 2 (by omega) (by omega) (by omega), z 74 3 (by omega) (by omega) (by omega), z 74 5 (by omega) (by omega) (by omega), z 74 9 (by omega) (by omega) (by omega), z 74 14 (by omega) (by omega) (by omega), fun i hi => absurd hi (Nat.not_lt_zero i), fun i hi => absurd hi (Nat.not_lt_zero i), fun i hi => absurd hi (Nat.not_lt_zero i)⟩
  · rw [dx]
    intro s hs
    rw [cl0 s hs]
    exact z 83 s (by omega) (by omega) (by omega)
  · exact ⟨z 84 0 (by omega) (by omega) (by omega), z 84 1 (by omega) (by omega) (by omega), z 84 2 (by omega) (by omega) (by omega), z 84 4 (by omega) (by omega) (by omega), z 84 8 (by omega) (by omega) (by omega), z 84 12 (by omega) (by omega) (by omega), fun i hi => absurd hi (Nat.not_lt_zero i), fun i hi => absurd hi (Nat.not_lt_zero i), fun i hi => absurd hi (Nat.not_lt_zero i)⟩
  · exact ⟨z 13 1 (by omega) (by omega) (by omega), z 13 2 (by omega) (by omega) (by omega), fun t ht => z 14 t (by omega) (by omega) (by omega), z 13 3 (by omega) (by omega) (by omega), z 13 4 (by omega) (by omega) (by omega)⟩
  · exact fun k hk => z 92 _ (by omega) (by omega) (by omega)
  · unfold NB
    rw [dx]
    exact z 74 0 (by omega) (by omega) (by omega)
theorem pure_law : ∀ (L : Nat) (xs : Nat → Int32), L ≤ 256 → ∃ h', fL_law_18 md_N md_h2 xs L 0 = some h' := fun L xs hL => law_loop xs hL L 0 md_h2 md_N (by omega) (by omega) (by unfold md_N; omega) Inv_0
