/-! what the class does with a country that is read: what follows, the post's beginning -/
theorem an1_lt {s : Nat} (h : 0 < s) : s &&& (s - 1) < s := Nat.lt_of_le_of_lt Nat.and_le_right (by omega)
theorem x_all {c : Nat} {A : Ab} (w : WA A) : ∀ k i (h : Mm) F, i + k = 2 ^ A 0 2 → k < F → CX h c A → (∀ s, s < i → h (c + 9) s = nI (clo A s)) → ∃ h' : Mm, fX1_findAllFrom_9 F h c (nI (2 ^ A 0 2)) (nI i) = some h' ∧ (∀ a, a ≠ c + 9 → h' a = h a) ∧ (∀ s, s < 2 ^ A 0 2 → h' (c + 9) s = nI (clo A s)) := by
  have h8 := w.2.2.1
  have hp := pw_le h8
  intro k
  induction k with
  | zero =>
    intro i h F hi hF x hd
    obtain ⟨F, rfl⟩ : ∃ G, F = G + 1 := ⟨F - 1, by omega⟩
    rw [fX1_findAllFrom_9, if_pos ((n_le (by omega) (by omega)).mpr (by omega))]
    exact ⟨h, rfl, fun _ _ => rfl, fun s hs => hd s (by omega)⟩
  | succ k ih =>
    intro i h F hi hF x hd
    obtain ⟨F, rfl⟩ : ∃ G, F = G + 1 := ⟨F - 1, by omega⟩
    have hil : i < 2 ^ A 0 2 := by omega
    rw [fX1_findAllFrom_9, if_neg (by rw [n_le (by omega) (by omega)]; omega)]
    obtain ⟨v, hv, ev, ec⟩ : ∃ v, v < 2 ^ A 0 2 ∧ (if nI i = 0 then some (0 : Int32) else md_ck (md_in (nI i &&& (nI i - (1 : Int32))) 256) (some (nI i ||| (h (c + 9) ((nI i &&& (nI i - (1 : Int32)))).toNatClampNeg)))) = some (nI v) ∧ clo A v = clo A i := by
      by_cases z : i = 0
      · subst z
        exact ⟨0, by omega, by rw [if_pos (show nI 0 = 0 from rfl)]; rfl, rfl⟩
      · have hl := an1_lt (s := i) (by omega)
        have hlt : clo A (i &&& (i - 1)) < 2 ^ A 0 2 := clo_lt w (by omega)
        refine ⟨i ||| clo A (i &&& (i - 1)), or_lt hil hlt, ?_, clo_join w hil (fun b hb => by rw [Nat.testBit_and, Bool.and_eq_true] at hb; exact hb.1) (by omega)⟩
        rw [if_neg (nI_ne0 (by omega) (by omega)), show (1 : Int32) = nI 1 from rfl, n_sub (by omega), n_and, in_t (by omega) (by omega), ck_t, nI_c (by omega), hd _ hl, n_or]
    rw [ev, bd_s, xz_joined w x hv, bd_s, in_t (by omega) (by omega), ck_t, lt_e, nI_c (by omega), nI_1, ec]
    obtain ⟨h', e1, e2, e3⟩ := ih (i + 1) (md_up h (c + 9) i (nI (clo A i))) F (by omega) (by omega) (CX_t (fun a j _ _ => u_nn _ _ _ _ (by omega)) x) (fun s hs => by
      by_cases e : s = i
      · subst e; rw [u_ss]
      · rw [u_sn _ _ _ e]; exact hd s (by omega))
    exact ⟨h', e1, fun a ha => by rw [e2 a ha, up_n _ _ _ ha], e3⟩
theorem x_findAll {h : Mm} {c : Nat} {A : Ab} (w : WA A) (x : CX h c A) : ∃ h' : Mm, fX1_findAllFrom h c = some h' ∧ (∀ a, a ≠ c + 9 → h' a = h a) ∧ TX h' c A := by
  have h8 := w.2.2.1
  have hp := pw_le h8
  obtain ⟨h', e1, e2, e3⟩ := x_all w (2 ^ A 0 2) 0 h md_N (by omega) (by unfold md_N; omega) x (fun s hs => by omega)
  rw [fX1_findAllFrom, x.2.2.1, n_shl _ (by omega), lt_e, show (0 : Int32) = nI 0 from rfl, e1, bd_s]
  exact ⟨h', rfl, e2, e3⟩
def bB (A : Ab) (R : Nat) (M : Nat → Nat) : Nat → Nat := fun k => if k = 0 then R else if k < 2 then 0 else if k - 2 < A 0 5 then M (k - 2) else 0
theorem bB_m (A : Ab) (R : Nat) (M : Nat → Nat) (t : Nat) : bB A R M (2 + t) = if t < A 0 5 then M t else 0 := by
  unfold bB
  rw [if_neg (by omega), if_neg (by omega), show 2 + t - 2 = t by omega]
theorem WB_b {A : Ab} {R : Nat} {M : Nat → Nat} (w : WK A R M) : WB A (bB A R M) := by
  have h5 := w.1.2.2.2.2.2.1
  refine ⟨w.2.1, Nat.two_pow_pos _, fun t ht => ?_, ?_, ?_⟩
  · rw [bB_m]
    by_cases c : t < A 0 5
    · rw [if_pos c]; exact w.2.2 t c
    · rw [if_neg c]; exact Nat.two_pow_pos _
  · rw [show 7 = 2 + 5 by omega, bB_m, if_neg (by omega)]; omega
  · rw [show 8 = 2 + 6 by omega, bB_m, if_neg (by omega)]; omega
theorem x_beg2 {c R : Nat} {A : Ab} {M : Nat → Nat} (w : WA A) (hc : c = 3 ∨ c = 74) : ∀ k i (h : Mm) F, i + k = 5 → k < F → KX h c A R M → ∃ h' : Mm, fX4_begin_2 F h 13 c (nI i) = some h' ∧ (∀ a, a ≠ 14 → h' a = h a) ∧ (∀ j, j < i → h' 14 j = h 14 j) ∧ (∀ j, i ≤ j → j < 5 → h' 14 j = nI (if j < A 0 5 then M j else 0)) := by
  have h5 := w.2.2.2.2.2.1
  intro k
  induction k with
  | zero =>
    intro i h F hi hF x
    obtain ⟨F, rfl⟩ : ∃ G, F = G + 1 := ⟨F - 1, by omega⟩
    have hc : (5 : Int32) ≤ nI i := by rw [show (5 : Int32) = nI 5 from rfl, n_le (by omega) (by omega)]; omega
    rw [fX4_begin_2, if_pos hc]
    exact ⟨h, rfl, fun _ _ => rfl, fun _ _ => rfl, fun j h1 h2 => by omega⟩
  | succ k ih =>
    intro i h F hi hF x
    obtain ⟨F, rfl⟩ : ∃ G, F = G + 1 := ⟨F - 1, by omega⟩
    have hc5 : ¬ (5 : Int32) ≤ nI i := by rw [show (5 : Int32) = nI 5 from rfl, n_le (by omega) (by omega)]; omega
    have ev : ∀ (k : Int32 → Option Mm), md_bd (if decide (0 ≤ nI i ∧ nI i < nI (A 0 5)) = true then md_ck (md_in (nI i) 5) (some (h (c + 8) (nI i).toNatClampNeg)) else some (0 : Int32)) k = k (nI (if i < A 0 5 then M i else 0)) := by
      intro k
      by_cases y : i < A 0 5
      · rw [decide_eq_true ⟨nI_pos' (by omega), (n_lt (by omega) (by omega)).mpr y⟩, if_pos rfl, in_t (by omega) (by omega), ck_t, nI_c (by omega), x.2.2.2 i y, bd_s, if_pos y]
      · rw [decide_eq_false (fun q => y ((n_lt (by omega) (by omega)).mp q.2)), if_neg (by decide), bd_s, if_neg y]; rfl
    rw [fX4_begin_2, if_neg hc5, xz_isTr x.1, bd_s, ev, in_t (by omega) (by omega), ck_t, lt_e, nI_c (by omega), nI_1]
    obtain ⟨h', e1, e2, e3, e4⟩ := ih (i + 1) (md_up h (13 + 1) i (nI (if i < A 0 5 then M i else 0))) F (by omega) (by omega) (KX_t (fun a j _ _ => u_nn _ _ _ _ (by omega)) x)
    refine ⟨h', e1, fun a ha => by rw [e2 a ha, up_n _ _ _ (by omega)], fun j hj => by rw [e3 j (by omega), u_f _ _ (by omega)], fun j h1 h2 => ?_⟩
    rcases Nat.eq_or_lt_of_le h1 with e | e
    · subst e; rw [e3 i (by omega)]; exact u_ss _ _ _ _
    · rw [e4 j e h2]
theorem x_begin {h : Mm} {c R : Nat} {A : Ab} {M : Nat → Nat} (w : WA A) (hc : c = 3 ∨ c = 74) (x : KX h c A R M) : ∃ h' : Mm, fX4_begin h 13 c = some h' ∧ PX h' 13 (bB A R M) ∧ (∀ a, a ≠ 13 → a ≠ 14 → h' a = h a) := by
  have h5 := w.2.2.2.2.2.1
  obtain ⟨g, c1, c2, c3, c4⟩ := x_beg2 w hc 5 0 h md_N (by omega) (by unfold md_N; omega) x
  have e13 : g c 13 = nI R := by rw [c2 c (by omega)]; exact x.2.2.1
  rw [fX4_begin, show (0 : Int32) = nI 0 from rfl, c1, bd_s, lt_e, lt_e, lt_e, lt_e, e13]
  refine ⟨_, rfl, ⟨?_, ?_, fun t ht => ?_, ?_, ?_⟩, fun a h1 h2 => ?_⟩
  · rw [u_sn _ _ _ (by omega), u_sn _ _ _ (by omega), u_sn _ _ _ (by omega), u_ss]; rfl
  · rw [u_sn _ _ _ (by omega), u_sn _ _ _ (by omega), u_ss]; rfl
  · rw [u_nn _ _ _ _ (by omega), u_nn _ _ _ _ (by omega), u_nn _ _ _ _ (by omega), u_nn _ _ _ _ (by omega), bB_m]
    exact c4 t (by omega) ht
  · rw [u_sn _ _ _ (by omega), u_ss, show 7 = 2 + 5 by omega, bB_m, if_neg (by omega)]
  · rw [u_ss, show 8 = 2 + 6 by omega, bB_m, if_neg (by omega)]
  · rw [up_n _ _ _ h1, up_n _ _ _ h1, up_n _ _ _ h1, up_n _ _ _ h1, c2 a h2]
theorem x_forget (h : Mm) : ∃ h' : Mm, fX2_forget h = some h' ∧ h' 60 0 = 0 ∧ h' 60 1 = 0 ∧ (∀ a, a ≠ 60 → h' a = h a) := by
  have : md_N = ((md_N - 3) + 1 + 1) + 1 := by unfold md_N; rfl
  rw [fX2_forget, this, fX2_forget_2, if_neg (by decide), show (0 : Int32) = nI 0 from rfl, in_t (by omega) (by omega), ck_t, lt_e, nI_c (by omega), nI_1, fX2_forget_2, if_neg (by decide), in_t (by omega) (by omega), ck_t, lt_e, nI_c (by omega), nI_1, fX2_forget_2, if_pos (by decide), bd_s]
  exact ⟨_, rfl, by rw [u_sn _ _ _ (by omega), u_ss]; rfl, by rw [u_ss]; rfl, fun a ha => by rw [up_n _ _ _ ha, up_n _ _ _ ha]⟩
/-! the model's -/
theorem m_r54 {I : Nat} (hI : I ≤ 8) : ∀ k i (h : Mm) F, i + k = I → k < F → h 84 2 = nI I → ∃ h' : Mm, fX8_takeRead_54 F h (nI i) = some h' ∧ (∀ a, a ≠ 85 → h' a = h a) ∧ (∀ j, j < i → h' 85 j = h 85 j) ∧ (∀ j, i ≤ j → j < I → h' 85 j = h 95 j) := by
  intro k
  induction k with
  | zero =>
    intro i h F hi hF e
    obtain ⟨F, rfl⟩ : ∃ G, F = G + 1 := ⟨F - 1, by omega⟩
    rw [fX8_takeRead_54, e, if_pos ((n_le (by omega) (by omega)).mpr (by omega))]
    exact ⟨h, rfl, fun _ _ => rfl, fun _ _ => rfl, fun j h1 h2 => by omega⟩
  | succ k ih =>
    intro i h F hi hF e
    obtain ⟨F, rfl⟩ : ∃ G, F = G + 1 := ⟨F - 1, by omega⟩
    rw [fX8_takeRead_54, e, if_neg (by rw [n_le (by omega) (by omega)]; omega), in_t (by omega) (by omega), ck_t, ck_t, lt_e, nI_c (by omega), nI_1]
    obtain ⟨h', e1, e2, e3, e4⟩ := ih (i + 1) (md_up h 85 i (h 95 i)) F (by omega) (by omega) (by rw [u_nn _ _ _ _ (by omega)]; exact e)
    refine ⟨h', e1, fun a ha => by rw [e2 a ha, up_n _ _ _ ha], fun j hj => by rw [e3 j (by omega), u_sn _ _ _ (by omega)], fun j h1 h2 => ?_⟩
    rcases Nat.eq_or_lt_of_le h1 with e | e
    · subst e; rw [e3 _ (by omega), u_ss]
    · rw [e4 j e h2, u_nn _ _ _ _ (by omega)]
theorem m_r82 : ∀ k i (h : Mm) F, i + k = 10 → k < F → ∃ h' : Mm, fX8_takeRead_82 F h (nI i) = some h' ∧ (∀ a, (a < 86 ∨ 91 < a) → h' a = h a) ∧ (∀ b j, 86 ≤ b → b ≤ 91 → j < i → h' b j = h b j) ∧ (∀ b j, 86 ≤ b → b ≤ 91 → i ≤ j → j < 10 → h' b j = h (b + 10) j) := by
  intro k
  induction k with
  | zero =>
    intro i h F hi hF
    obtain ⟨F, rfl⟩ : ∃ G, F = G + 1 := ⟨F - 1, by omega⟩
    have hc : (10 : Int32) ≤ nI i := by rw [show (10 : Int32) = nI 10 from rfl, n_le (by omega) (by omega)]; omega
    rw [fX8_takeRead_82, if_pos hc]
    exact ⟨h, rfl, fun _ _ => rfl, fun _ _ _ _ _ => rfl, fun b j _ _ h1 h2 => by omega⟩
  | succ k ih =>
    intro i h F hi hF
    obtain ⟨F, rfl⟩ : ∃ G, F = G + 1 := ⟨F - 1, by omega⟩
    have hc : ¬ (10 : Int32) ≤ nI i := by rw [show (10 : Int32) = nI 10 from rfl, n_le (by omega) (by omega)]; omega
    rw [fX8_takeRead_82, if_neg hc]
    simp only [in_t (i := i) (n := 10) (by omega) (by omega), ck_t, lt_e, nI_c (n := i) (by omega), nI_1]
    generalize hg : md_up (md_up (md_up (md_up (md_up (md_up h 86 i (h 96 i)) 87 i (md_up h 86 i (h 96 i) 97 i)) 88 i (md_up (md_up h 86 i (h 96 i)) 87 i (md_up h 86 i (h 96 i) 97 i) 98 i)) 89 i (md_up (md_up (md_up h 86 i (h 96 i)) 87 i (md_up h 86 i (h 96 i) 97 i)) 88 i (md_up (md_up h 86 i (h 96 i)) 87 i (md_up h 86 i (h 96 i) 97 i) 98 i) 99 i)) 90 i (md_up (md_up (md_up (md_up h 86 i (h 96 i)) 87 i (md_up h 86 i (h 96 i) 97 i)) 88 i (md_up (md_up h 86 i (h 96 i)) 87 i (md_up h 86 i (h 96 i) 97 i) 98 i)) 89 i (md_up (md_up (md_up h 86 i (h 96 i)) 87 i (md_up h 86 i (h 96 i) 97 i)) 88 i (md_up (md_up h 86 i (h 96 i)) 87 i (md_up h 86 i (h 96 i) 97 i) 98 i) 99 i) 100 i)) 91 i (md_up (md_up (md_up (md_up (md_up h 86 i (h 96 i)) 87 i (md_up h 86 i (h 96 i) 97 i)) 88 i (md_up (md_up h 86 i (h 96 i)) 87 i (md_up h 86 i (h 96 i) 97 i) 98 i)) 89 i (md_up (md_up (md_up h 86 i (h 96 i)) 87 i (md_up h 86 i (h 96 i) 97 i)) 88 i (md_up (md_up h 86 i (h 96 i)) 87 i (md_up h 86 i (h 96 i) 97 i) 98 i) 99 i)) 90 i (md_up (md_up (md_up (md_up h 86 i (h 96 i)) 87 i (md_up h 86 i (h 96 i) 97 i)) 88 i (md_up (md_up h 86 i (h 96 i)) 87 i (md_up h 86 i (h 96 i) 97 i) 98 i)) 89 i (md_up (md_up (md_up h 86 i (h 96 i)) 87 i (md_up h 86 i (h 96 i) 97 i)) 88 i (md_up (md_up h 86 i (h 96 i)) 87 i (md_up h 86 i (h 96 i) 97 i) 98 i) 99 i) 100 i) 101 i) = g
    have gf : ∀ a j, (a < 86 ∨ 91 < a ∨ j ≠ i) → g a j = h a j := fun a j q => by rw [← hg, u_f _ _ (by omega), u_f _ _ (by omega), u_f _ _ (by omega), u_f _ _ (by omega), u_f _ _ (by omega), u_f _ _ (by omega)]
    have gi : ∀ b, 86 ≤ b → b ≤ 91 → g b i = h (b + 10) i := by
      intro b h1 h2
      rcases (show b = 86 ∨ b = 87 ∨ b = 88 ∨ b = 89 ∨ b = 90 ∨ b = 91 by omega) with rfl | rfl | rfl | rfl | rfl | rfl
      · rw [← hg, u_nn _ _ _ _ (by omega), u_nn _ _ _ _ (by omega), u_nn _ _ _ _ (by omega), u_nn _ _ _ _ (by omega), u_nn _ _ _ _ (by omega), u_ss]
      · rw [← hg, u_nn _ _ _ _ (by omega), u_nn _ _ _ _ (by omega), u_nn _ _ _ _ (by omega), u_nn _ _ _ _ (by omega), u_ss, u_nn _ _ _ _ (by omega)]
      · rw [← hg, u_nn _ _ _ _ (by omega), u_nn _ _ _ _ (by omega), u_nn _ _ _ _ (by omega), u_ss, u_nn _ _ _ _ (by omega), u_nn _ _ _ _ (by omega)]
      · rw [← hg, u_nn _ _ _ _ (by omega), u_nn _ _ _ _ (by omega), u_ss, u_nn _ _ _ _ (by omega), u_nn _ _ _ _ (by omega), u_nn _ _ _ _ (by omega)]
      · rw [← hg, u_nn _ _ _ _ (by omega), u_ss, u_nn _ _ _ _ (by omega), u_nn _ _ _ _ (by omega), u_nn _ _ _ _ (by omega), u_nn _ _ _ _ (by omega)]
      · rw [← hg, u_ss, u_nn _ _ _ _ (by omega), u_nn _ _ _ _ (by omega), u_nn _ _ _ _ (by omega), u_nn _ _ _ _ (by omega), u_nn _ _ _ _ (by omega)]
    obtain ⟨h', e1, e2, e3, e4⟩ := ih (i + 1) g F (by omega) (by omega)
    refine ⟨h', e1, fun a ha => ?_, fun b j q1 q2 q3 => by rw [e3 b j q1 q2 (by omega), gf b j (by omega)], fun b j q1 q2 h1 h2 => ?_⟩
    · rw [e2 a ha]; funext j; exact gf a j (by omega)
    · rcases Nat.eq_or_lt_of_le h1 with e | e
      · subst e; rw [e3 b _ q1 q2 (by omega), gi b q1 q2]
      · rw [e4 b j q1 q2 e h2, gf _ j (by omega)]
theorem m_r168 : ∀ k i (h : Mm) F, i + k = 9 → k < F → ∃ h' : Mm, fX8_takeRead_168 F h (nI i) = some h' ∧ (∀ a, a ≠ 92 → h' a = h a) ∧ (∀ j, j < i → h' 92 j = h 92 j) ∧ (∀ j, i ≤ j → j < 9 → h' 92 j = 0) := by
  intro k
  induction k with
  | zero =>
    intro i h F hi hF
    obtain ⟨F, rfl⟩ : ∃ G, F = G + 1 := ⟨F - 1, by omega⟩
    have hc : (9 : Int32) ≤ nI i := by rw [show (9 : Int32) = nI 9 from rfl, n_le (by omega) (by omega)]; omega
    rw [fX8_takeRead_168, if_pos hc]
    exact ⟨h, rfl, fun _ _ => rfl, fun _ _ => rfl, fun j h1 h2 => by omega⟩
  | succ k ih =>
    intro i h F hi hF
    obtain ⟨F, rfl⟩ : ∃ G, F = G + 1 := ⟨F - 1, by omega⟩
    have hc : ¬ (9 : Int32) ≤ nI i := by rw [show (9 : Int32) = nI 9 from rfl, n_le (by omega) (by omega)]; omega
    rw [fX8_takeRead_168, if_neg hc, in_t (by omega) (by omega), ck_t, lt_e, nI_c (by omega), nI_1]
    obtain ⟨h', e1, e2, e3, e4⟩ := ih (i + 1) (md_up h 92 i 0) F (by omega) (by omega)
    refine ⟨h', e1, fun a ha => by rw [e2 a ha, up_n _ _ _ ha], fun j hj => by rw [e3 j (by omega), u_sn _ _ _ (by omega)], fun j h1 h2 => ?_⟩
    rcases Nat.eq_or_lt_of_le h1 with e | e
    · subst e; rw [e3 _ (by omega), u_ss]
    · rw [e4 j e h2]
theorem m_r199 {V : Nat} (hV : V ≤ 5) : ∀ k i (h : Mm) F, i + k = V → k < F → h 84 12 = nI V → ∃ h' : Mm, fX8_takeRead_199 F h (nI i) = some h' ∧ (∀ a, a ≠ 92 → h' a = h a) ∧ (∀ j, (j < 2 + i ∨ 2 + V ≤ j) → h' 92 j = h 92 j) ∧ (∀ j, i ≤ j → j < V → h' 92 (2 + j) = h 102 j) := by
  intro k
  induction k with
  | zero =>
    intro i h F hi hF e
    obtain ⟨F, rfl⟩ : ∃ G, F = G + 1 := ⟨F - 1, by omega⟩
    rw [fX8_takeRead_199, e, if_pos ((n_le (by omega) (by omega)).mpr (by omega))]
    exact ⟨h, rfl, fun _ _ => rfl, fun _ _ => rfl, fun j h1 h2 => by omega⟩
  | succ k ih =>
    intro i h F hi hF e
    obtain ⟨F, rfl⟩ : ∃ G, F = G + 1 := ⟨F - 1, by omega⟩
    rw [fX8_takeRead_199, e, if_neg (by rw [n_le (by omega) (by omega)]; omega), in_t (by omega) (by omega), ck_t, in_2t (by omega), ck_t, lt_e, cl_2t (by omega), nI_c (by omega), nI_1]
    obtain ⟨h', e1, e2, e3, e4⟩ := ih (i + 1) (md_up h 92 (2 + i) (h 102 i)) F (by omega) (by omega) (by rw [u_nn _ _ _ _ (by omega)]; exact e)
    refine ⟨h', e1, fun a ha => by rw [e2 a ha, up_n _ _ _ ha], fun j hj => by rw [e3 j (by omega), u_sn _ _ _ (by omega)], fun j h1 h2 => ?_⟩
    rcases Nat.eq_or_lt_of_le h1 with e | e
    · subst e; rw [e3 _ (by omega), u_ss]
    · rw [e4 j e h2, u_nn _ _ _ _ (by omega)]
theorem m_takeRead {h : Mm} {A : Ab} {R : Nat} {M : Nat → Nat} (w : WK A R M) (km : KM h A R M) : ∃ h' : Mm, fX8_takeRead h = some h' ∧ NS h' A (bB A R M) ∧ (∀ a j, (a ≠ 84 ∨ 12 < j) → (a < 85 ∨ 92 < a) → h' a j = h a j) := by
  have w2 := w.1.2.2.1
  have w3 := w.1.2.2.2.1
  have w4 := w.1.2.2.2.2.1
  have w5 := w.1.2.2.2.2.2.1
  obtain ⟨y0, y1, y2, y3, y4, y5, y6, y7, y8, y9, y10⟩ := km
  have i0 : md_in (0 : Int32) 2 = true := by decide
  have i1 : md_in (1 : Int32) 2 = true := by decide
  rw [fX8_takeRead, i0, ck_t, lt_e, i1, ck_t, lt_e, lt_e, lt_e, lt_e, lt_e, c_0, c_1, u_nn _ _ _ _ (show 94 ≠ 84 by omega), u_sn _ _ _ (show 22 ≠ 1 by omega), u_sn _ _ _ (show 22 ≠ 0 by omega), u_sn _ _ _ (show 24 ≠ 2 by omega), u_sn _ _ _ (show 24 ≠ 1 by omega), u_sn _ _ _ (show 24 ≠ 0 by omega), u_sn _ _ _ (show 28 ≠ 4 by omega), u_sn _ _ _ (show 28 ≠ 2 by omega), u_sn _ _ _ (show 28 ≠ 1 by omega), u_sn _ _ _ (show 28 ≠ 0 by omega), u_sn _ _ _ (show 33 ≠ 8 by omega), u_sn _ _ _ (show 33 ≠ 4 by omega), u_sn _ _ _ (show 33 ≠ 2 by omega), u_sn _ _ _ (show 33 ≠ 1 by omega), u_sn _ _ _ (show 33 ≠ 0 by omega), y0, y1, y2, y3, y4, y5]
  generalize hg : md_up (md_up (md_up (md_up (md_up (md_up h 84 0 (nI (A 0 0))) 84 1 (nI (A 0 1))) 84 2 (nI (A 0 2))) 84 4 (nI (A 0 3))) 84 8 (nI (A 0 4))) 84 12 (nI (A 0 5)) = g
  have gf : ∀ a j, (a ≠ 84 ∨ 12 < j) → g a j = h a j := fun a j q => by rw [← hg, u_f _ _ (by omega), u_f _ _ (by omega), u_f _ _ (by omega), u_f _ _ (by omega), u_f _ _ (by omega), u_f _ _ (by omega)]
  have g0 : g 84 0 = nI (A 0 0) := by rw [← hg, u_sn _ _ _ (by omega), u_sn _ _ _ (by omega), u_sn _ _ _ (by omega), u_sn _ _ _ (by omega), u_sn _ _ _ (by omega), u_ss]
  have g1 : g 84 1 = nI (A 0 1) := by rw [← hg, u_sn _ _ _ (by omega), u_sn _ _ _ (by omega), u_sn _ _ _ (by omega), u_sn _ _ _ (by omega), u_ss]
  have g2 : g 84 2 = nI (A 0 2) := by rw [← hg, u_sn _ _ _ (by omega), u_sn _ _ _ (by omega), u_sn _ _ _ (by omega), u_ss]
  have g4 : g 84 4 = nI (A 0 3) := by rw [← hg, u_sn _ _ _ (by omega), u_sn _ _ _ (by omega), u_ss]
  have g8 : g 84 8 = nI (A 0 4) := by rw [← hg, u_sn _ _ _ (by omega), u_ss]
  have g12 : g 84 12 = nI (A 0 5) := by rw [← hg, u_ss]
  obtain ⟨k1, a1, a2, a3, a4⟩ := m_r54 w2 (A 0 2) 0 g md_N (by omega) (by unfold md_N; omega) g2
  obtain ⟨k2, b1, b2, b3, b4⟩ := m_r82 10 0 k1 md_N (by omega) (by unfold md_N; omega)
  obtain ⟨k3, c1, c2, c3, c4⟩ := m_r168 9 0 k2 md_N (by omega) (by unfold md_N; omega)
  have e32 : k3 84 32 = nI R := by rw [c2 84 (by omega), b2 84 (by omega), a2 84 (by omega), gf 84 32 (by omega)]; exact y6
  have e12 : md_up k3 92 0 (nI R) 84 12 = nI (A 0 5) := by rw [u_nn _ _ _ _ (by omega), c2 84 (by omega), b2 84 (by omega), a2 84 (by omega)]; exact g12
  obtain ⟨k4, d1, d2, d3, d4⟩ := m_r199 w5 (A 0 5) 0 (md_up k3 92 0 (nI R)) md_N (by omega) (by unfold md_N; omega) e12
  rw [show (0 : Int32) = nI 0 from rfl, a1, bd_s, b1, bd_s, c1, bd_s, show nI 0 = (0 : Int32) from rfl, in_0, ck_t, lt_e, e32, show (0 : Int32) = nI 0 from rfl, d1, bd_s]
  have f1 : ∀ a j, a ≠ 92 → k4 a j = k2 a j := fun a j q => by rw [d2 a q, u_nn _ _ _ _ q, c2 a q]
  have fk : ∀ j, k4 84 j = g 84 j := fun j => by rw [f1 84 j (by omega), b2 84 (by omega), a2 84 (by omega)]
  have fb : ∀ b j, 86 ≤ b → b ≤ 91 → j < 10 → k4 b j = h (b + 10) j := fun b j q1 q2 q3 => by rw [f1 b j (by omega), b4 b j q1 q2 (by omega) q3, a2 (b + 10) (by omega), gf _ j (by omega)]
  refine ⟨k4, rfl, ⟨w.1, ⟨by rw [fk]; exact g0, by rw [fk]; exact g1, by rw [fk]; exact g2, by rw [fk]; exact g4, by rw [fk]; exact g8, by rw [fk]; exact g12, fun i hi => ?_, fun k hk => ?_, fun k hk => ?_⟩, fun k hk => ?_, WB_b w⟩, fun a j q1 q2 => ?_⟩
  · rw [f1 85 i (by omega), b2 85 (by omega), a4 i (by omega) hi, gf 95 i (by omega)]; exact y7 i hi
  · rw [fb 86 k (by omega) (by omega) (by omega), fb 87 k (by omega) (by omega) (by omega), fb 88 k (by omega) (by omega) (by omega)]; exact y8 k hk
  · rw [fb 89 k (by omega) (by omega) (by omega), fb 90 k (by omega) (by omega) (by omega), fb 91 k (by omega) (by omega) (by omega)]; exact y9 k hk
  · rw [Nat.zero_add]
    by_cases k0 : k = 0
    · subst k0
      rw [d3 0 (by omega), u_ss]; rfl
    · by_cases k1' : k = 1
      · subst k1'
        rw [d3 1 (by omega), u_sn _ _ _ (by omega), c4 1 (by omega) (by omega)]; rfl
      · obtain ⟨t, rfl⟩ : ∃ t, k = 2 + t := ⟨k - 2, by omega⟩
        rw [bB_m]
        by_cases y : t < A 0 5
        · rw [if_pos y, d4 t (by omega) y, u_nn _ _ _ _ (by omega), c2 102 (by omega), b2 102 (by omega), a2 102 (by omega), gf 102 t (by omega)]; exact y10 t y
        · rw [if_neg y, d3 _ (by omega), u_sn _ _ _ (by omega), c4 _ (by omega) hk]; rfl
  · rw [f1 a j (by omega)]
    by_cases q : 86 ≤ a ∧ a ≤ 91
    · omega
    · rw [b2 a (by omega), a2 a (by omega), gf a j q1]
