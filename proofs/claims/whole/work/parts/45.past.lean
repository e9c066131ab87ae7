/-! copies of the post: remember, undo, keep, goBack -/
theorem XS_c {h h' : Mm} {A : Ab} {B B' : Nat → Nat} (f : ∀ a j, (a = 0 ∧ j = 7 ∨ 3 ≤ a ∧ a ≤ 12 ∨ 74 ≤ a ∧ a ≤ 83) → h' a j = h a j) (x : XS h A B) (p : PX h' 13 B') (wb : WB A B') : XS h' A B' := by
  obtain ⟨w, x, t, -, -⟩ := x
  have hc := dx_c (h 0 7)
  have e : h' 0 7 = h 0 7 := f 0 7 (by omega)
  refine ⟨w, ?_, ?_, p, wb⟩
  · rw [e]; exact CX_t (fun a j _ _ => f a j (by omega)) x
  · rw [e]; exact TX_t (fun j => f _ j (by omega)) t
theorem NS_c {h h' : Mm} {A : Ab} {B B' : Nat → Nat} (f : ∀ a j, (a = 84 ∧ j ≤ 12 ∨ 85 ≤ a ∧ a ≤ 91) → h' a j = h a j) (x : NS h A B) (p : PM (h' 92) 0 B') (wb : WB A B') : NS h' A B' :=
  ⟨x.1, CM_t (fun a j _ => f a j (by omega)) x.2.1, p, wb⟩
theorem z_bec2 {c c1 : Nat} (hc : c ≠ c1) : ∀ k i (h : Mm) F, i + k = 5 → k < F → ∃ h' : Mm, fX4_become_2 F h c c1 (nI i) = some h' ∧ (∀ a, a ≠ c + 1 → h' a = h a) ∧ (∀ j, j < i → h' (c + 1) j = h (c + 1) j) ∧ (∀ j, i ≤ j → j < 5 → h' (c + 1) j = h (c1 + 1) j) := by
  intro k
  induction k with
  | zero =>
    intro i h F hi hF
    obtain ⟨F, rfl⟩ : ∃ G, F = G + 1 := ⟨F - 1, by omega⟩
    have hc : (5 : Int32) ≤ nI i := by rw [show (5 : Int32) = nI 5 from rfl, n_le (by omega) (by omega)]; omega
    rw [fX4_become_2, if_pos hc]
    exact ⟨h, rfl, fun _ _ => rfl, fun _ _ => rfl, fun j h1 h2 => by omega⟩
  | succ k ih =>
    intro i h F hi hF
    obtain ⟨F, rfl⟩ : ∃ G, F = G + 1 := ⟨F - 1, by omega⟩
    have hc : ¬ (5 : Int32) ≤ nI i := by rw [show (5 : Int32) = nI 5 from rfl, n_le (by omega) (by omega)]; omega
    rw [fX4_become_2, if_neg hc, in_t (by omega) (by omega), ck_t, ck_t, lt_e, nI_c (by omega), nI_1]
    obtain ⟨h', e1, e2, e3, e4⟩ := ih (i + 1) (md_up h (c + 1) i (h (c1 + 1) i)) F (by omega) (by omega)
    refine ⟨h', e1, fun a ha => by rw [e2 a ha, up_n _ _ _ ha], fun j hj => by rw [e3 j (by omega), u_sn _ _ _ (by omega)], fun j h1 h2 => ?_⟩
    rcases Nat.eq_or_lt_of_le h1 with e | e
    · subst e; rw [e3 i (by omega), u_ss]
    · rw [e4 j e h2, u_nn _ _ _ _ (by omega)]
theorem z_become {h : Mm} {c c1 : Nat} {B : Nat → Nat} (n1 : c ≠ c1) (n2 : c + 1 ≠ c1) (n3 : c ≠ c1 + 1) (x : PX h c1 B) : ∃ h' : Mm, fX4_become h c c1 = some h' ∧ PX h' c B ∧ (∀ a, a ≠ c → a ≠ c + 1 → h' a = h a) := by
  obtain ⟨g, c1', c2, c3, c4⟩ := z_bec2 n1 5 0 h md_N (by omega) (by unfold md_N; omega)
  have n4 : c1 ≠ c := fun e => n1 e.symm
  have eg : ∀ j, g c1 j = h c1 j := fun j => by rw [c2 c1 (by omega)]
  rw [fX4_become, show (0 : Int32) = nI 0 from rfl, c1', bd_s, lt_e, lt_e, lt_e, lt_e]
  simp only [u_nn _ _ _ _ n4, eg, x.1, x.2.1, x.2.2.2.1, x.2.2.2.2]
  refine ⟨_, rfl, ⟨?_, ?_, fun t ht => ?_, ?_, ?_⟩, fun a h1 h2 => ?_⟩
  · rw [u_sn _ _ _ (by omega), u_sn _ _ _ (by omega), u_sn _ _ _ (by omega), u_ss]
  · rw [u_sn _ _ _ (by omega), u_sn _ _ _ (by omega), u_ss]
  · rw [u_nn _ _ _ _ (by omega), u_nn _ _ _ _ (by omega), u_nn _ _ _ _ (by omega), u_nn _ _ _ _ (by omega), c4 t (by omega) ht]
    exact x.2.2.1 t ht
  · rw [u_sn _ _ _ (by omega), u_ss]
  · rw [u_ss]
  · rw [up_n _ _ _ h1, up_n _ _ _ h1, up_n _ _ _ h1, up_n _ _ _ h1, c2 a h2]
def pC (B : Nat → Nat) (P : Nat → Nat → Nat) : Nat → Nat → Nat
  | 0 => B
  | i + 1 => P i
theorem n_min {n : Nat} (hn : n ≤ 20) : (if nI 20 < nI (n + 1) then nI 20 else nI (n + 1)) = nI (min (n + 1) 20) := by
  by_cases hc : nI 20 < nI (n + 1)
  · rw [if_pos hc]
    rw [n_lt (by omega) (by omega)] at hc
    congr 1; omega
  · rw [if_neg hc]
    rw [n_lt (by omega) (by omega)] at hc
    congr 1; omega
theorem x_rem {h : Mm} {n nx : Nat} {P : Nat → Nat → Nat} {B : Nat → Nat} (p : PX h 13 B) (x : HX h n nx P) : ∃ h' : Mm, fX3_remember h 13 = some h' ∧ HX h' (min (n + 1) 20) ((nx + 1) % 20) (pC B P) ∧ (∀ a, (a < 15 ∨ 56 < a) → h' a = h a) := by
  obtain ⟨a1, a2, a3, a4, a5⟩ := x
  obtain ⟨g, g1, g2, g3⟩ := z_become (c := 17 + 2 * nx) (c1 := 13) (by omega) (by omega) (by omega) p
  have e1 : g 15 1 = nI nx := by rw [g3 15 (by omega) (by omega)]; exact a3
  have e2 : g 15 2 = nI n := by rw [g3 15 (by omega) (by omega)]; exact a4
  rw [fX3_remember, a3, in_t (by omega) (by omega), ck_t, nI_c (by omega), g1, bd_s, lt_e, lt_e, e1, u_sn _ _ _ (show 2 ≠ 1 by omega), e2, nI_1, nI_1, show (20 : Int32) = nI 20 from rfl, pk_rem (by omega) (by omega) (by omega), n_min a1]
  refine ⟨_, rfl, ⟨by omega, by omega, ?_, ?_, fun i hi => ?_⟩, fun a ha => ?_⟩
  · rw [u_sn _ _ _ (by omega), u_ss]
  · rw [u_ss]
  · cases i with
    | zero =>
      rw [show ((nx + 1) % 20 + 19 - 0) % 20 = nx by omega]
      exact PX_t (fun a j _ => by rw [u_nn _ _ _ _ (by omega), u_nn _ _ _ _ (by omega)]) g2
    | succ i =>
      rw [show ((nx + 1) % 20 + 19 - (i + 1)) % 20 = (nx + 19 - i) % 20 by omega]
      exact PX_t (fun a j _ => by rw [u_nn _ _ _ _ (by omega), u_nn _ _ _ _ (by omega), g3 a (by omega) (by omega)]) (a5 i (by omega))
  · rw [up_n _ _ _ (by omega), up_n _ _ _ (by omega), g3 a (by omega) (by omega)]
theorem m_sh : ∀ k i (h : Mm) F, i + k = 180 → 9 ≤ i → k < F → ∃ h' : Mm, fX8_remember_12 F h (nI i) = some h' ∧ (∀ a, a ≠ 103 → h' a = h a) ∧ (∀ j, j + 9 < i → h' 103 j = h 103 j) ∧ (∀ j, i ≤ j + 9 → j + 9 < 180 → h' 103 j = h 103 (j + 9)) := by
  intro k
  induction k with
  | zero =>
    intro i h F hi h9 hF
    obtain ⟨F, rfl⟩ : ∃ G, F = G + 1 := ⟨F - 1, by omega⟩
    have hc : (180 : Int32) ≤ nI i := by rw [show (180 : Int32) = nI 180 from rfl, n_le (by omega) (by omega)]; omega
    rw [fX8_remember_12, if_pos hc]
    exact ⟨h, rfl, fun _ _ => rfl, fun _ _ => rfl, fun j h1 h2 => by omega⟩
  | succ k ih =>
    intro i h F hi h9 hF
    obtain ⟨F, rfl⟩ : ∃ G, F = G + 1 := ⟨F - 1, by omega⟩
    have hc : ¬ (180 : Int32) ≤ nI i := by rw [show (180 : Int32) = nI 180 from rfl, n_le (by omega) (by omega)]; omega
    rw [fX8_remember_12, if_neg hc, show (9 : Int32) = nI 9 from rfl, n_sub h9, in_t (i := i) (by omega) (by omega), in_t (i := i - 9) (by omega) (by omega), ck_t, ck_t, lt_e, nI_c (n := i) (by omega), nI_c (n := i - 9) (by omega), nI_1]
    obtain ⟨h', e1, e2, e3, e4⟩ := ih (i + 1) (md_up h 103 (i - 9) (h 103 i)) F (by omega) (by omega) (by omega)
    refine ⟨h', e1, fun a ha => by rw [e2 a ha, up_n _ _ _ ha], fun j hj => by rw [e3 j (by omega), u_sn _ _ _ (by omega)], fun j h1 h2 => ?_⟩
    rcases Nat.eq_or_lt_of_le h1 with e | e
    · rw [e3 j (by omega), show i - 9 = j by omega, u_ss, e]
    · rw [e4 j e h2, u_sn _ _ _ (by omega)]
theorem m_wr {n : Nat} (hn : n < 20) : ∀ k i (h : Mm) F, i + k = 9 → k < F → h 84 35 = nI n → ∃ h' : Mm, fX8_remember_52 F h (nI i) = some h' ∧ (∀ a, a ≠ 103 → h' a = h a) ∧ (∀ j, j < 9 * n + i → h' 103 j = h 103 j) ∧ (∀ j, i ≤ j → j < 9 → h' 103 (9 * n + j) = h 92 j) := by
  intro k
  induction k with
  | zero =>
    intro i h F hi hF h35
    obtain ⟨F, rfl⟩ : ∃ G, F = G + 1 := ⟨F - 1, by omega⟩
    have hc : (9 : Int32) ≤ nI i := by rw [show (9 : Int32) = nI 9 from rfl, n_le (by omega) (by omega)]; omega
    rw [fX8_remember_52, if_pos hc]
    exact ⟨h, rfl, fun _ _ => rfl, fun _ _ => rfl, fun j h1 h2 => by omega⟩
  | succ k ih =>
    intro i h F hi hF h35
    obtain ⟨F, rfl⟩ : ∃ G, F = G + 1 := ⟨F - 1, by omega⟩
    have hc : ¬ (9 : Int32) ≤ nI i := by rw [show (9 : Int32) = nI 9 from rfl, n_le (by omega) (by omega)]; omega
    rw [fX8_remember_52, if_neg hc, h35, show (9 : Int32) = nI 9 from rfl, pk_mul, nI_add, in_t (i := i) (by omega) (by omega), in_t (i := 9 * n + i) (by omega) (by omega), ck_t, ck_t, lt_e, nI_c (n := i) (by omega), nI_c (n := 9 * n + i) (by omega), nI_1]
    obtain ⟨h', e1, e2, e3, e4⟩ := ih (i + 1) (md_up h 103 (9 * n + i) (h 92 i)) F (by omega) (by omega) (by rw [u_nn _ _ _ _ (by omega)]; exact h35)
    refine ⟨h', e1, fun a ha => by rw [e2 a ha, up_n _ _ _ ha], fun j hj => by rw [e3 j (by omega), u_sn _ _ _ (by omega)], fun j h1 h2 => ?_⟩
    rcases Nat.eq_or_lt_of_le h1 with e | e
    · subst e; rw [e3 _ (by omega), u_ss]
    · rw [e4 j e h2, u_nn _ _ _ _ (by omega)]
theorem m_rem {h : Mm} {n : Nat} {P : Nat → Nat → Nat} {B : Nat → Nat} (hn : n ≤ 20) (p : PM (h 92) 0 B) (x : HM h n P) : ∃ h' : Mm, fX8_remember h = some h' ∧ HM h' (min (n + 1) 20) (pC B P) ∧ (∀ a j, (a ≠ 84 ∨ j ≠ 35) → a ≠ 103 → h' a j = h a j) := by
  obtain ⟨a1, a2⟩ := x
  have tail : ∀ (g : Mm) (m : Nat), m < 20 → g 84 35 = nI m → (∀ k, k < 9 → g 92 k = nI (B k)) → ∃ h' : Mm, (md_bd (fX8_remember_52 md_N g (0 : Int32)) (fun (h_7 : Mm) => md_lt (md_up h_7 84 35 ((h_7 84 35) + (1 : Int32))) (fun h_8 : Mm => some h_8))) = some h' ∧ h' 84 35 = nI (m + 1) ∧ PM (h' 103) (9 * m) B ∧ (∀ j, j < 9 * m → h' 103 j = g 103 j) ∧ (∀ a j, (a ≠ 84 ∨ j ≠ 35) → a ≠ 103 → h' a j = g a j) := by
    intro g m hm hg hb
    obtain ⟨k, c1, c2, c3, c4⟩ := m_wr hm 9 0 g md_N (by omega) (by unfold md_N; omega) hg
    rw [show (0 : Int32) = nI 0 from rfl, c1, bd_s, lt_e, c2 84 (by omega), hg, nI_1]
    refine ⟨_, rfl, by rw [u_ss], fun j hj => ?_, fun j hj => ?_, fun a j h1 h2 => ?_⟩
    · rw [u_nn _ _ _ _ (by omega), c4 j (by omega) hj]; exact hb j hj
    · rw [u_nn _ _ _ _ (by omega), c3 j (by omega)]
    · by_cases e : a = 84
      · subst e; rw [u_sn _ _ _ (by omega), c2 84 (by omega)]
      · rw [u_nn _ _ _ _ e, c2 a h2]
  have hb : ∀ k, k < 9 → h 92 k = nI (B k) := fun k hk => by have := p k hk; rwa [Nat.zero_add] at this
  rw [fX8_remember, a1, show (20 : Int32) = nI 20 from rfl]
  simp only [n_eq (show n < 1000000001 by omega) (show 20 < 1000000001 by omega)]
  by_cases e : n = 20
  · subst e
    obtain ⟨g, c1, c2, c3, c4⟩ := m_sh 171 9 h md_N (by omega) (by omega) (by unfold md_N; omega)
    rw [if_pos rfl, show (9 : Int32) = nI 9 from rfl, c1, bd_s, lt_e, bd_s, c2 84 (by omega), a1, show nI 20 - (1 : Int32) = nI 19 from rfl]
    obtain ⟨h', d1, d2, d3, d4, d5⟩ := tail (md_up g 84 35 (nI 19)) 19 (by omega) (by rw [u_ss]) (fun k hk => by rw [u_nn _ _ _ _ (by omega), c2 92 (by omega)]; exact hb k hk)
    refine ⟨h', d1, ⟨d2, fun i hi => ?_⟩, fun a j h1 h2 => ?_⟩
    · cases i with
      | zero => exact d3
      | succ i =>
        intro k hk
        have := a2 i (by omega) k hk
        rw [d4 _ (by omega), u_nn _ _ _ _ (by omega), c4 _ (by omega) (by omega)]
        rw [show 9 * (20 - 1 - i) + k = 9 * (min (20 + 1) 20 - 1 - (i + 1)) + k + 9 by omega] at this
        exact this
    · rw [d5 a j h1 h2]
      by_cases e : a = 84
      · subst e; rw [u_sn _ _ _ (by omega), c2 84 (by omega)]
      · rw [u_nn _ _ _ _ e, c2 a h2]
  · rw [if_neg e, bd_s]
    obtain ⟨h', d1, d2, d3, d4, d5⟩ := tail h n (by omega) a1 hb
    rw [show min (n + 1) 20 = n + 1 by omega]
    refine ⟨h', d1, ⟨d2, fun i hi => ?_⟩, d5⟩
    cases i with
    | zero => exact d3
    | succ i =>
      intro k hk
      have := a2 i (by omega) k hk
      rw [d4 _ (by omega), show 9 * (n + 1 - 1 - (i + 1)) + k = 9 * (n - 1 - i) + k by omega]
      exact this
