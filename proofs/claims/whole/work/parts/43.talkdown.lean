theorem CM_t {h h' : Mm} {A : Ab} (f : ∀ a j, (a = 84 ∧ j ≤ 12 ∨ 85 ≤ a ∧ a ≤ 91) → h' a j = h a j) (m : CM h A) : CM h' A := by
  obtain ⟨m0, m1, m2, m3, m4, m5, m6, m7, m8⟩ := m
  exact ⟨by rw [f 84 0 (by omega)]; exact m0, by rw [f 84 1 (by omega)]; exact m1, by rw [f 84 2 (by omega)]; exact m2, by rw [f 84 4 (by omega)]; exact m3, by rw [f 84 8 (by omega)]; exact m4, by rw [f 84 12 (by omega)]; exact m5, fun i hi => by rw [f 85 i (by omega)]; exact m6 i hi, fun k hk => by rw [f 86 k (by omega), f 87 k (by omega), f 88 k (by omega)]; exact m7 k hk, fun k hk => by rw [f 89 k (by omega), f 90 k (by omega), f 91 k (by omega)]; exact m8 k hk⟩
theorem CX_t {h h' : Mm} {c : Nat} {A : Ab} (f : ∀ a j, c ≤ a → a ≤ c + 7 → h' a j = h a j) (m : CX h c A) : CX h' c A := by
  obtain ⟨m0, m1, m2, m3, m4, m5, m6, m7, m8⟩ := m
  exact ⟨by rw [f c 1 (by omega) (by omega)]; exact m0, by rw [f c 2 (by omega) (by omega)]; exact m1, by rw [f c 3 (by omega) (by omega)]; exact m2, by rw [f c 5 (by omega) (by omega)]; exact m3, by rw [f c 9 (by omega) (by omega)]; exact m4, by rw [f c 14 (by omega) (by omega)]; exact m5, fun i hi => by rw [f (c + 1) i (by omega) (by omega)]; exact m6 i hi, fun k hk => by rw [f (c + 2) k (by omega) (by omega), f (c + 3) k (by omega) (by omega), f (c + 4) k (by omega) (by omega)]; exact m7 k hk, fun k hk => by rw [f (c + 5) k (by omega) (by omega), f (c + 6) k (by omega) (by omega), f (c + 7) k (by omega) (by omega)]; exact m8 k hk⟩
theorem dx_c (v : Int32) : md_dx v = 3 ∨ md_dx v = 74 := by
  unfold md_dx
  split
  · exact .inl rfl
  · exact .inr rfl
def hi (A : Ab) (t a b : Nat) : Prop := ∃ j, j < A 0 4 ∧ gn A t a j ∧ A 6 j = b
theorem hi_iff {A : Ab} (w : WA A) {t a b r : Nat} (ht : t < A 0 2) (e2 : r ≤ 1000000) (e3 : ∀ j, j < A 0 4 → A 5 j = a → A 6 j = b → r ≤ A 7 j) (e4 : r = 1000000 ∨ ∃ j, j < A 0 4 ∧ A 5 j = a ∧ A 6 j = b ∧ r = A 7 j) (hfa : FD A t a < 1000000) : (r < 1000000 ∧ r + FD A t b = FD A t a) ↔ hi A t a b := by
  constructor
  · rintro ⟨h1, h2⟩
    rcases e4 with e | ⟨j, j1, j2, j3, j4⟩
    · omega
    · exact ⟨j, j1, ⟨j2, hfa, by rw [j3, ← j4]; exact h2⟩, j3⟩
  · rintro ⟨j, j1, ⟨g1, g2, g3⟩, j3⟩
    have h7 := e3 j j1 g1 j3
    have hw := w.2.2.2.2.2.2.2.2 j j1
    rw [j3] at g3
    rcases e4 with e | ⟨k, k1, k2, k3, k4⟩
    · omega
    · have c : FD A t (A 5 k) ≤ A 7 k + FD A t (A 6 k) := pa_fix (bell w ht) k k1
      rw [k2, k3] at c
      exact ⟨by omega, by omega⟩
def dn (A : Ab) (t a k : Nat) (v : Int32) : Prop := (v = -1 ∧ ∀ b, k ≤ b → ¬ hi A t a b) ∨ ∃ b, k ≤ b ∧ v = nI b ∧ hi A t a b ∧ ∀ b', k ≤ b' → hi A t a b' → b ≤ b'
theorem md_loop {h : Mm} {A : Ab} (w : WA A) (m : CM h A) {t a : Nat} (ha : a < A 0 2) (ht : t < A 0 2) (hat : a ≠ t) (hD : ∀ v, v < 8 → h 104 v = nI (FD A t v)) (hfa : FD A t a < 1000000) : ∀ k v F, k ≤ A 0 2 → k < F → dn A t a k v → ∃ r, fX8_talkDown_73 F h (nI a) (nI t) v (nI k - 1) = some r ∧ dn A t a 0 r := by
  have h8 := w.2.2.1
  intro k
  induction k with
  | zero =>
    intro v F hk hF hd
    obtain ⟨F, rfl⟩ : ∃ G, F = G + 1 := ⟨F - 1, by omega⟩
    rw [fX8_talkDown_73, if_pos (show nI 0 - 1 < 0 by decide)]
    exact ⟨v, rfl, hd⟩
  | succ k ih =>
    intro v F hk hF hd
    obtain ⟨F, rfl⟩ : ∃ G, F = G + 1 := ⟨F - 1, by omega⟩
    obtain ⟨r, e1, e2, e3, e4⟩ := mz_quick w m (a := a) (b := k) (by omega) (by omega)
    have bb := FD_b w t k
    have hiff := hi_iff w ht e2 e3 e4 hfa
    rw [fX8_talkDown_73, nI_pred, if_neg (nI_pos (by omega)), if_neg (by rw [n_eq (by omega) (by omega)]; exact hat), e1, bd_s, in_t (i := k) (n := 8) (by omega) (by omega), in_t (i := a) (n := 8) (by omega) (by omega), ck_t, ck_t, nI_c (n := k) (by omega), nI_c (n := a) (by omega), hD k (by omega), hD a (by omega), nI_add, show nI k + (-1 : Int32) = nI k - 1 from (Int32.sub_eq_add_neg _ _).symm]
    rw [show (1000000 : Int32) = nI 1000000 from rfl]
    simp only [n_le (show 1000000 < 1000000001 by omega) (show r < 1000000001 by omega), n_eq (show r + FD A t k < 1000000001 by omega) (show FD A t a < 1000000001 by omega)]
    by_cases hh : r < 1000000 ∧ r + FD A t k = FD A t a
    · rw [if_neg (by omega), if_pos hh.2, bd_s]
      exact ih (nI k) F (by omega) (by omega) (.inr ⟨k, Nat.le_refl _, rfl, hiff.mp hh, fun b' hb _ => hb⟩)
    · have hn : ¬ hi A t a k := fun q => hh (hiff.mpr q)
      have hd' : dn A t a k v := by
        rcases hd with ⟨d1, d2⟩ | ⟨b, d1, d2, d3, d4⟩
        · refine .inl ⟨d1, fun b hb => ?_⟩
          rcases Nat.eq_or_lt_of_le hb with e | e
          · subst e; exact hn
          · exact d2 b e
        · refine .inr ⟨b, by omega, d2, d3, fun b' hb q => ?_⟩
          rcases Nat.eq_or_lt_of_le hb with e | e
          · subst e; exact absurd q hn
          · exact d4 b' e q
      have go := ih v F (by omega) (by omega) hd'
      by_cases c1 : 1000000 ≤ r
      · rw [if_pos c1, bd_s]; exact go
      · rw [if_neg c1, if_neg (fun q => hh ⟨by omega, q⟩), bd_s]; exact go
theorem eq_talkDown {h : Mm} {A : Ab} {B : Nat → Nat} (q : QS h A B) (l1 l2 l3 : Int32) : ∃ r h1 h2, fX7_talkDown h l1 l2 l3 = some (r, h1) ∧ (∀ a, a ≠ 73 → h1 a = h a) ∧ fX8_talkDown h1 l1 l2 l3 = some (r, h2) ∧ (∀ a, a ≠ 104 → h2 a = h1 a) := by
  obtain ⟨w, x, tt, m, p, pm, wb⟩ := q
  have h8 := w.2.2.1
  have h4 := w.2.2.2.2.1
  have hc := dx_c (h 0 7)
  rw [fX7_talkDown, xz_isIdea x, bd_s]
  by_cases ha : 0 ≤ l1 ∧ l1 < nI (A 0 2)
  · obtain ⟨a, ha', rfl⟩ := ix_of (by omega) ha
    rw [decide_eq_true ha, if_pos rfl, xz_isIdea x, bd_s]
    by_cases hb : 0 ≤ l2 ∧ l2 < nI (A 0 2)
    · obtain ⟨t, ht, rfl⟩ := ix_of (by omega) hb
      rw [decide_eq_true hb, if_pos rfl, x_in2]
      by_cases hl : 0 ≤ l3 ∧ l3 ≤ 1
      · rw [if_pos hl]
        obtain ⟨g, c1, c2, c3⟩ := xm_find w hc x ht
        rw [c1, bd_s]
        have mg : CM g A := CM_t (fun b j hbj => by rw [c2 b (by omega)]) m
        have xg : CX g (md_dx (g 0 7)) A := by rw [show g 0 = h 0 from c2 0 (by omega)]; exact CX_f hc c2 x
        obtain ⟨k, d1, d2, d3⟩ := mm_find w mg ht
        have mk : CM k A := CM_f d2 mg
        have M : fX8_talkDown g (nI a) (nI t) l3 = (if nI (FD A t a) < (1000000 : Int32) then (if l3 = 0 then some (nI (FD A t a), k) else md_bd (fX8_talkDown_73 md_N k (nI a) (nI t) (-1 : Int32) (nI (A 0 2) - 1)) (fun v => some (v, k))) else some ((-1 : Int32), k)) := by
          rw [fX8_talkDown, mz_isIdea w mg, bd_s, decide_eq_true ha, if_pos rfl, mz_isIdea w mg, bd_s, decide_eq_true hb, if_pos rfl, show (0 : Int64) = (0 : Int32).toInt64 from rfl, show (1 : Int64) = (1 : Int32).toInt64 from rfl, m_in, bd_s, decide_eq_true hl, if_pos rfl, d1, bd_s, in_t (by omega) (by omega), ck_t, ck_t, nI_c (by omega), d3 a (by omega), mk.2.2.1]
          rfl
        have S : ∀ C : Option (Int32 × Mm), (∃ r, C = some (r, g) ∧ fX8_talkDown g (nI a) (nI t) l3 = some (r, k)) → ∃ r h1 h2, C = some (r, h1) ∧ (∀ a, a ≠ 73 → h1 a = h a) ∧ fX8_talkDown h1 (nI a) (nI t) l3 = some (r, h2) ∧ (∀ a, a ≠ 104 → h2 a = h1 a) := fun C ⟨r, e1, e2⟩ => ⟨r, g, k, e1, c2, e2, d2⟩
        refine S _ ?_
        rw [M, show (1000000 : Int32) = nI 1000000 from rfl]
        have ba := FD_b w t a
        simp only [n_lt (show FD A t a < 1000000001 by omega) (show 1000000 < 1000000001 by omega)]
        obtain ⟨r, n1, n2⟩ := xn_loop w xg (t := t) (a := a) (by omega) (fun v hv => c3 v hv) (A 0 4) 0 (-1) md_N (by omega) (by unfold md_N; omega) (.inl ⟨rfl, fun j hj => by omega⟩)
        have N : fX7_nextOnTheWay g (nI a) = some r := by
          rw [fX7_nextOnTheWay, show (0 : Int32) = nI 0 from rfl, n1]; rfl
        rw [in_t (by omega) (by omega), ck_t, nI_c (by omega), c3 a (by omega), N, bd_s]
        by_cases z : FD A t a = 1000000
        · rw [if_neg (show ¬ FD A t a < 1000000 by omega), z, cI_t]
          have hr : r = -1 := by
            rcases n2 with ⟨e, _⟩ | ⟨b, _, _, ⟨j, _, g1, _⟩, _⟩
            · exact e
            · have := g1.2.1; omega
          rw [hr]
          by_cases z3 : l3 = 0
          · rw [if_pos z3]; exact ⟨_, rfl, rfl⟩
          · rw [if_neg z3]; exact ⟨_, rfl, rfl⟩
        · rw [if_pos (show FD A t a < 1000000 by omega), cIn z]
          by_cases z3 : l3 = 0
          · rw [if_pos z3, if_pos z3]; exact ⟨_, rfl, rfl⟩
          · rw [if_neg z3, if_neg z3]
            have R : fX8_talkDown_73 md_N k (nI a) (nI t) (-1 : Int32) (nI (A 0 2) - 1) = some r := by
              by_cases hat : a = t
              · have hr : r = -1 := by
                  rcases n2 with ⟨e, _⟩ | ⟨b, _, _, ⟨j, j1, g1, _⟩, _⟩
                  · exact e
                  · have e0 : FD A t t = 0 := (itp_J w (A 0 2 - 1) (D0 t) (D0_J A t)).1
                    have h7 := w.2.2.2.2.2.2.2.2 j j1
                    have := g1.2.2
                    rw [hat, e0] at this
                    omega
                have : md_N = (md_N - 1) + 1 := by unfold md_N; rfl
                rw [this, fX8_talkDown_73, hr, if_pos (congrArg nI hat)]
                split <;> rfl
              · obtain ⟨r', m1, m2⟩ := md_loop w mk ha' ht hat (fun v hv => d3 v hv) (by omega) (A 0 2) (-1) md_N (Nat.le_refl _) (by unfold md_N; omega) (.inl ⟨rfl, fun b hb q => by
                  obtain ⟨j, j1, _, j3⟩ := q
                  have := w.2.2.2.2.2.2.2.2 j j1
                  omega⟩)
                rw [m1]
                rcases m2 with ⟨e1, e2⟩ | ⟨b, _, e2, ⟨j, j1, j2, j3⟩, e4⟩
                · rcases n2 with ⟨f1, _⟩ | ⟨b, _, f2, ⟨j, j1, j2, j3⟩, _⟩
                  · rw [e1, f1]
                  · exact absurd ⟨j, j1, j2, j3⟩ (e2 b (by omega))
                · rcases n2 with ⟨_, f2⟩ | ⟨b', _, f2, ⟨i, i1, i2, i3⟩, f4⟩
                  · exact absurd j2 (f2 j j1)
                  · have u1 := e4 b' (by omega) ⟨i, i1, i2, i3⟩
                    have u2 := f4 j j1 j2
                    rw [e2, f2, show b = b' by omega]
            rw [R]
            exact ⟨_, rfl, rfl⟩
      · rw [if_neg hl]
        refine ⟨_, h, h, rfl, fun _ _ => rfl, ?_, fun _ _ => rfl⟩
        rw [fX8_talkDown, mz_isIdea w m, bd_s, decide_eq_true ha, if_pos rfl, mz_isIdea w m, bd_s, decide_eq_true hb, if_pos rfl, show (0 : Int64) = (0 : Int32).toInt64 from rfl, show (1 : Int64) = (1 : Int32).toInt64 from rfl, m_in, bd_s, decide_eq_false hl]
        rfl
    · rw [decide_eq_false hb]
      refine ⟨_, h, h, rfl, fun _ _ => rfl, ?_, fun _ _ => rfl⟩
      rw [fX8_talkDown, mz_isIdea w m, bd_s, decide_eq_true ha, if_pos rfl, mz_isIdea w m, bd_s, decide_eq_false hb]
      rfl
  · rw [decide_eq_false ha]
    refine ⟨_, h, h, rfl, fun _ _ => rfl, ?_, fun _ _ => rfl⟩
    rw [fX8_talkDown, mz_isIdea w m, bd_s, decide_eq_false ha]
    rfl
