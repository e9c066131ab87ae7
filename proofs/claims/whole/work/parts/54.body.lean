/-! the clauses' bodies, class and model side by side -/
section NU
variable {h : Mm} {n p lo m : Nat} {T : Nat → Nat}
theorem x_numS (x : RX h n T p) (e : h 1 3 = 0) (hlo : lo ≤ 1) (hm : m ≤ 1000) (ck : kd n T p lo m = 0) : ∃ h' : Mm, fX6_readNumber h (nI lo) (nI m - 1) = some (nI (nv n T p), h') ∧ RX h' n T (nz n T p) ∧ h' 1 5 = nI (sk n T p) ∧ h' 1 3 = 0 ∧ h' 1 2 = h 1 2 ∧ (∀ a j, (a ≠ 1 ∨ j ≤ 1 ∨ 6 ≤ j) → h' a j = h a j) := by
  obtain ⟨h', a1, a2, a3, a4, a5, a6⟩ := x_num x (show h 1 3 = nI 0 from e) (by omega) hlo hm
  refine ⟨h', ?_, a2, a3, ?_, ?_, a6⟩
  · rw [a1, if_pos ⟨rfl, ck⟩]
  · rw [a4, if_pos rfl, ck]; rfl
  · rw [a5, if_neg (fun q => q.2 ck)]
theorem x_numF (x : RX h n T p) (e : h 1 3 = 0) (hlo : lo ≤ 1) (hm : m ≤ 1000) (ck : kd n T p lo m ≠ 0) : ∃ h' : Mm, fX6_readNumber h (nI lo) (nI m - 1) = some (0, h') ∧ (∃ p', RX h' n T p') ∧ h' 1 3 = nI (kd n T p lo m) ∧ h' 1 2 = nI (sk n T p) ∧ (∀ a j, (a ≠ 1 ∨ j ≤ 1 ∨ 6 ≤ j) → h' a j = h a j) := by
  obtain ⟨h', a1, a2, a3, a4, a5, a6⟩ := x_num x (show h 1 3 = nI 0 from e) (by omega) hlo hm
  refine ⟨h', ?_, ⟨_, a2⟩, ?_, ?_, a6⟩
  · rw [a1, if_neg (fun q => ck q.2)]; rfl
  · rw [a4, if_pos rfl]
  · rw [a5, if_pos ⟨rfl, ck⟩]
theorem x_numD {f : Nat} (x : ∃ p, RX h n T p) (e : h 1 3 = nI f) (h0 : f ≠ 0) (hf : f ≤ 4) (hlo : lo ≤ 1) (hm : m ≤ 1000) : ∃ h' : Mm, fX6_readNumber h (nI lo) (nI m - 1) = some (0, h') ∧ (∃ p', RX h' n T p') ∧ h' 1 3 = nI f ∧ h' 1 2 = h 1 2 ∧ (∀ a j, (a ≠ 1 ∨ j ≤ 1 ∨ 6 ≤ j) → h' a j = h a j) := by
  obtain ⟨p, x⟩ := x
  obtain ⟨h', a1, a2, a3, a4, a5, a6⟩ := x_num x e hf hlo hm
  refine ⟨h', ?_, ⟨_, a2⟩, ?_, ?_, a6⟩
  · rw [a1, if_neg (fun q => h0 q.1)]; rfl
  · rw [a4, if_neg h0]
  · rw [a5, if_neg (fun q => h0 q.1)]
theorem x_tdS {I : Nat} (x : RX h n T p) (e : h 1 3 = 0) (eI : h (md_dx (h 1 6)) 3 = nI I) (hm : I ≤ 8) (ck : kd n T p 0 I = 0) : ∃ h' : Mm, fX6_readToldIdea h = some (nI (nv n T p), h') ∧ RX h' n T (nz n T p) ∧ h' 1 5 = nI (sk n T p) ∧ h' 1 3 = 0 ∧ h' 1 2 = h 1 2 ∧ (∀ a j, (a ≠ 1 ∨ j ≤ 1 ∨ 6 ≤ j) → h' a j = h a j) := by
  obtain ⟨h', a1, a2⟩ := x_numS x e (show 0 ≤ 1 by omega) (show I ≤ 1000 by omega) ck
  exact ⟨h', by rw [fX6_readToldIdea, eI, show (0 : Int32) = nI 0 from rfl, a1, b2_s], a2⟩
theorem x_tdF {I : Nat} (x : RX h n T p) (e : h 1 3 = 0) (eI : h (md_dx (h 1 6)) 3 = nI I) (hm : I ≤ 8) (ck : kd n T p 0 I ≠ 0) : ∃ h' : Mm, fX6_readToldIdea h = some (0, h') ∧ (∃ p', RX h' n T p') ∧ h' 1 3 = nI (kd n T p 0 I) ∧ h' 1 2 = nI (sk n T p) ∧ (∀ a j, (a ≠ 1 ∨ j ≤ 1 ∨ 6 ≤ j) → h' a j = h a j) := by
  obtain ⟨h', a1, a2⟩ := x_numF x e (show 0 ≤ 1 by omega) (show I ≤ 1000 by omega) ck
  exact ⟨h', by rw [fX6_readToldIdea, eI, show (0 : Int32) = nI 0 from rfl, a1, b2_s]; rfl, a2⟩
theorem x_tdD {f I : Nat} (x : ∃ p, RX h n T p) (e : h 1 3 = nI f) (eI : h (md_dx (h 1 6)) 3 = nI I) (hm : I ≤ 8) (h0 : f ≠ 0) (hf : f ≤ 4) : ∃ h' : Mm, fX6_readToldIdea h = some (0, h') ∧ (∃ p', RX h' n T p') ∧ h' 1 3 = nI f ∧ h' 1 2 = h 1 2 ∧ (∀ a j, (a ≠ 1 ∨ j ≤ 1 ∨ 6 ≤ j) → h' a j = h a j) := by
  obtain ⟨h', a1, a2⟩ := x_numD x e h0 hf (show 0 ≤ 1 by omega) (show I ≤ 1000 by omega)
  exact ⟨h', by rw [fX6_readToldIdea, eI, show (0 : Int32) = nI 0 from rfl, a1, b2_s]; rfl, a2⟩
theorem x_ffd {f : Nat} (e : h 1 3 = nI f) (h0 : f ≠ 0) (hf : f ≤ 4) (k l : Int32) : fX6_findFault h k l = some h := by
  rw [fX6_findFault, e, if_neg (nI_ne0 (by omega) (by omega)), bd_s]
theorem m_intoS {a1 n1 i : Nat} (x : RM h n T p) (hlo : lo ≤ 1) (hm : m ≤ 1000) (hi : i < n1) (h1 : n1 ≤ 1000) (ha : 94 ≤ a1) (ck : kd n T p lo m = 0) : ∃ h' : Mm, fX8_into h a1 n1 (nI i) (nI lo) (nI m - 1) = some (0, h') ∧ RM h' n T (nz n T p) ∧ h' 84 17 = h 84 17 ∧ h' 84 20 = nI (sk n T p) ∧ h' a1 i = nI (nv n T p) ∧ (∀ a j, (a ≠ 84 ∨ j < 17 ∨ 20 < j) → (a ≠ a1 ∨ j ≠ i) → h' a j = h a j) := by
  obtain ⟨g, b1, b2, b3, b4, b5⟩ := m_num x hlo hm
  obtain ⟨c1, c2⟩ := b4 ck
  rw [fX8_into, b1, b2_s, in_t hi h1, ck_t, lt_e, nI_c (by omega), c1, ck]
  exact ⟨_, rfl, RM_t (fun a j _ => u_nn _ _ _ _ (by omega)) b2, by rw [u_nn _ _ _ _ (by omega), b3, if_pos ck], by rw [u_nn _ _ _ _ (by omega)]; exact c2, by rw [u_ss], fun a j q1 q2 => by rw [u_f _ _ q2, b5 a j q1]⟩
theorem m_intoF {a1 n1 i : Nat} (x : RM h n T p) (hlo : lo ≤ 1) (hm : m ≤ 1000) (hi : i < n1) (h1 : n1 ≤ 1000) (ha : 94 ≤ a1) (ck : kd n T p lo m ≠ 0) : ∃ h' : Mm, fX8_into h a1 n1 (nI i) (nI lo) (nI m - 1) = some (nI (kd n T p lo m), h') ∧ h' 84 17 = nI (sk n T p) ∧ (∀ a j, (a ≠ 84 ∨ j < 17 ∨ 20 < j) → (a ≠ a1 ∨ j ≠ i) → h' a j = h a j) := by
  obtain ⟨g, b1, b2, b3, b4, b5⟩ := m_num x hlo hm
  rw [fX8_into, b1, b2_s, in_t hi h1, ck_t, lt_e, nI_c (by omega)]
  exact ⟨_, rfl, by rw [u_nn _ _ _ _ (by omega), b3, if_neg ck], fun a j q1 q2 => by rw [u_f _ _ q2, b5 a j q1]⟩
end NU
def JP (n : Nat) (T : Nat → Nat) (c : Nat) (A : Ab) (R : Nat) (M : Nat → Nat) (p : Nat) (hx hm : Mm) : Prop := WK A R M ∧ KX hx c A R M ∧ KM hm A R M ∧ RX hx n T p ∧ RM hm n T p ∧ hx 1 3 = 0 ∧ md_dx (hx 1 6) = c ∧ (c = 3 ∨ c = 74)
def FX (c : Nat) (h h' : Mm) : Prop := ∀ a j, (a ≠ 1 ∨ j ≤ 1 ∨ 6 ≤ j) → (a < c ∨ c + 8 < a) → h' a j = h a j
def FM (h h' : Mm) : Prop := ∀ a j, (a ≠ 84 ∨ j < 17 ∨ 33 < j) → (a < 94 ∨ 102 < a) → h' a j = h a j
def OC (n : Nat) (T : Nat → Nat) (c p : Nat) (hx hm hx' hm' : Mm) (f : Nat) : Prop := FX c hx hx' ∧ FM hm hm' ∧ ((f = 0 ∧ hx' 1 2 = hx 1 2 ∧ hm' 84 17 = hm 84 17 ∧ ∃ A R M p', p ≤ p' ∧ JP n T c A R M p' hx' hm') ∨ (f ≠ 0 ∧ f ≤ 4 ∧ hx' 1 3 = nI f ∧ hx' 1 2 = hm' 84 17 ∧ ∃ p', RX hx' n T p'))
section BO
variable {n c R p : Nat} {T M : Nat → Nat} {A : Ab} {hx hm : Mm}
theorem n_999 : (999 : Int32) = nI 1000 - 1 := by decide
theorem n_99 : (99 : Int32) = nI 100 - 1 := by decide
theorem b_idea (j : JP n T c A R M p hx hm) (hI : A 0 2 < 8) : ∃ hx' hm' f, fX6_readIdea hx = some hx' ∧ fX8_takeIdea hm = some (nI f, hm') ∧ OC n T c p hx hm hx' hm' f := by
  obtain ⟨w, kx, km, rx, rm, e3, ec, hc⟩ := j
  have hb := nz_b T rx.2.1
  have hk := kd_le n T p 1 100
  have rm2 : RM (md_up hm 84 22 (nI (A 0 2 + 1))) n T p := RM_t (fun a j _ => u_f _ _ (by omega)) rm
  by_cases ck : kd n T p 1 100 = 0
  · have k0 := kd_0 ck
    obtain ⟨g, a1, a2, a3, a4, a5, a6⟩ := x_numS rx e3 (show 1 ≤ 1 by omega) (show 100 ≤ 1000 by omega) ck
    obtain ⟨k, b1, b2, b3, b4, b5, b6⟩ := m_intoS rm2 (show 1 ≤ 1 by omega) (show 100 ≤ 1000 by omega) hI (show 8 ≤ 1000 by omega) (show 94 ≤ 95 by omega) ck
    have dg : md_dx (g 1 6) = c := by rw [a6 1 6 (by omega)]; exact ec
    have eg : g c 3 = nI (A 0 2) := by rw [a6 c 3 (by omega)]; exact kx.1.2.2.1
    have a1' : fX6_readNumber hx (1 : Int32) (99 : Int32) = some (nI (nv n T p), g) := by rw [n_99]; exact a1
    have b1' : fX8_into (md_up hm 84 22 (nI (A 0 2 + 1))) 95 8 (nI (A 0 2)) (1 : Int32) (99 : Int32) = some (0, k) := by rw [n_99]; exact b1
    refine ⟨md_up (md_up g (c + 1) (A 0 2) (nI (nv n T p))) c 3 (nI (A 0 2 + 1)), k, 0, ?_, ?_, fun a j q1 q2 => ?_, fun a j q1 q2 => ?_, .inl ⟨rfl, ?_, ?_, iA A (nv n T p), R, M, nz n T p, by omega, WK_i w hI (by omega) (by omega), KX_i kx ?_ ?_ ?_, KM_i km ?_ ?_ ?_, ?_, b2, ?_, ?_, hc⟩⟩
    · rw [fX6_readIdea, a1', b2_s, a4, if_pos rfl, dg, eg, in_t (by omega) (by omega), ck_t, lt_e, nI_c (by omega), u_nn _ _ _ _ (show 1 ≠ c + 1 by omega), dg, u_nn _ _ _ _ (show c ≠ c + 1 by omega), eg, nI_1, lt_e, bd_s]
    · rw [fX8_takeIdea, km.2.2.1, lt_e, lt_e, nI_1, b1', b2_s]; rfl
    · rw [u_nn _ _ _ _ (by omega), u_nn _ _ _ _ (by omega), a6 a j q1]
    · rw [b6 a j (by omega) (by omega), u_f _ _ (by omega)]
    · rw [u_nn _ _ _ _ (by omega), u_nn _ _ _ _ (by omega), a5]
    · rw [b3, u_sn _ _ _ (by omega)]
    · intro a j q1 q2 q3 q4
      rw [u_f _ _ q3, u_f _ _ q4, a6 a j (by omega)]
    · rw [u_ss]
    · rw [u_nn _ _ _ _ (by omega), u_ss]
    · intro a j q1 q2 q3
      rw [b6 a j (by omega) q3, u_f _ _ q2]
    · rw [b6 84 22 (by omega) (by omega), u_ss]
    · exact b5
    · exact RX_t (fun a j _ => by rw [u_nn _ _ _ _ (by omega), u_nn _ _ _ _ (by omega)]) a2
    · rw [u_nn _ _ _ _ (by omega), u_nn _ _ _ _ (by omega), a4]
    · rw [u_nn _ _ _ _ (by omega), u_nn _ _ _ _ (by omega)]; exact dg
  · obtain ⟨g, a1, a2, a3, a4, a5⟩ := x_numF rx e3 (show 1 ≤ 1 by omega) (show 100 ≤ 1000 by omega) ck
    obtain ⟨k, b1, b2, b3⟩ := m_intoF rm2 (show 1 ≤ 1 by omega) (show 100 ≤ 1000 by omega) hI (show 8 ≤ 1000 by omega) (show 94 ≤ 95 by omega) ck
    have a1' : fX6_readNumber hx (1 : Int32) (99 : Int32) = some (0, g) := by rw [n_99]; exact a1
    have b1' : fX8_into (md_up hm 84 22 (nI (A 0 2 + 1))) 95 8 (nI (A 0 2)) (1 : Int32) (99 : Int32) = some (nI (kd n T p 1 100), k) := by rw [n_99]; exact b1
    refine ⟨g, k, kd n T p 1 100, ?_, ?_, fun a j q1 q2 => a5 a j q1, fun a j q1 q2 => ?_, .inr ⟨ck, by omega, a3, by rw [a4, b2], a2⟩⟩
    · rw [fX6_readIdea, a1', b2_s, a3, if_neg (nI_ne0 (by omega) (by omega)), bd_s]
    · rw [fX8_takeIdea, km.2.2.1, lt_e, lt_e, nI_1, b1', b2_s]
    · rw [b3 a j (by omega) (by omega), u_f _ _ (by omega)]
theorem b_trav (j : JP n T c A R M p hx hm) (hI : A 0 5 < 5) : ∃ hx' hm' f, fX6_readTraveller hx = some hx' ∧ fX8_takeTraveller hm = some (nI f, hm') ∧ OC n T c p hx hm hx' hm' f := by
  obtain ⟨w, kx, km, rx, rm, e3, ec, hc⟩ := j
  have hb := nz_b T rx.2.1
  have h8 := w.1.2.2.1
  have hp := pw_le h8
  have hk := kd_le n T p 0 (2 ^ A 0 2)
  have rm2 : RM (md_up hm 84 33 (nI (A 0 5 + 1))) n T p := RM_t (fun a j _ => u_f _ _ (by omega)) rm
  by_cases ck : kd n T p 0 (2 ^ A 0 2) = 0
  · have k0 := kd_0 ck
    obtain ⟨g, a1, a2, a3, a4, a5, a6⟩ := x_numS rx e3 (show 0 ≤ 1 by omega) (show 2 ^ A 0 2 ≤ 1000 by omega) ck
    obtain ⟨k, b1, b2, b3, b4, b5, b6⟩ := m_intoS rm2 (show 0 ≤ 1 by omega) (show 2 ^ A 0 2 ≤ 1000 by omega) hI (show 5 ≤ 1000 by omega) (show 94 ≤ 102 by omega) ck
    have dg : md_dx (g 1 6) = c := by rw [a6 1 6 (by omega)]; exact ec
    have eg : g c 14 = nI (A 0 5) := by rw [a6 c 14 (by omega)]; exact kx.1.2.2.2.2.2.1
    have a1' : fX6_readNumber hx (0 : Int32) (nI (2 ^ A 0 2) - 1) = some (nI (nv n T p), g) := a1
    have b1' : fX8_into (md_up hm 84 33 (nI (A 0 5 + 1))) 102 5 (nI (A 0 5)) (0 : Int32) (nI (2 ^ A 0 2) - 1) = some (0, k) := b1
    refine ⟨md_up (md_up g (c + 8) (A 0 5) (nI (nv n T p))) c 14 (nI (A 0 5 + 1)), k, 0, ?_, ?_, fun a j q1 q2 => ?_, fun a j q1 q2 => ?_, .inl ⟨rfl, ?_, ?_, tA A, R, uB M (A 0 5) (nv n T p), nz n T p, by omega, WK_r w hI k0.2.1, KX_r kx ?_ ?_ ?_, KM_r km ?_ ?_ ?_, ?_, b2, ?_, ?_, hc⟩⟩
    · rw [fX6_readTraveller, ec, kx.1.2.2.1, n_shl _ (by omega), a1', b2_s, a4, if_pos rfl, dg, eg, in_t (by omega) (by omega), ck_t, lt_e, nI_c (by omega), u_nn _ _ _ _ (show 1 ≠ c + 8 by omega), dg, u_nn _ _ _ _ (show c ≠ c + 8 by omega), eg, nI_1, lt_e, bd_s]
    · rw [fX8_takeTraveller, km.2.2.2.2.2.1, lt_e, lt_e, nI_1, u_sn _ _ _ (show 22 ≠ 33 by omega), km.2.2.1, n_shl _ (by omega), b1', b2_s]; rfl
    · rw [u_nn _ _ _ _ (by omega), u_nn _ _ _ _ (by omega), a6 a j q1]
    · rw [b6 a j (by omega) (by omega), u_f _ _ (by omega)]
    · rw [u_nn _ _ _ _ (by omega), u_nn _ _ _ _ (by omega), a5]
    · rw [b3, u_sn _ _ _ (by omega)]
    · intro a j q1 q2 q3 q4
      rw [u_f _ _ q3, u_f _ _ q4, a6 a j (by omega)]
    · rw [u_ss]
    · rw [u_nn _ _ _ _ (by omega), u_ss]
    · intro a j q1 q2 q3
      rw [b6 a j (by omega) q3, u_f _ _ q2]
    · rw [b6 84 33 (by omega) (by omega), u_ss]
    · exact b5
    · exact RX_t (fun a j _ => by rw [u_nn _ _ _ _ (by omega), u_nn _ _ _ _ (by omega)]) a2
    · rw [u_nn _ _ _ _ (by omega), u_nn _ _ _ _ (by omega), a4]
    · rw [u_nn _ _ _ _ (by omega), u_nn _ _ _ _ (by omega)]; exact dg
  · obtain ⟨g, a1, a2, a3, a4, a5⟩ := x_numF rx e3 (show 0 ≤ 1 by omega) (show 2 ^ A 0 2 ≤ 1000 by omega) ck
    obtain ⟨k, b1, b2, b3⟩ := m_intoF rm2 (show 0 ≤ 1 by omega) (show 2 ^ A 0 2 ≤ 1000 by omega) hI (show 5 ≤ 1000 by omega) (show 94 ≤ 102 by omega) ck
    have a1' : fX6_readNumber hx (0 : Int32) (nI (2 ^ A 0 2) - 1) = some (0, g) := a1
    have b1' : fX8_into (md_up hm 84 33 (nI (A 0 5 + 1))) 102 5 (nI (A 0 5)) (0 : Int32) (nI (2 ^ A 0 2) - 1) = some (nI (kd n T p 0 (2 ^ A 0 2)), k) := b1
    refine ⟨g, k, kd n T p 0 (2 ^ A 0 2), ?_, ?_, fun a j q1 q2 => a5 a j q1, fun a j q1 q2 => ?_, .inr ⟨ck, by omega, a3, by rw [a4, b2], a2⟩⟩
    · rw [fX6_readTraveller, ec, kx.1.2.2.1, n_shl _ (by omega), a1', b2_s, a3, if_neg (nI_ne0 (by omega) (by omega)), bd_s]
    · rw [fX8_takeTraveller, km.2.2.2.2.2.1, lt_e, lt_e, nI_1, u_sn _ _ _ (show 22 ≠ 33 by omega), km.2.2.1, n_shl _ (by omega), b1', b2_s]
    · rw [b3 a j (by omega) (by omega), u_f _ _ (by omega)]
theorem b_gate (j : JP n T c A R M p hx hm) : ∃ hx' hm' f, fX6_readGate hx = some hx' ∧ fX8_takeGate hm = some (nI f, hm') ∧ OC n T c p hx hm hx' hm' f := by
  obtain ⟨w, kx, km, rx, rm, e3, ec, hc⟩ := j
  have hb := nz_b T rx.2.1
  have hk := kd_le n T p 1 1000
  by_cases ck : kd n T p 1 1000 = 0
  · have k0 := kd_0 ck
    obtain ⟨g, a1, a2, a3, a4, a5, a6⟩ := x_numS rx e3 (show 1 ≤ 1 by omega) (show 1000 ≤ 1000 by omega) ck
    obtain ⟨k, b1, b2, b3, b4, b5, b6⟩ := m_intoS (a1 := 94) (n1 := 2) (i := 0) rm (show 1 ≤ 1 by omega) (show 1000 ≤ 1000 by omega) (by omega) (by omega) (by omega) ck
    have a1' : fX6_readNumber hx (1 : Int32) (999 : Int32) = some (nI (nv n T p), g) := by rw [n_999]; exact a1
    have b1' : fX8_into hm 94 2 (0 : Int32) (1 : Int32) (999 : Int32) = some (0, k) := by rw [n_999]; exact b1
    have rx2 : RX (md_up g c 1 (nI (nv n T p))) n T (nz n T p) := RX_t (fun a j _ => u_nn _ _ _ _ (by omega)) a2
    have e32 : md_up g c 1 (nI (nv n T p)) 1 3 = 0 := by rw [u_nn _ _ _ _ (by omega)]; exact a4
    have dg : md_dx (md_up g c 1 (nI (nv n T p)) 1 6) = c := by rw [u_nn _ _ _ _ (by omega), a6 1 6 (by omega)]; exact ec
    have hb2 := nz_b T a2.2.1
    have hk2 := kd_le n T (nz n T p) 0 100
    by_cases ck2 : kd n T (nz n T p) 0 100 = 0
    · have k02 := kd_0 ck2
      obtain ⟨g2, c1, c2, c3, c4, c5, c6⟩ := x_numS rx2 e32 (show 0 ≤ 1 by omega) (show 100 ≤ 1000 by omega) ck2
      obtain ⟨k2, d1, d2, d3, d4, d5, d6⟩ := m_intoS (a1 := 94) (n1 := 2) (i := 1) b2 (show 0 ≤ 1 by omega) (show 100 ≤ 1000 by omega) (by omega) (by omega) (by omega) ck2
      have c1' : fX6_readNumber (md_up g c 1 (nI (nv n T p))) (0 : Int32) (99 : Int32) = some (nI (nv n T (nz n T p)), g2) := by rw [n_99]; exact c1
      have d1' : fX8_into k 94 2 (1 : Int32) (0 : Int32) (99 : Int32) = some (0, k2) := by rw [n_99]; exact d1
      have dg2 : md_dx (g2 1 6) = c := by rw [c6 1 6 (by omega)]; exact dg
      refine ⟨md_up (md_up g2 c 2 (nI (nv n T (nz n T p)))) c 0 1, k2, 0, ?_, ?_, fun a j q1 q2 => ?_, fun a j q1 q2 => ?_, .inl ⟨rfl, ?_, ?_, gA A (nv n T p) (nv n T (nz n T p)), R, M, nz n T (nz n T p), by omega, WK_g w (by omega) (by omega), KX_g kx (by omega) ?_ ?_ ?_ ?_, KM_g km ?_ ?_ ?_, ?_, d2, ?_, ?_, hc⟩⟩
      · rw [fX6_readGate, a1', b2_s, ec, lt_e, c1', b2_s, dg, lt_e, u_nn _ _ _ _ (show 1 ≠ c by omega), dg2, lt_e]
      · rw [fX8_takeGate, b1', b2_s, if_pos (by decide), d1', b2_s, b2_s]; rfl
      · rw [u_nn _ _ _ _ (by omega), u_nn _ _ _ _ (by omega), c6 a j q1, u_nn _ _ _ _ (by omega), a6 a j q1]
      · rw [d6 a j (by omega) (by omega), b6 a j (by omega) (by omega)]
      · rw [u_nn _ _ _ _ (by omega), u_nn _ _ _ _ (by omega), c5, u_nn _ _ _ _ (by omega), a5]
      · rw [d3, b3]
      · intro a j q1 q2 q3
        rw [u_f _ _ (by omega), u_f _ _ (by omega), c6 a j (by omega), u_f _ _ (by omega), a6 a j (by omega)]
      · rw [u_ss]
      · rw [u_sn _ _ _ (by omega), u_sn _ _ _ (by omega), c6 c 1 (by omega), u_ss]
      · rw [u_sn _ _ _ (by omega), u_ss]
      · intro a j q
        rw [d6 a j (by omega) (by omega), b6 a j (by omega) (by omega)]
      · rw [d6 94 0 (by omega) (by omega)]; exact b5
      · exact d5
      · exact RX_t (fun a j _ => by rw [u_nn _ _ _ _ (by omega), u_nn _ _ _ _ (by omega)]) c2
      · rw [u_nn _ _ _ _ (by omega), u_nn _ _ _ _ (by omega), c4]
      · rw [u_nn _ _ _ _ (by omega), u_nn _ _ _ _ (by omega)]; exact dg2
    · obtain ⟨g2, c1, c2, c3, c4, c5⟩ := x_numF rx2 e32 (show 0 ≤ 1 by omega) (show 100 ≤ 1000 by omega) ck2
      obtain ⟨k2, d1, d2, d3⟩ := m_intoF (a1 := 94) (n1 := 2) (i := 1) b2 (show 0 ≤ 1 by omega) (show 100 ≤ 1000 by omega) (by omega) (by omega) (by omega) ck2
      have c1' : fX6_readNumber (md_up g c 1 (nI (nv n T p))) (0 : Int32) (99 : Int32) = some (0, g2) := by rw [n_99]; exact c1
      have d1' : fX8_into k 94 2 (1 : Int32) (0 : Int32) (99 : Int32) = some (nI (kd n T (nz n T p) 0 100), k2) := by rw [n_99]; exact d1
      have dg2 : md_dx (g2 1 6) = c := by rw [c5 1 6 (by omega)]; exact dg
      obtain ⟨p2, c2⟩ := c2
      refine ⟨md_up (md_up g2 c 2 0) c 0 1, k2, kd n T (nz n T p) 0 100, ?_, ?_, fun a j q1 q2 => ?_, fun a j q1 q2 => ?_, .inr ⟨ck2, by omega, ?_, ?_, p2, ?_⟩⟩
      · rw [fX6_readGate, a1', b2_s, ec, lt_e, c1', b2_s, dg, lt_e, u_nn _ _ _ _ (show 1 ≠ c by omega), dg2, lt_e]
      · rw [fX8_takeGate, b1', b2_s, if_pos (by decide), d1', b2_s, b2_s]
      · rw [u_nn _ _ _ _ (by omega), u_nn _ _ _ _ (by omega), c5 a j q1, u_nn _ _ _ _ (by omega), a6 a j q1]
      · rw [d3 a j (by omega) (by omega), b6 a j (by omega) (by omega)]
      · rw [u_nn _ _ _ _ (by omega), u_nn _ _ _ _ (by omega), c3]
      · rw [u_nn _ _ _ _ (by omega), u_nn _ _ _ _ (by omega), c4, d2]
      · exact RX_t (fun a j _ => by rw [u_nn _ _ _ _ (by omega), u_nn _ _ _ _ (by omega)]) c2
  · obtain ⟨g, a1, a2, a3, a4, a5⟩ := x_numF rx e3 (show 1 ≤ 1 by omega) (show 1000 ≤ 1000 by omega) ck
    obtain ⟨k, b1, b2, b3⟩ := m_intoF (a1 := 94) (n1 := 2) (i := 0) rm (show 1 ≤ 1 by omega) (show 1000 ≤ 1000 by omega) (by omega) (by omega) (by omega) ck
    have a1' : fX6_readNumber hx (1 : Int32) (999 : Int32) = some (0, g) := by rw [n_999]; exact a1
    have b1' : fX8_into hm 94 2 (0 : Int32) (1 : Int32) (999 : Int32) = some (nI (kd n T p 1 1000), k) := by rw [n_999]; exact b1
    obtain ⟨p1, a2⟩ := a2
    have rx2 : ∃ p', RX (md_up g c 1 0) n T p' := ⟨p1, RX_t (fun a j _ => u_nn _ _ _ _ (by omega)) a2⟩
    have e32 : md_up g c 1 0 1 3 = nI (kd n T p 1 1000) := by rw [u_nn _ _ _ _ (by omega)]; exact a3
    have dg : md_dx (md_up g c 1 0 1 6) = c := by rw [u_nn _ _ _ _ (by omega), a5 1 6 (by omega)]; exact ec
    obtain ⟨g2, c1, c2, c3, c4, c5⟩ := x_numD rx2 e32 ck (by omega) (show 0 ≤ 1 by omega) (show 100 ≤ 1000 by omega)
    have c1' : fX6_readNumber (md_up g c 1 0) (0 : Int32) (99 : Int32) = some (0, g2) := by rw [n_99]; exact c1
    have dg2 : md_dx (g2 1 6) = c := by rw [c5 1 6 (by omega)]; exact dg
    obtain ⟨p2, c2⟩ := c2
    refine ⟨md_up (md_up g2 c 2 0) c 0 1, k, kd n T p 1 1000, ?_, ?_, fun a j q1 q2 => ?_, fun a j q1 q2 => ?_, .inr ⟨ck, by omega, ?_, ?_, p2, ?_⟩⟩
    · rw [fX6_readGate, a1', b2_s, ec, lt_e, c1', b2_s, dg, lt_e, u_nn _ _ _ _ (show 1 ≠ c by omega), dg2, lt_e]
    · rw [fX8_takeGate, b1', b2_s, if_neg (nI_nle (by omega) (by omega)), b2_s]
    · rw [u_nn _ _ _ _ (by omega), u_nn _ _ _ _ (by omega), c5 a j q1, u_nn _ _ _ _ (by omega), a5 a j q1]
    · rw [b3 a j (by omega) (by omega)]
    · rw [u_nn _ _ _ _ (by omega), u_nn _ _ _ _ (by omega), c3]
    · rw [u_nn _ _ _ _ (by omega), u_nn _ _ _ _ (by omega), c4, u_nn _ _ _ _ (by omega), a4, b2]
    · exact RX_t (fun a j _ => by rw [u_nn _ _ _ _ (by omega), u_nn _ _ _ _ (by omega)]) c2
end BO
