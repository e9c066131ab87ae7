/-! the text: blanks, letters, numbers -/
def skF (T : Nat → Nat) : Nat → Nat → Nat
  | 0, p => p
  | k + 1, p => if T p = 32 then skF T k (p + 1) else p
def sk (n : Nat) (T : Nat → Nat) (p : Nat) : Nat := skF T (n - p) p
theorem skF_b (T : Nat → Nat) : ∀ k p, p ≤ skF T k p ∧ skF T k p ≤ p + k ∧ (skF T k p < p + k → T (skF T k p) ≠ 32) := by
  intro k
  induction k with
  | zero => intro p; exact ⟨Nat.le_refl _, Nat.le_refl _, fun q => by simp [skF] at q⟩
  | succ k ih =>
    intro p
    rw [skF]
    by_cases c : T p = 32
    · rw [if_pos c]
      have := ih (p + 1)
      exact ⟨by omega, by omega, fun q => this.2.2 (by omega)⟩
    · rw [if_neg c]
      exact ⟨by omega, by omega, fun _ => c⟩
theorem sk_b {n : Nat} (T : Nat → Nat) {p : Nat} (hp : p ≤ n) : p ≤ sk n T p ∧ sk n T p ≤ n ∧ (sk n T p < n → T (sk n T p) ≠ 32) := by
  have := skF_b T (n - p) p
  unfold sk
  exact ⟨this.1, by omega, fun q => this.2.2 (by omega)⟩
theorem sk_id {n : Nat} (T : Nat → Nat) {p : Nat} (hp : p ≤ n) : sk n T (sk n T p) = sk n T p := by
  have h1 := sk_b T hp
  generalize sk n T p = q at h1
  unfold sk
  cases e : n - q with
  | zero => rfl
  | succ k => rw [skF, if_neg (h1.2.2 (by omega))]
def ltr (n : Nat) (T : Nat → Nat) (q : Nat) : Int32 := if q < n then nI (T q) else -1
def neF (T : Nat → Nat) : Nat → Nat → Nat
  | 0, p => p
  | k + 1, p => if 48 ≤ T p ∧ T p ≤ 57 then neF T k (p + 1) else p
def vlF (T : Nat → Nat) : Nat → Nat → Nat → Nat
  | 0, _, v => v
  | k + 1, p, v => if 48 ≤ T p ∧ T p ≤ 57 then vlF T k (p + 1) (v * 10 + (T p - 48)) else v
theorem neF_b (T : Nat → Nat) : ∀ k p, p ≤ neF T k p ∧ neF T k p ≤ p + k := by
  intro k
  induction k with
  | zero => intro p; exact ⟨Nat.le_refl _, Nat.le_refl _⟩
  | succ k ih =>
    intro p
    rw [neF]
    have := ih (p + 1)
    split <;> omega
def RX (h : Mm) (n : Nat) (T : Nat → Nat) (p : Nat) : Prop := n ≤ 240 ∧ p ≤ n ∧ (∀ i, i < n → T i ≤ 255) ∧ h 1 1 = nI n ∧ h 1 4 = nI p ∧ ∀ i, i < n → h 2 i = nI (T i)
def RM (h : Mm) (n : Nat) (T : Nat → Nat) (p : Nat) : Prop := n ≤ 240 ∧ p ≤ n ∧ (∀ i, i < n → T i ≤ 255) ∧ h 84 16 = nI n ∧ h 84 18 = nI p ∧ ∀ i, i < n → h 93 i = nI (T i)
theorem RX_p {h h' : Mm} {n p p' : Nat} {T : Nat → Nat} (x : RX h n T p) (hp : p' ≤ n) (e : h' 1 4 = nI p') (f : ∀ a j, (a = 1 ∧ j = 1 ∨ a = 2) → h' a j = h a j) : RX h' n T p' :=
  ⟨x.1, hp, x.2.2.1, by rw [f 1 1 (by omega)]; exact x.2.2.2.1, e, fun i hi => by rw [f 2 i (by omega)]; exact x.2.2.2.2.2 i hi⟩
theorem RM_p {h h' : Mm} {n p p' : Nat} {T : Nat → Nat} (x : RM h n T p) (hp : p' ≤ n) (e : h' 84 18 = nI p') (f : ∀ a j, (a = 84 ∧ j = 16 ∨ a = 93) → h' a j = h a j) : RM h' n T p' :=
  ⟨x.1, hp, x.2.2.1, by rw [f 84 16 (by omega)]; exact x.2.2.2.1, e, fun i hi => by rw [f 93 i (by omega)]; exact x.2.2.2.2.2 i hi⟩
theorem RX_t {h h' : Mm} {n p : Nat} {T : Nat → Nat} (f : ∀ a j, (a = 1 ∧ (j = 1 ∨ j = 4) ∨ a = 2) → h' a j = h a j) (x : RX h n T p) : RX h' n T p := RX_p x x.2.1 (by rw [f 1 4 (by omega)]; exact x.2.2.2.2.1) (fun a j _ => f a j (by omega))
theorem RM_t {h h' : Mm} {n p : Nat} {T : Nat → Nat} (f : ∀ a j, (a = 84 ∧ (j = 16 ∨ j = 18) ∨ a = 93) → h' a j = h a j) (x : RM h n T p) : RM h' n T p := RM_p x x.2.1 (by rw [f 84 18 (by omega)]; exact x.2.2.2.2.1) (fun a j _ => f a j (by omega))
theorem x_sk0 {n : Nat} {T : Nat → Nat} : ∀ k p (h : Mm) F, p + k = n → k < F → RX h n T p → ∃ h' : Mm, fX6_skipBlanks_0 F h = some h' ∧ RX h' n T (skF T k p) ∧ (∀ a j, (a ≠ 1 ∨ j ≠ 4) → h' a j = h a j) := by
  intro k
  induction k with
  | zero =>
    intro p h F hp hF x
    obtain ⟨F, rfl⟩ : ∃ G, F = G + 1 := ⟨F - 1, by omega⟩
    have hn := x.1
    rw [fX6_skipBlanks_0, x.2.2.2.1, x.2.2.2.2.1, if_pos ((n_le (by omega) (by omega)).mpr (by omega))]
    exact ⟨h, rfl, x, fun _ _ _ => rfl⟩
  | succ k ih =>
    intro p h F hp hF x
    obtain ⟨F, rfl⟩ : ∃ G, F = G + 1 := ⟨F - 1, by omega⟩
    have hn := x.1
    have ht := x.2.2.1 p (by omega)
    rw [fX6_skipBlanks_0, x.2.2.2.1, x.2.2.2.2.1, if_neg (by rw [n_le (by omega) (by omega)]; omega), show (240 : Int32) = nI 240 from rfl, if_neg (by rw [n_le (by omega) (by omega)]; omega), in_t (by omega) (by omega), ck_t, nI_c (by omega), x.2.2.2.2.2 p (by omega), show (32 : Int32) = nI 32 from rfl, skF]
    simp only [n_eq (show T p < 1000000001 by omega) (show 32 < 1000000001 by omega)]
    by_cases c : T p = 32
    · rw [if_pos c, if_pos c, lt_e, nI_1]
      obtain ⟨h', e1, e2, e3⟩ := ih (p + 1) (md_up h 1 4 (nI (p + 1))) F (by omega) (by omega) (RX_p x (by omega) (u_ss _ _ _ _) (fun a j _ => u_f _ _ (by omega)))
      exact ⟨h', e1, e2, fun a j q => by rw [e3 a j q, u_f _ _ q]⟩
    · rw [if_neg c, if_neg c]
      exact ⟨h, rfl, x, fun _ _ _ => rfl⟩
theorem x_skip {h : Mm} {n p : Nat} {T : Nat → Nat} (x : RX h n T p) : ∃ h' : Mm, fX6_skipBlanks h = some h' ∧ RX h' n T (sk n T p) ∧ (∀ a j, (a ≠ 1 ∨ j ≠ 4) → h' a j = h a j) := by
  have h1 := x.1
  have h2 := x.2.1
  obtain ⟨h', e1, e2, e3⟩ := x_sk0 (n - p) p h md_N (by omega) (by unfold md_N; omega) x
  rw [fX6_skipBlanks, e1, bd_s]
  exact ⟨h', rfl, e2, e3⟩
theorem x_letter {h : Mm} {n p : Nat} {T : Nat → Nat} (x : RX h n T p) : fX6_letterHere h = some (ltr n T p) := by
  have h1 := x.1
  have h2 := x.2.1
  rw [fX6_letterHere, x.2.2.2.1, x.2.2.2.2.1, if_neg (nI_pos (by omega)), ltr]
  by_cases c : p < n
  · rw [if_neg (by rw [n_le (by omega) (by omega)]; omega), show (240 : Int32) = nI 240 from rfl, if_neg (by rw [n_le (by omega) (by omega)]; omega), in_t (by omega) (by omega), ck_t, nI_c (by omega), x.2.2.2.2.2 p c, bd_s, if_pos c]
  · rw [if_pos ((n_le (by omega) (by omega)).mpr (by omega)), bd_s, if_neg c]
theorem m_sk0 {n : Nat} {T : Nat → Nat} : ∀ k p (h : Mm) F, p + k = n → k < F → RM h n T p → ∃ h' : Mm, fX8_here_0 F h = some h' ∧ RM h' n T (skF T k p) ∧ (∀ a j, (a ≠ 84 ∨ j ≠ 18) → h' a j = h a j) := by
  intro k
  induction k with
  | zero =>
    intro p h F hp hF x
    obtain ⟨F, rfl⟩ : ∃ G, F = G + 1 := ⟨F - 1, by omega⟩
    have hn := x.1
    rw [fX8_here_0, x.2.2.2.1, x.2.2.2.2.1, if_pos ((n_le (by omega) (by omega)).mpr (by omega))]
    exact ⟨h, rfl, x, fun _ _ _ => rfl⟩
  | succ k ih =>
    intro p h F hp hF x
    obtain ⟨F, rfl⟩ : ∃ G, F = G + 1 := ⟨F - 1, by omega⟩
    have hn := x.1
    have ht := x.2.2.1 p (by omega)
    rw [fX8_here_0, x.2.2.2.1, x.2.2.2.2.1, if_neg (by rw [n_le (by omega) (by omega)]; omega), in_t (by omega) (by omega), ck_t, nI_c (by omega), x.2.2.2.2.2 p (by omega), show (32 : Int32) = nI 32 from rfl, skF]
    simp only [n_eq (show T p < 1000000001 by omega) (show 32 < 1000000001 by omega)]
    by_cases c : T p = 32
    · rw [if_pos c, if_pos c, lt_e, nI_1]
      obtain ⟨h', e1, e2, e3⟩ := ih (p + 1) (md_up h 84 18 (nI (p + 1))) F (by omega) (by omega) (RM_p x (by omega) (u_ss _ _ _ _) (fun a j _ => u_f _ _ (by omega)))
      exact ⟨h', e1, e2, fun a j q => by rw [e3 a j q, u_f _ _ q]⟩
    · rw [if_neg c, if_neg c]
      exact ⟨h, rfl, x, fun _ _ _ => rfl⟩
theorem m_here {h : Mm} {n p : Nat} {T : Nat → Nat} (x : RM h n T p) : ∃ h' : Mm, fX8_here h = some (ltr n T (sk n T p), h') ∧ RM h' n T (sk n T p) ∧ (∀ a j, (a ≠ 84 ∨ j ≠ 18) → h' a j = h a j) := by
  have h1 := x.1
  have h2 := x.2.1
  obtain ⟨h', e1, e2, e3⟩ := m_sk0 (n - p) p h md_N (by omega) (by unfold md_N; omega) x
  have e2' : RM h' n T (sk n T p) := e2
  have h3 := e2'.2.1
  rw [fX8_here, e1, bd_s, e2'.2.2.2.1, e2'.2.2.2.2.1, ltr]
  by_cases c : sk n T p < n
  · rw [if_neg (by rw [n_le (by omega) (by omega)]; omega), in_t (by omega) (by omega), ck_t, nI_c (by omega), e2'.2.2.2.2.2 _ c, bd_s, if_pos c]
    exact ⟨h', rfl, e2, e3⟩
  · rw [if_pos ((n_le (by omega) (by omega)).mpr (by omega)), bd_s, if_neg c]
    exact ⟨h', rfl, e2, e3⟩
theorem x_fig (h : Mm) {c : Nat} (hc : c ≤ 255) : fX6_isFigure h (nI c) = some (decide (48 ≤ c ∧ c ≤ 57)) := by
  rw [fX6_isFigure, show (48 : Int32) = nI 48 from rfl, show (57 : Int32) = nI 57 from rfl]
  simp only [n_lt (show c < 1000000001 by omega) (show 48 < 1000000001 by omega), n_lt (show 57 < 1000000001 by omega) (show c < 1000000001 by omega)]
  by_cases c1 : c < 48
  · rw [if_pos c1, bd_s, decide_eq_false (by omega)]
  · rw [if_neg c1]
    by_cases c2 : 57 < c
    · rw [if_pos c2, bd_s, decide_eq_false (by omega)]
    · rw [if_neg c2, bd_s, decide_eq_true (by omega)]
theorem x_nu {n : Nat} {T : Nat → Nat} (l1 l2 : Int32) : ∀ k p v (h : Mm) F, p + k = n → k < F → RX h n T p → ∃ h' : Mm, fX6_readNumber_14 F h l1 l2 (nI (min 1000 v)) = some (nI (min 1000 (vlF T k p v)), h') ∧ RX h' n T (neF T k p) ∧ (∀ a j, (a ≠ 1 ∨ j ≠ 4) → h' a j = h a j) := by
  intro k
  induction k with
  | zero =>
    intro p v h F hp hF x
    obtain ⟨F, rfl⟩ : ∃ G, F = G + 1 := ⟨F - 1, by omega⟩
    have hn := x.1
    rw [fX6_readNumber_14, x.2.2.2.1, x.2.2.2.2.1, if_pos ((n_le (by omega) (by omega)).mpr (by omega))]
    exact ⟨h, rfl, x, fun _ _ _ => rfl⟩
  | succ k ih =>
    intro p v h F hp hF x
    obtain ⟨F, rfl⟩ : ∃ G, F = G + 1 := ⟨F - 1, by omega⟩
    have hn := x.1
    have ht := x.2.2.1 p (by omega)
    have el : ltr n T p = nI (T p) := if_pos (by omega)
    rw [fX6_readNumber_14, x_letter x, el, x.2.2.2.1, x.2.2.2.2.1, if_neg (by rw [n_le (by omega) (by omega)]; omega), bd_s, x_fig h ht, bd_s, bd_s, lt_e, vlF, neF]
    by_cases c : 48 ≤ T p ∧ T p ≤ 57
    · rw [decide_eq_true c, if_pos rfl, if_pos c, if_pos c, show (10 : Int32) = nI 10 from rfl, show (48 : Int32) = nI 48 from rfl, show (1000 : Int32) = nI 1000 from rfl, pk_mul, nI_add, n_sub (by omega), lt_e, nI_1]
      have e : (if nI 1000 < nI (min 1000 v * 10 + T p - 48) then nI 1000 else nI (min 1000 v * 10 + T p - 48)) = nI (min 1000 (v * 10 + (T p - 48))) := by
        by_cases c2 : 1000 < min 1000 v * 10 + T p - 48
        · rw [if_pos ((n_lt (by omega) (by omega)).mpr c2)]; congr 1; omega
        · rw [if_neg (by rw [n_lt (by omega) (by omega)]; exact c2)]; congr 1; omega
      rw [e]
      obtain ⟨h', e1, e2, e3⟩ := ih (p + 1) (v * 10 + (T p - 48)) (md_up h 1 4 (nI (p + 1))) F (by omega) (by omega) (RX_p x (by omega) (u_ss _ _ _ _) (fun a j _ => u_f _ _ (by omega)))
      exact ⟨h', e1, e2, fun a j q => by rw [e3 a j q, u_f _ _ q]⟩
    · rw [decide_eq_false c, if_neg (by decide), if_neg c, if_neg c]
      exact ⟨h, rfl, x, fun _ _ _ => rfl⟩
def Rv (v w : Nat) : Prop := (v ≤ 10000 ∧ w = v) ∨ (10000 < v ∧ 10000 < w ∧ w ≤ 100009)
theorem m_dig (h : Mm) {c : Nat} (hc : c ≤ 255) : fX8_in h (nI c).toInt64 (48 : Int64) (57 : Int64) = some (decide (48 ≤ c ∧ c ≤ 57)) := by
  rw [show (48 : Int64) = (nI 48).toInt64 from rfl, show (57 : Int64) = (nI 57).toInt64 from rfl, m_in]
  congr 1
  apply decide_eq_decide.mpr
  rw [n_le (by omega) (by omega), n_le (by omega) (by omega)]
theorem m_nu {n : Nat} {T : Nat → Nat} (l1 l2 : Int32) : ∀ k p v w (h : Mm) F, p + k = n → k < F → RM h n T p → h 84 19 = nI w → Rv v w → ∃ (h' : Mm) (w' : Nat), fX8_takeNumber_42 F h l1 l2 = some h' ∧ RM h' n T (neF T k p) ∧ h' 84 19 = nI w' ∧ Rv (vlF T k p v) w' ∧ (∀ a j, (a ≠ 84 ∨ j ≠ 18) → (a ≠ 84 ∨ j ≠ 19) → h' a j = h a j) := by
  intro k
  induction k with
  | zero =>
    intro p v w h F hp hF x e19 hr
    obtain ⟨F, rfl⟩ : ∃ G, F = G + 1 := ⟨F - 1, by omega⟩
    have hn := x.1
    rw [fX8_takeNumber_42, x.2.2.2.1, x.2.2.2.2.1, if_pos ((n_le (by omega) (by omega)).mpr (by omega))]
    exact ⟨h, w, rfl, x, e19, hr, fun _ _ _ _ => rfl⟩
  | succ k ih =>
    intro p v w h F hp hF x e19 hr
    obtain ⟨F, rfl⟩ : ∃ G, F = G + 1 := ⟨F - 1, by omega⟩
    have hn := x.1
    have ht := x.2.2.1 p (by omega)
    have hw : w ≤ 100009 := by rcases hr with ⟨a, b⟩ | ⟨a, b, c⟩ <;> omega
    rw [fX8_takeNumber_42, x.2.2.2.1, x.2.2.2.2.1, if_neg (by rw [n_le (by omega) (by omega)]; omega), in_t (by omega) (by omega), ck_t, ck_t, nI_c (by omega), x.2.2.2.2.2 p (by omega), m_dig h ht, bd_s, vlF, neF]
    by_cases c : 48 ≤ T p ∧ T p ≤ 57
    · rw [decide_eq_true c, if_pos rfl, if_pos c, if_pos c, e19, show (10 : Int32) = nI 10 from rfl, show (48 : Int32) = nI 48 from rfl, show (10000 : Int32) = nI 10000 from rfl, pk_mul, nI_add, n_sub (by omega)]
      obtain ⟨w', hw', hr', ew⟩ : ∃ w', w' ≤ 100009 ∧ Rv (v * 10 + (T p - 48)) w' ∧ ∀ (k : Int32 → Option Mm), md_bd (if nI w ≤ nI 10000 then some (nI (10 * w + T p - 48)) else some (nI w)) k = k (nI w') := by
        by_cases c2 : w ≤ 10000
        · refine ⟨10 * w + T p - 48, by omega, ?_, fun k => by rw [if_pos ((n_le (by omega) (by omega)).mpr c2), bd_s]⟩
          rcases hr with ⟨a, b⟩ | ⟨a, b, c⟩
          · by_cases c3 : v * 10 + (T p - 48) ≤ 10000
            · exact .inl ⟨c3, by omega⟩
            · exact .inr ⟨by omega, by omega, by omega⟩
          · omega
        · refine ⟨w, by omega, ?_, fun k => by rw [if_neg (by rw [n_le (by omega) (by omega)]; exact c2), bd_s]⟩
          rcases hr with ⟨a, b⟩ | ⟨a, b, c⟩
          · omega
          · exact .inr ⟨by omega, by omega, by omega⟩
      rw [ew, lt_e, lt_e, u_sn _ _ _ (show 18 ≠ 19 by omega), x.2.2.2.2.1, nI_1]
      obtain ⟨h', w'', e1, e2, e3, e4, e5⟩ := ih (p + 1) (v * 10 + (T p - 48)) w' (md_up (md_up h 84 19 (nI w')) 84 18 (nI (p + 1))) F (by omega) (by omega) (RM_p x (by omega) (u_ss _ _ _ _) (fun a j _ => by rw [u_f _ _ (by omega), u_f _ _ (by omega)])) (by rw [u_sn _ _ _ (by omega), u_ss]) hr'
      exact ⟨h', w'', e1, e2, e3, e4, fun a j q1 q2 => by rw [e5 a j q1 q2, u_f _ _ q1, u_f _ _ q2]⟩
    · rw [decide_eq_false c, if_neg (by decide), if_neg c, if_neg c]
      exact ⟨h, w, rfl, x, e19, hr, fun _ _ _ _ => rfl⟩
