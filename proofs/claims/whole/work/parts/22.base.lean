/-! pure rows: the function's words -/
theorem bd_s {α β : Type} (a : α) (k : α → Option β) : md_bd (some a) k = k a := rfl
theorem bd_n {α β : Type} (k : α → Option β) : md_bd none k = none := rfl
theorem b2_s {α γ β : Type} (a : α) (b : γ) (k : α → γ → Option β) : md_b2 (some (a, b)) k = k a b := rfl
theorem b3_s {α γ δ β : Type} (a : α) (b : γ) (c : δ) (k : α → γ → δ → Option β) : md_b3 (some (a, b, c)) k = k a b c := rfl
theorem b4_s {α γ δ ε β : Type} (a : α) (b : γ) (c : δ) (d : ε) (k : α → γ → δ → ε → Option β) : md_b4 (some (a, b, c, d)) k = k a b c d := rfl
theorem bS_l {α γ β : Type} (a : α) (k1 : α → Option β) (k2 : γ → Option β) : md_bS (some (.inl a)) k1 k2 = k1 a := rfl
theorem bS_r {α γ β : Type} (a : γ) (k1 : α → Option β) (k2 : γ → Option β) : md_bS (some (.inr a)) k1 k2 = k2 a := rfl
theorem lt_e {α β : Type} (v : α) (k : α → Option β) : md_lt v k = k v := rfl
theorem ck_t {α : Type} (E : Option α) : md_ck true E = E := rfl
theorem bd_if {α β : Type} (c : Prop) [Decidable c] (a b : Option α) (k : α → Option β) : md_bd (if c then a else b) k = if c then md_bd a k else md_bd b k := by
  by_cases h : c
  · rw [if_pos h, if_pos h]
  · rw [if_neg h, if_neg h]
theorem b2_if {α γ β : Type} (c : Prop) [Decidable c] (a b : Option (α × γ)) (k : α → γ → Option β) : md_b2 (if c then a else b) k = if c then md_b2 a k else md_b2 b k := by
  by_cases h : c
  · rw [if_pos h, if_pos h]
  · rw [if_neg h, if_neg h]
theorem in_t {i n : Nat} (h : i < n) (hn : n ≤ 1000) : md_in (nI i) n = true := by
  simp only [md_in, Bool.and_eq_true, Bool.not_eq_true', decide_eq_false_iff_not, decide_eq_true_eq]
  exact ⟨nI_pos (by omega), by rw [nI_clamp (by omega)]; exact h⟩
theorem nI_c {n : Nat} (h : n < 1000000000) : (nI n).toNatClampNeg = n := nI_clamp (by omega)
theorem n_lt {a b : Nat} (ha : a < 1000000001) (hb : b < 1000000001) : (nI a < nI b) ↔ a < b := nI_ltI (by omega) (by omega)
theorem n_le {a b : Nat} (ha : a < 1000000001) (hb : b < 1000000001) : (nI a ≤ nI b) ↔ a ≤ b := nI_leI (by omega) (by omega)
theorem n_eq {a b : Nat} (ha : a < 1000000001) (hb : b < 1000000001) : (nI a = nI b) ↔ a = b := nI_eq (by omega) (by omega)
theorem n_sub {a b : Nat} (h : b ≤ a) : nI a - nI b = nI (a - b) := pk_sub h
theorem n_shl : ∀ i, i < 31 → (1 : Int32) <<< (nI i &&& 31) = nI (2 ^ i) := by decide +kernel
theorem n_shr {s i : Nat} (hs : s < 2 ^ 31) (hi : i < 31) : nI s >>> (nI i &&& 31) = nI (s / 2 ^ i) := pk_shrN hs _ i (by
  have : ∀ i, i < 31 → ((nI i &&& 31).toBitVec.smod 32).toNat = i := by decide +kernel
  exact this i hi)
theorem n_and1 (s : Nat) : nI s &&& (1 : Int32) = nI (s % 2) := fa_mask s 1
theorem n_has {s i : Nat} (hs : s < 2 ^ 31) (hi : i < 31) : (((nI s >>> (nI i &&& 31)) &&& (1 : Int32)) = (1 : Int32)) ↔ s.testBit i = true := by
  rw [n_shr hs hi, n_and1, show (1 : Int32) = nI 1 from rfl, nI_eq (by omega) (by omega), Nat.testBit_eq_decide_div_mod_eq, decide_eq_true_eq]
theorem n_bit {s i : Nat} (hi : i < 31) : ((nI s &&& ((1 : Int32) <<< (nI i &&& 31))) = 0) ↔ s.testBit i = false := by
  rw [n_shl i hi]; exact fa_bit hi
/-- one set without another one's -/
def an (a b : Nat) : Nat := a ^^^ (a &&& b)
theorem an_t (a b i : Nat) : (an a b).testBit i = (a.testBit i && !b.testBit i) := by
  simp only [an, Nat.testBit_xor, Nat.testBit_and]
  cases a.testBit i <;> cases b.testBit i <;> rfl
theorem n_an {a b : Nat} (ha : a < 2 ^ 31) (hb : b < 2 ^ 31) : nI a &&& (nI b ^^^ (-1 : Int32)) = nI (an a b) := by
  apply Int32.toBitVec_inj.mp
  apply BitVec.eq_of_getLsbD_eq
  intro i hi
  have hx : ∀ n : Nat, n < 2 ^ 31 → (nI n).toBitVec.getLsbD i = n.testBit i := by
    intro n hn
    have h1 : (nI n).toBitVec.toNat = n := pk_tn (by omega)
    rw [BitVec.getLsbD, h1]
  have h1 : an a b < 2 ^ 31 := Nat.xor_lt_two_pow ha (Nat.and_lt_two_pow a hb)
  rw [hx _ h1, an_t]
  simp only [Int32.toBitVec_and, Int32.toBitVec_xor, BitVec.getLsbD_and, BitVec.getLsbD_xor, hx a ha, hx b hb]
  have : ((-1 : Int32).toBitVec.getLsbD i) = true := by
    have : ∀ i, i < 32 → ((-1 : Int32).toBitVec.getLsbD i) = true := by decide +kernel
    exact this i hi
  rw [this]
  cases a.testBit i <;> cases b.testBit i <;> rfl
theorem in_iff (a b c : Int64) (h : Mm) : fX8_in h a b c = some (decide (b ≤ a ∧ a ≤ c)) := by
  have e1 : (lg_cmp a b < 0) ↔ a < b := lg_cmp_lt a b
  have e2 : (0 < lg_cmp a c) ↔ c < a := lg_cmp_gt a c
  simp only [fX8_in, e1, e2]
  by_cases h1 : a < b
  · have : ¬ b ≤ a := by rw [fa_le64]; rw [fa_lt64] at h1; omega
    simp [md_bd, h1, this]
  · have hb : b ≤ a := by rw [fa_le64]; rw [fa_lt64] at h1; omega
    by_cases h2 : c < a
    · have : ¬ a ≤ c := by rw [fa_le64]; rw [fa_lt64] at h2; omega
      simp [md_bd, h1, h2, this]
    · have : a ≤ c := by rw [fa_le64]; rw [fa_lt64] at h2; omega
      simp [md_bd, h1, h2, hb, this]
theorem has_iff {s i : Nat} (hs : s < 2 ^ 31) (hi : i < 31) (h : Mm) : fX8_has h (nI s) (nI i) = some (s.testBit i) := by
  simp only [fX8_has, n_has hs hi]
  cases s.testBit i <;> rfl
