/-! pure rows: pk_lT, pk_lLE, pk_vb are pasted from kit/rows; the rest is of this claim -/
theorem pk_vb (z : Int32) : vp_nar .byte z.toInt8.toInt32 = z.toInt8.toInt32 := by rw [vp_nar_byte]; simp
theorem pk_lT {n : Nat} (h : n < 2 ^ 63) : (lN n).toInt = (n : Int) := lg_ofNat_toInt h
theorem pk_lLE {a b : Nat} (ha : a < 2 ^ 63) (hb : b < 2 ^ 63) : lN a ≤ lN b ↔ a ≤ b := by
  rw [Int64.le_iff_toInt_le, pk_lT ha, pk_lT hb]; omega
theorem qa_m1 : vp_nar .byte (-1) = -1 := by rw [vp_nar_byte]; decide
theorem qa_i8 : ∀ m, m < 128 → (nI m).toInt8.toInt32 = nI m := by decide +kernel
theorem qa_ne : ∀ m, m < 128 → ¬ nI m = -1 := by decide +kernel
theorem qa_low {n : Nat} (h : n < 2 ^ 63) : (lN n + (-9223372036854775808)).toInt = (n : Int) - 9223372036854775808 := by
  rw [Int64.toInt_add, pk_lT h, show (-9223372036854775808 : Int64).toInt = -9223372036854775808 from by decide +kernel]
  exact Int.bmod_eq_of_le (by omega) (by omega)
/-- ages counted from the lowest long stand in the reverse order of the starts -/
theorem qa_age {c p q : Nat} (hc : c < 2 ^ 62) (hp : p ≤ c) (hq : q ≤ c) : (lN c - lN p) + (-9223372036854775808) ≤ (lN c - lN q) + (-9223372036854775808) ↔ lN q ≤ lN p := by
  rw [lN_sub hp, lN_sub hq, Int64.le_iff_toInt_le, qa_low (by omega), qa_low (by omega), pk_lLE (by omega) (by omega)]
  omega
/-- what a voice may hold: free, or a note -/
def qa_ok (x : Int32) : Prop := x = -1 ∨ ∃ m, m < 128 ∧ x = nI m
theorem qa_sg {x : Int32} (h : qa_ok x) : (x = -1 ∧ x < 0) ∨ (¬ x = -1 ∧ ¬ x < 0) := by
  rcases h with rfl | ⟨m, hm, rfl⟩
  · exact Or.inl ⟨rfl, by decide⟩
  · exact Or.inr ⟨qa_ne m hm, nI_pos (by omega)⟩
theorem qa_put {a : Nat → Int32} {i : Nat} {x : Int32} (h : ∀ j, j < 4 → qa_ok (a j)) (hx : qa_ok x) : ∀ j, j < 4 → qa_ok (upd a i x j) := by
  intro j hj
  unfold upd
  by_cases e : j = i
  · rw [if_pos e]; exact hx
  · rw [if_neg e]; exact h j hj
theorem qa_putL {c : Nat} {s : Nat → Int64} {i : Nat} (h : ∀ j, j < 4 → ∃ t, t ≤ c ∧ s j = lN t) : ∀ j, j < 4 → ∃ t, t ≤ c + 1 ∧ vp_updL s i (lN c) j = lN t := by
  intro j hj
  unfold vp_updL
  by_cases e : j = i
  · rw [if_pos e]; exact ⟨c, by omega, rfl⟩
  · rw [if_neg e]
    obtain ⟨t, ht, es⟩ := h j hj
    exact ⟨t, by omega, es⟩
/-- how many of the first n voices sound -/
def qa_cnt (a : Nat → Int32) : Nat → Int32
  | 0 => 0
  | n + 1 => if a n = -1 then qa_cnt a n else qa_cnt a n + 1
