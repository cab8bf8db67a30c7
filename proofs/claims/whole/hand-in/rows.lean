section
/-! pure rows: pk_lT, pk_lLE, pk_vb are pasted from kit/rows; the rest is of this claim -/
theorem pk_vb (z : Int32) : vp_nar .byte z.toInt8.toInt32 = z.toInt8.toInt32 := by rw [vp_nar_byte]; simp
theorem pk_lT {n : Nat} (h : n < 2 ^ 63) : (lN n).toInt = (n : Int) := lg_ofNat_toInt h
theorem pk_lLE {a b : Nat} (ha : a < 2 ^ 63) (hb : b < 2 ^ 63) : lN a ≤ lN b ↔ a ≤ b := by
  rw [Int64.le_iff_toInt_le, pk_lT ha, pk_lT hb]; omega
theorem qa_m1 : vp_nar .byte (-1) = -1 := by rw [vp_nar_byte]; decide
theorem qa_i8 : ∀ m, m < 128 → (nI m).toInt8.toInt32 = nI m := by decide +kernel
theorem qa_ne : ∀ m, m < 128 → ¬ nI m = -1 := by decide +kernel
theorem qa_low {n : Nat} (h : n < 2 ^ 63) : (lN n + (-9223372036854775808)).toInt = (n : Int) - 9223372036854775808 := by
  rw [Int64.toInt_add, pk_lT h, show (-9223372036854775808 : Int64).toInt = -9223372036854775808 from by decide +kernel]
  exact Int.bmod_eq_of_le (by omega) (by omega)
/-- ages counted from the lowest long stand in the reverse order of the starts -/
theorem qa_age {c p q : Nat} (hc : c < 2 ^ 62) (hp : p ≤ c) (hq : q ≤ c) : (lN c - lN p) + (-9223372036854775808) ≤ (lN c - lN q) + (-9223372036854775808) ↔ lN q ≤ lN p := by
  rw [lN_sub hp, lN_sub hq, Int64.le_iff_toInt_le, qa_low (by omega), qa_low (by omega), pk_lLE (by omega) (by omega)]
  omega
/-- what a voice may hold: free, or a note -/
def qa_ok (x : Int32) : Prop := x = -1 ∨ ∃ m, m < 128 ∧ x = nI m
theorem qa_sg {x : Int32} (h : qa_ok x) : (x = -1 ∧ x < 0) ∨ (¬ x = -1 ∧ ¬ x < 0) := by
  rcases h with rfl | ⟨m, hm, rfl⟩
  · exact Or.inl ⟨rfl, by decide⟩
  · exact Or.inr ⟨qa_ne m hm, nI_pos (by omega)⟩
theorem qa_put {a : Nat → Int32} {i : Nat} {x : Int32} (h : ∀ j, j < 4 → qa_ok (a j)) (hx : qa_ok x) : ∀ j, j < 4 → qa_ok (upd a i x j) := by
  intro j hj
  unfold upd
  by_cases e : j = i
  · rw [if_pos e]; exact hx
  · rw [if_neg e]; exact h j hj
theorem qa_putL {c : Nat} {s : Nat → Int64} {i : Nat} (h : ∀ j, j < 4 → ∃ t, t ≤ c ∧ s j = lN t) : ∀ j, j < 4 → ∃ t, t ≤ c + 1 ∧ vp_updL s i (lN c) j = lN t := by
  intro j hj
  unfold vp_updL
  by_cases e : j = i
  · rw [if_pos e]; exact ⟨c, by omega, rfl⟩
  · rw [if_neg e]
    obtain ⟨t, ht, es⟩ := h j hj
    exact ⟨t, by omega, es⟩
/-- how many of the first n voices sound -/
def qa_cnt (a : Nat → Int32) : Nat → Int32
  | 0 => 0
  | n + 1 => if a n = -1 then qa_cnt a n else qa_cnt a n + 1
end
section
/-- both sides hold the same clock, the same notes and the same starts; the clock is a small number, no start lies above it -/
def i_Rel (k : Nat) (u : SX) (v : SY) : Prop := ∃ (c : Nat) (a : Nat → Int32) (s : Nat → Int64), u = (lN c, a, s) ∧ v = (lN c, a, s) ∧ c ≤ k ∧ (∀ j, j < 4 → qa_ok (a j)) ∧ (∀ j, j < 4 → ∃ t, t ≤ c ∧ s j = lN t)
theorem i_up {k : Nat} {u : SX} {v : SY} (h : i_Rel k u v) : i_Rel (k + 2) u v := by
  obtain ⟨c, a, s, hu, hv, hc, ha, hs⟩ := h
  exact ⟨c, a, s, hu, hv, by omega, ha, hs⟩
theorem i_vc0 : wpX_init (fun u => wpY_init (fun v => i_Rel 0 u v)) := by
  refine Exists.intro 5 (br_f (by decide) ⟨vp_in_iff.mpr (by decide), fun a1 e1 x1 y1 => ?_⟩)
  subst y1
  refine br_f (by decide) ⟨vp_in_iff.mpr (by decide), fun a2 e2 x2 y2 => ?_⟩
  subst y2
  refine br_f (by decide) ⟨vp_in_iff.mpr (by decide), fun a3 e3 x3 y3 => ?_⟩
  subst y3
  refine br_f (by decide) ⟨vp_in_iff.mpr (by decide), fun a4 e4 x4 y4 => ?_⟩
  subst y4
  refine br_t (by decide) ?_
  intro b1 f1 b2 f2 b3 f3 b4 f4
  rw [qa_m1] at f1 f2 f3 f4
  rw [show (0 : Int32).toNatClampNeg = 0 from by decide] at e1
  rw [show ((0 : Int32) + 1).toNatClampNeg = 1 from by decide] at e2
  rw [show ((0 : Int32) + 1 + 1).toNatClampNeg = 2 from by decide] at e3
  rw [show ((0 : Int32) + 1 + 1 + 1).toNatClampNeg = 3 from by decide] at e4
  subst e1 e2 e3 e4 f1 f2 f3 f4
  refine ⟨0, _, fun _ => 0, rfl, rfl, Nat.le_refl 0, fun j hj => Or.inl ?_, fun j hj => ⟨0, Nat.le_refl 0, rfl⟩⟩
  have h : j = 0 ∨ j = 1 ∨ j = 2 ∨ j = 3 := by omega
  rcases h with rfl | rfl | rfl | rfl <;> rfl
theorem qa_is1 {post : Int32 → Prop} {p : Int32} (h0 : ¬ p < 0) (h1 : ¬ 127 < p) (h : post 1) : wpX_isNote post p := br_f h0 (br_f h1 h)
theorem qa_scan (x : Int32) (f : Int64) (a : Nat → Int32) (s : Nat → Int64) : ∀ d j : Nat, j + d = 4 → ∃ r : Int32, (r = -1 ∨ ∃ i, i < 4 ∧ r = nI i) ∧ (∀ post : Int32 → Prop, post r → wX_lowestHolding_2 post x f a s (d + 1) (nI j)) ∧ (∀ post : Int32 → Prop, post r → wY_find_2 post x f a s (d + 1) (nI j)) := by
  intro d
  induction d with
  | zero =>
    intro j hj
    have h : (4 : Int32) ≤ nI j := nI_le (a := 4) (by omega) (by omega)
    exact ⟨-1, Or.inl rfl, fun _ hp => br_t h hp, fun _ hp => br_t h hp⟩
  | succ d ih =>
    intro j hj
    have h : ¬ (4 : Int32) ≤ nI j := nI_ge (b := 4) (by omega) (by omega)
    have hi : vp_in (nI j) 4 := vp_in_nI (by omega) (by omega)
    by_cases z : a (nI j).toNatClampNeg = x
    · exact ⟨nI j, Or.inr ⟨j, by omega, rfl⟩, fun _ hp => br_f h ⟨hi, br_t z hp⟩, fun _ hp => br_f h ⟨hi, br_t z hp⟩⟩
    · obtain ⟨r, hr, hX, hY⟩ := ih (j + 1) (by omega)
      exact ⟨r, hr, fun post hp => br_f h ⟨hi, br_f z (nm_r (nI_1 j) (hX post hp))⟩, fun post hp => br_f h ⟨hi, br_f z (nm_r (nI_1 j) (hY post hp))⟩⟩
theorem qa_find (x : Int32) (f : Int64) (a : Nat → Int32) (s : Nat → Int64) : ∃ r : Int32, (r = -1 ∨ ∃ i, i < 4 ∧ r = nI i) ∧ (∀ post : Int32 → Prop, post r → wpX_lowestHolding post (f, a, s) x) ∧ (∀ post : Int32 → Prop, post r → wpY_find post (f, a, s) x) := by
  obtain ⟨r, hr, hX, hY⟩ := qa_scan x f a s 4 0 rfl
  rw [nI_0] at hX hY
  exact ⟨r, hr, fun post hp => Exists.intro (4 + 1) (hX post hp), fun post hp => Exists.intro (4 + 1) (hY post hp)⟩
theorem qa_wage {post : Int64 → Prop} {f : Int64} {a : Nat → Int32} {s : Nat → Int64} {p : Int32} (h : vp_in p 4) (hp : post ((f - (s p.toNatClampNeg)) + (-9223372036854775808))) : wpX_age post (f, a, s) p := And.intro h hp
theorem qa_early {c : Nat} (hc : c < 2 ^ 62) (a : Nat → Int32) (s : Nat → Int64) (hs : ∀ j, j < 4 → ∃ t, t ≤ c ∧ s j = lN t) : ∀ d j e : Nat, j + d = 4 → e < 4 → ∃ r : Nat, r < 4 ∧ (∀ post : Int32 → Prop, post (nI r) → wX_earliestStarted_4 post (lN c) a s (d + 1) (nI e) (nI j)) ∧ (∀ (post : Int32 → SY → Prop) (x1 : Int32), wY_noteOn_56 post x1 (nI r) (lN c) a s → wY_noteOn_27 post x1 (lN c) a s (d + 1) (nI e) (nI j)) := by
  intro d
  induction d with
  | zero =>
    intro j e hj he
    have h : (4 : Int32) ≤ nI j := nI_le (a := 4) (by omega) (by omega)
    exact ⟨e, he, fun _ hp => br_t h hp, fun _ _ hp => br_t h hp⟩
  | succ d ih =>
    intro j e hj he
    have h : ¬ (4 : Int32) ≤ nI j := nI_ge (b := 4) (by omega) (by omega)
    have vj : vp_in (nI j) 4 := vp_in_nI (by omega) (by omega)
    have ve : vp_in (nI e) 4 := vp_in_nI he (by omega)
    obtain ⟨p, hp, ep⟩ := hs j (by omega)
    obtain ⟨q, hq, eq⟩ := hs e he
    have sj : s (nI j).toNatClampNeg = lN p := by rw [nI_clamp (by omega)]; exact ep
    have se : s (nI e).toNatClampNeg = lN q := by rw [nI_clamp (by omega)]; exact eq
    have hag := qa_age hc hp hq
    rw [← sj, ← se] at hag
    by_cases z : s (nI e).toNatClampNeg ≤ s (nI j).toNatClampNeg
    · obtain ⟨r, hr, hX, hY⟩ := ih (j + 1) e (by omega) he
      exact ⟨r, hr, fun post h1 => br_f h (qa_wage vj (qa_wage ve (br_t (hag.mpr z) (nm_r (nI_1 j) (hX post h1))))), fun post x1 h1 => br_f h ⟨vj, ve, br_t z (nm_r (nI_1 j) (hY post x1 h1))⟩⟩
    · obtain ⟨r, hr, hX, hY⟩ := ih (j + 1) j (by omega) (by omega)
      have zX := fun w => z (hag.mp w)
      exact ⟨r, hr, fun post h1 => br_f h (qa_wage vj (qa_wage ve (br_f zX (nm_r (nI_1 j) (hX post h1))))), fun post x1 h1 => br_f h ⟨vj, ve, br_f z (nm_r (nI_1 j) (hY post x1 h1))⟩⟩
theorem qa_X26 {post : Int32 → SX → Prop} {c i m : Nat} {a : Nat → Int32} {s : Nat → Int64} (hi : i < 4) (h : post (nI i) (lN (c + 1), upd a i (nI m), vp_updL s i (lN c))) : wX_noteOn_26 post (nI m) (nI i) (lN c) a s := by
  have e1 : upd a (nI i).toNatClampNeg (nI m) = upd a i (nI m) := by rw [nI_clamp (by omega)]
  have e2 : vp_updL s (nI i).toNatClampNeg (lN c) = vp_updL s i (lN c) := by rw [nI_clamp (by omega)]
  have hv : vp_in (nI i) 4 := vp_in_nI hi (by omega)
  exact And.intro hv (nm_r e1 ⟨hv, nm_r e2 (nm_r (lN_1 c) h)⟩)
theorem qa_Y56 {post : Int32 → SY → Prop} {c i m : Nat} {a : Nat → Int32} {s : Nat → Int64} (hm : m < 128) (hi : i < 4) (h : post (nI i) (lN (c + 1), upd a i (nI m), vp_updL s i (lN c))) : wY_noteOn_56 post (nI m) (nI i) (lN c) a s := by
  have e1 : upd a (nI i).toNatClampNeg (vp_nar .byte (nI m).toInt8.toInt32) = upd a i (nI m) := by rw [nI_clamp (by omega), pk_vb, qa_i8 m hm]
  have e2 : vp_updL s (nI i).toNatClampNeg (lN c) = vp_updL s i (lN c) := by rw [nI_clamp (by omega)]
  have hv : vp_in (nI i) 4 := vp_in_nI hi (by omega)
  exact And.intro hv (nm_r e1 (nm_r (lN_1 c) ⟨hv, nm_r e2 h⟩))
theorem i_vc_noteOn {k : Nat} {u : SX} {v : SY} (I : i_Rel k u v) (hk : k + 2 ≤ 1024) (v1 : Int32) : wpX_noteOn (fun r u' => wpY_noteOn (fun r' v' => r' = r ∧ i_Rel (k + 2) u' v') v v1) u v1 := by
  have J := i_up I
  obtain ⟨c, a, s, rfl, rfl, hc, ha, hs⟩ := I
  by_cases h0 : v1 < 0
  · unfold wpX_noteOn
    refine br_t h0 (br_t rfl ?_)
    exact br_t h0 ⟨rfl, J⟩
  · by_cases h1 : 127 < v1
    · unfold wpX_noteOn
      refine br_f h0 (br_t h1 (br_t rfl ?_))
      exact br_f h0 (br_f (Int32.not_le.mpr h1) ⟨rfl, J⟩)
    · have h2 : v1 ≤ 127 := Int32.not_lt.mp h1
      obtain ⟨m, hm, rfl⟩ := nI_of2 (M := 127) (n := 127) (by decide) h0 h2
      have H : ∀ i, i_Rel (k + 2) (lN (c + 1), upd a i (nI m), vp_updL s i (lN c)) (lN (c + 1), upd a i (nI m), vp_updL s i (lN c)) := fun i => ⟨c + 1, _, _, rfl, rfl, by omega, qa_put ha (Or.inr ⟨m, by omega, rfl⟩), qa_putL hs⟩
      obtain ⟨r, hr, fX, fY⟩ := qa_find (-1) (lN c) a s
      rcases hr with rfl | ⟨i, hi, rfl⟩
      · obtain ⟨i, hi, eX, eY⟩ := qa_early (c := c) (by omega) a s hs 3 1 0 rfl (by omega)
        unfold wpX_noteOn
        refine qa_is1 h0 h1 (br_f (by decide) (fX _ (br_t rfl (Exists.intro (3 + 1) (eX _ (qa_X26 hi ?_))))))
        unfold wpY_noteOn
        exact br_f h0 (br_t h2 (fY _ (br_f (by decide) (Exists.intro (3 + 1) (eY _ _ (qa_Y56 (by omega) hi ⟨rfl, H i⟩))))))
      · unfold wpX_noteOn
        refine qa_is1 h0 h1 (br_f (by decide) (fX _ (br_f (qa_ne i (by omega)) (qa_X26 hi ?_))))
        unfold wpY_noteOn
        exact br_f h0 (br_t h2 (fY _ (br_t (nI_pos' (by omega)) (qa_Y56 (by omega) hi ⟨rfl, H i⟩))))
theorem i_vc_noteOff {k : Nat} {u : SX} {v : SY} (I : i_Rel k u v) (hk : k + 2 ≤ 1024) (v1 : Int32) : wpX_noteOff (fun r u' => wpY_noteOff (fun r' v' => r' = r ∧ i_Rel (k + 2) u' v') v v1) u v1 := by
  have J := i_up I
  obtain ⟨c, a, s, rfl, rfl, hc, ha, hs⟩ := I
  by_cases h0 : v1 < 0
  · unfold wpX_noteOff
    refine br_t h0 (br_t rfl ?_)
    exact br_t h0 ⟨rfl, J⟩
  · by_cases h1 : 127 < v1
    · unfold wpX_noteOff
      refine br_f h0 (br_t h1 (br_t rfl ?_))
      exact br_f h0 (br_f (Int32.not_le.mpr h1) ⟨rfl, J⟩)
    · have h2 : v1 ≤ 127 := Int32.not_lt.mp h1
      obtain ⟨r, hr, fX, fY⟩ := qa_find v1 (lN c) a s
      rcases hr with rfl | ⟨i, hi, rfl⟩
      · unfold wpX_noteOff
        refine qa_is1 h0 h1 (br_f (by decide) (fX _ (br_t rfl ?_)))
        unfold wpY_noteOff
        exact br_f h0 (br_t h2 (fY _ (br_t (by decide) ⟨rfl, J⟩)))
      · have e1 : upd a (nI i).toNatClampNeg (-1) = upd a i (-1) := by rw [nI_clamp (by omega)]
        have e2 : upd a (nI i).toNatClampNeg (vp_nar .byte (-1)) = upd a i (-1) := by rw [nI_clamp (by omega), qa_m1]
        have hv : vp_in (nI i) 4 := vp_in_nI hi (by omega)
        have H : i_Rel (k + 2) (lN c, upd a i (-1), s) (lN c, upd a i (-1), s) := ⟨c, _, _, rfl, rfl, by omega, qa_put ha (Or.inl rfl), hs⟩
        unfold wpX_noteOff
        refine qa_is1 h0 h1 (br_f (by decide) (fX _ (br_f (qa_ne i (by omega)) ⟨hv, nm_r e1 ?_⟩)))
        unfold wpY_noteOff
        exact br_f h0 (br_t h2 (fY _ (br_f (nI_pos (by omega)) ⟨hv, nm_r e2 ⟨rfl, H⟩⟩)))
theorem qa_actX (f : Int64) (a : Nat → Int32) (s : Nat → Int64) (post : Int32 → Prop) (hp : post (qa_cnt a 4)) : ∀ d j : Nat, j + d = 4 → wX_active_4 post f a s (d + 1) (qa_cnt a j) (nI j) := by
  intro d
  induction d with
  | zero =>
    intro j hj
    obtain rfl : j = 4 := by omega
    exact br_t (nI_le (a := 4) (by omega) (by omega)) hp
  | succ d ih =>
    intro j hj
    have h : ¬ (4 : Int32) ≤ nI j := nI_ge (b := 4) (by omega) (by omega)
    have hi : vp_in (nI j) 4 := vp_in_nI (by omega) (by omega)
    have hc : (nI j).toNatClampNeg = j := nI_clamp (by omega)
    have ih' := ih (j + 1) (by omega)
    by_cases z : a j = -1
    · have e : qa_cnt a (j + 1) = qa_cnt a j := if_pos z
      rw [e] at ih'
      exact br_f h ⟨hi, br_t (by rw [hc]; exact z) (nm_r (nI_1 j) ih')⟩
    · have e : qa_cnt a (j + 1) = qa_cnt a j + 1 := if_neg z
      rw [e] at ih'
      exact br_f h ⟨hi, br_f (by rw [hc]; exact z) (nm_e (nm_r (nI_1 j) ih'))⟩
theorem qa_actY {a : Nat → Int32} {P : Int32 → Prop} (j : Nat) (ha : qa_ok (a j)) (hp : P (qa_cnt a (j + 1))) : (a j < 0 → P (qa_cnt a j)) ∧ (¬ a j < 0 → ∀ y, y = qa_cnt a j + 1 → P y) := by
  rcases qa_sg ha with ⟨z, y⟩ | ⟨z, y⟩
  · have e : qa_cnt a (j + 1) = qa_cnt a j := if_pos z
    rw [e] at hp
    exact br_t y hp
  · have e : qa_cnt a (j + 1) = qa_cnt a j + 1 := if_neg z
    rw [e] at hp
    exact br_f y (nm_e hp)
theorem i_vc_active {k : Nat} {u : SX} {v : SY} (I : i_Rel k u v) (hk : k + 2 ≤ 1024) : wpX_active (fun r => wpY_active (fun r' => r' = r ∧ i_Rel (k + 2) u v) v) u := by
  have J := i_up I
  obtain ⟨c, a, s, rfl, rfl, hc, ha, hs⟩ := I
  refine Exists.intro (4 + 1) (qa_actX (lN c) a s _ ?_ 4 0 rfl)
  exact qa_actY (P := fun x => wY_active_14 _ x (lN c) a s) 0 (ha 0 (by omega)) (qa_actY (P := fun x => wY_active_26 _ x (lN c) a s) 1 (ha 1 (by omega)) (qa_actY (P := fun x => wY_active_38 _ x (lN c) a s) 2 (ha 2 (by omega)) (qa_actY (P := fun x => x = qa_cnt a 4 ∧ i_Rel (k + 2) (lN c, a, s) (lN c, a, s)) 3 (ha 3 (by omega)) ⟨rfl, J⟩)))
theorem i_vc_noteAt {k : Nat} {u : SX} {v : SY} (I : i_Rel k u v) (hk : k + 2 ≤ 1024) (v1 : Int32) : wpX_noteAt (fun r => wpY_noteAt (fun r' => r' = r ∧ i_Rel (k + 2) u v) v v1) u v1 := by
  have J := i_up I
  obtain ⟨c, a, s, rfl, rfl, hc, ha, hs⟩ := I
  by_cases h0 : v1 < 0
  · exact br_t h0 (br_t h0 ⟨rfl, J⟩)
  · obtain ⟨j, hj, rfl⟩ := nI_of h0
    by_cases h4 : j < 4
    · have hv : vp_in (nI j) 4 := vp_in_nI h4 (by omega)
      have l4 : nI j < 4 := nI_lt (b := 4) h4 (by omega)
      have l3 : nI j ≤ 3 := nI_le (b := 3) (by omega) (by omega)
      exact br_f h0 (br_t l4 ⟨hv, br_f h0 (br_t l3 ⟨hv, rfl, J⟩)⟩)
    · have l4 : ¬ nI j < 4 := nI_nlt (b := 4) (by omega) hj
      have l3 : ¬ nI j ≤ 3 := nI_ge (a := 3) (by omega) hj
      exact br_f h0 (br_f l4 (br_f h0 (br_f l3 ⟨rfl, J⟩)))
end
