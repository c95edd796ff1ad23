theorem m_add {x y : Int32} (h1 : -1000000000 ≤ x.toInt) (h2 : x.toInt ≤ 1000000000) (h3 : -1000000000 ≤ y.toInt) (h4 : y.toInt ≤ 1000000000) : (x + y).toInt = x.toInt + y.toInt := by
  rw [Int32.toInt_add]; exact Int.bmod_eq_of_le (by omega) (by omega)
theorem m_sub {x y : Int32} (h1 : -1000000000 ≤ x.toInt) (h2 : x.toInt ≤ 1000000000) (h3 : -1000000000 ≤ y.toInt) (h4 : y.toInt ≤ 1000000000) : (x - y).toInt = x.toInt - y.toInt := by
  rw [Int32.toInt_sub]; exact Int.bmod_eq_of_le (by omega) (by omega)
theorem m_lt {x y : Int32} : x < y ↔ x.toInt < y.toInt := Int32.lt_iff_toInt_lt
theorem m_le {x y : Int32} : x ≤ y ↔ x.toInt ≤ y.toInt := Int32.le_iff_toInt_le
theorem m_eq {x y : Int32} : x = y ↔ x.toInt = y.toInt := Int32.toInt_inj.symm
theorem m_nle {x y : Int32} : ¬ x ≤ y ↔ y < x := by rw [m_le, m_lt]; omega
theorem m_nlt {x y : Int32} : ¬ x < y ↔ y ≤ x := by rw [m_le, m_lt]; omega
theorem m_0 : (0 : Int32).toInt = 0 := by decide
theorem m_1 : (1 : Int32).toInt = 1 := by decide
theorem m_n1 : (-1 : Int32).toInt = -1 := by decide
theorem m_5 : (5 : Int32).toInt = 5 := by decide
theorem m_60 : (60 : Int32).toInt = 60 := by decide
theorem m_n9 : (-9 : Int32).toInt = -9 := by decide
theorem m_pos {x : Int32} : 0 < x ↔ 0 < x.toInt := by rw [m_lt, m_0]
theorem m_nonpos {x : Int32} : x ≤ 0 ↔ x.toInt ≤ 0 := by rw [m_le, m_0]
theorem m_z {x : Int32} : x = 0 ↔ x.toInt = 0 := by rw [m_eq, m_0]
theorem m_us {f : Nat → Int32} {k : Nat} {x : Int32} : upd f k x k = x := pk_us
theorem m_un {f : Nat → Int32} {k j : Nat} {x : Int32} (h : j ≠ k) : upd f k x j = f j := pk_un h
theorem m_up {f : Nat → Int32} {k j : Nat} {x : Int32} : upd f k x j = if j = k then x else f j := rfl

theorem st_1 {sp : Nat → Int32} {t : Nat} (h : 0 < sp t) : fX2_stands sp t = 1 := by
  simp only [fX2_stands, if_neg (m_nle.mpr h)]
theorem st_0 {sp : Nat → Int32} {t : Nat} (h : ¬ 0 < sp t) : fX2_stands sp t = 0 := by
  simp only [fX2_stands, if_pos (m_nlt.mp h)]
theorem m_10 : ¬ ((1 : Int32) = 0) := by decide
theorem m_01 : ¬ ((0 : Int32) = 1) := by decide

/-- who stands depends on signs alone -/
theorem standing_ext4 {sp sp' : Nat → Int32} : ∀ (n i : Nat) (x : Int32), (∀ t, i ≤ t → t < i + n → (0 < sp t ↔ 0 < sp' t)) → lX2_standing_4 sp n x i = lX2_standing_4 sp' n x i := by
  intro n
  induction n with
  | zero => intro i x _; rfl
  | succ n ih =>
    intro i x h
    have hi := h i (Nat.le_refl _) (by omega)
    by_cases h1 : 0 < sp i
    · have h2 := hi.mp h1
      simp only [lX2_standing_4, st_1 h1, st_1 h2, if_neg m_10]
      exact ih _ _ (fun t a b => h t (by omega) (by omega))
    · have h2 : ¬ 0 < sp' i := fun c => h1 (hi.mpr c)
      simp only [lX2_standing_4, st_0 h1, st_0 h2, if_true]
      exact ih _ _ (fun t a b => h t (by omega) (by omega))
theorem standing_ext {sp sp' : Nat → Int32} (h : ∀ t, t < 6 → (0 < sp t ↔ 0 < sp' t)) : fX2_standing sp = fX2_standing sp' := by
  simp only [fX2_standing]; exact standing_ext4 6 0 0 (fun t _ b => h t (by omega))
def pb (a b c d e f : Bool) (t : Nat) : Bool := if t = 0 then a else if t = 1 then b else if t = 2 then c else if t = 3 then d else if t = 4 then e else f
def sb6 (a b c d e f : Bool) (t : Nat) : Int32 := if pb a b c d e f t then 1 else 0
theorem standing_sb (sp : Nat → Int32) : ∃ a b c d e f : Bool, (∀ t, t < 6 → (0 < sp t ↔ pb a b c d e f t = true)) ∧ fX2_standing sp = fX2_standing (sb6 a b c d e f) := by
  have key : ∀ t, t < 6 → (0 < sp t ↔ pb (decide (0 < sp 0)) (decide (0 < sp 1)) (decide (0 < sp 2)) (decide (0 < sp 3)) (decide (0 < sp 4)) (decide (0 < sp 5)) t = true) := by
    intro t ht
    have : t = 0 ∨ t = 1 ∨ t = 2 ∨ t = 3 ∨ t = 4 ∨ t = 5 := by omega
    rcases this with rfl | rfl | rfl | rfl | rfl | rfl <;> simp [pb]
  refine ⟨_, _, _, _, _, _, key, standing_ext (fun t ht => ?_)⟩
  rw [key t ht, sb6]
  by_cases hh : pb (decide (0 < sp 0)) (decide (0 < sp 1)) (decide (0 < sp 2)) (decide (0 < sp 3)) (decide (0 < sp 4)) (decide (0 < sp 5)) t = true
  · rw [if_pos hh]; exact ⟨fun _ => by decide, fun _ => hh⟩
  · rw [if_neg hh]; exact ⟨fun c => absurd c hh, fun c => absurd c (by decide)⟩
theorem has_fin : ∀ a b c d e f : Bool, ∀ t : Fin 6, fX9_has (fX2_standing (sb6 a b c d e f)) (nI t.1) = if pb a b c d e f t.1 then 1 else 0 := by decide +kernel
theorem fall_fin : ∀ a b c d e f : Bool, ∀ t : Fin 6, fX2_standing (fun s => if s = t.1 then 0 else sb6 a b c d e f s) = (fX2_standing (sb6 a b c d e f)) &&& ((1 <<< ((nI t.1) &&& 31)) ^^^ (-1)) := by decide +kernel
theorem many_fin : ∀ a b c d e f : Bool, fJ6_bitCount_0f7a4 (fX2_standing (sb6 a b c d e f)) = fX9_bits (fX2_standing (sb6 a b c d e f)) := by decide +kernel
theorem bits_fin : ∀ a b c d e f : Bool, ∃ k : Fin 7, fX9_bits (fX2_standing (sb6 a b c d e f)) = nI k.1 := by decide +kernel
theorem stand_fin : ∀ a b c d e f : Bool, ∃ k : Fin 64, fX2_standing (sb6 a b c d e f) = nI k.1 := by decide +kernel
theorem has_st {sp : Nat → Int32} {t : Nat} (ht : t < 6) : fX9_has (fX2_standing sp) (nI t) = if 0 < sp t then 1 else 0 := by
  obtain ⟨a, b, c, d, e, f, h1, h2⟩ := standing_sb sp
  rw [h2, has_fin a b c d e f ⟨t, ht⟩]
  by_cases h : 0 < sp t
  · rw [if_pos h, if_pos ((h1 t ht).mp h)]
  · rw [if_neg h, if_neg (fun c => h ((h1 t ht).mpr c))]
theorem has_1 {sp : Nat → Int32} {t : Nat} (ht : t < 6) (h : 0 < sp t) : fX9_has (fX2_standing sp) (nI t) = 1 := by rw [has_st ht, if_pos h]
theorem has_0 {sp : Nat → Int32} {t : Nat} (ht : t < 6) (h : ¬ 0 < sp t) : fX9_has (fX2_standing sp) (nI t) = 0 := by rw [has_st ht, if_neg h]
theorem standing_fall {sp : Nat → Int32} {t : Nat} (ht : t < 6) : fX2_standing (upd sp t 0) = (fX2_standing sp) &&& ((1 <<< ((nI t) &&& 31)) ^^^ (-1)) := by
  obtain ⟨a, b, c, d, e, f, h1, h2⟩ := standing_sb sp
  rw [h2, ← fall_fin a b c d e f ⟨t, ht⟩]
  refine standing_ext (fun s hs => ?_)
  rw [m_up]
  by_cases e1 : s = t
  · rw [if_pos e1, if_pos e1]
  · rw [if_neg e1, if_neg e1, h1 s hs, sb6]
    by_cases hh : pb a b c d e f s = true
    · rw [if_pos hh]; exact ⟨fun _ => by decide, fun _ => hh⟩
    · rw [if_neg hh]; exact ⟨fun c => absurd c hh, fun c => absurd c (by decide)⟩
theorem many_bits (sp : Nat → Int32) : fX2_howMany sp = fX9_bits (fX2_standing sp) := by
  obtain ⟨a, b, c, d, e, f, _, h2⟩ := standing_sb sp
  simp only [fX2_howMany]; rw [h2]; exact many_fin a b c d e f
theorem bits_nat (sp : Nat → Int32) : ∃ k, k ≤ 6 ∧ fX9_bits (fX2_standing sp) = nI k := by
  obtain ⟨a, b, c, d, e, f, _, h2⟩ := standing_sb sp
  obtain ⟨k, hk⟩ := bits_fin a b c d e f
  exact ⟨k.1, by omega, by rw [h2, hk]⟩
theorem stand_nat (sp : Nat → Int32) : ∃ k, k < 64 ∧ fX2_standing sp = nI k := by
  obtain ⟨a, b, c, d, e, f, _, h2⟩ := standing_sb sp
  obtain ⟨k, hk⟩ := stand_fin a b c d e f
  exact ⟨k.1, k.2, by rw [h2, hk]⟩
