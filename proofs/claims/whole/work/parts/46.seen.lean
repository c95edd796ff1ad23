theorem spun_eq (v m d : Int32) : fX9_spun v m d = fX5_spinBehind v m d := by
  simp only [fX9_spun, fX9_larger, fX5_spinBehind]
  by_cases h : 0 < v - m * d
  · rw [if_pos h, if_neg (m_nle.mpr h)]
  · rw [if_neg h, if_pos (m_nlt.mp h)]
section
variable {fi bt su sF sB sS : Nat → Int32} {kn : Nat}
def SE (fi bt su sF sB sS : Nat → Int32) (kn : Nat) : Prop := ∀ i, i < kn → fi i = sF i ∧ bt i = sB i ∧ su i = sS i
theorem isSo_0 {dd : Int32} : ∀ n i, lX9_isSo_4 sF sB dd sS n 0 i = 0 := by
  intro n
  induction n with
  | zero => intro i; rfl
  | succ n ih => intro i; simp only [lX9_isSo_4, if_true, ih]
theorem isSo_1 {dd : Int32} (h : SE fi bt su sF sB sS kn) : ∀ n i, i + n ≤ kn → lX9_isSo_4 sF sB dd sS n 1 i = lX5_canBe_2 fi bt dd su n i := by
  intro n
  induction n with
  | zero => intro i _; rfl
  | succ n ih =>
    intro i hi
    obtain ⟨a, b, c⟩ := h i (by omega)
    simp only [lX9_isSo_4, lX5_canBe_2, if_neg m_10, spun_eq, a, b, c]
    by_cases e : fX5_spinBehind (sF i) (sB i) dd = sS i
    · simp only [if_pos e]; exact ih (i + 1) (by omega)
    · simp only [if_neg e, isSo_0]
theorem isSo_eq (h : SE fi bt su sF sB sS kn) (dd : Int32) : fX9_isSo kn sF sB sS dd = fX5_canBe fi bt su kn dd := by
  simp only [fX9_isSo, fX5_canBe]; exact isSo_1 h kn 0 (by omega)
theorem m_add0 (x : Int32) : x + 0 = x := by rw [Int32.add_zero]
theorem many_eq (h : SE fi bt su sF sB sS kn) : ∀ n i (x2 x3 x4 : Int32), (lX9_drags_26 kn sF sB sS n x2 x3 x4 i).1 = lX5_howMany_4 fi bt su kn n x2 i := by
  intro n
  induction n with
  | zero => intro i x2 x3 x4; rfl
  | succ n ih =>
    intro i x2 x3 x4
    by_cases c : fX5_canBe fi bt su kn (nI i) = 0
    · simp only [lX9_drags_26, lX5_howMany_4, isSo_eq h, if_pos c, m_add0, ih]
    · simp only [lX9_drags_26, lX5_howMany_4, isSo_eq h, if_neg c, ih]
theorem least_eq (h : SE fi bt su sF sB sS kn) : ∀ n i (x2 x3 x4 : Int32), i + n ≤ 10 → ((0 ≤ x3 → (lX9_drags_26 kn sF sB sS n x2 x3 x4 i).2.1 = x3) ∧ (x3 = -9 → (lX9_drags_26 kn sF sB sS n x2 x3 x4 i).2.1 = lX5_least_2 fi bt su kn n i)) := by
  intro n
  induction n with
  | zero => intro i x2 x3 x4 _; exact ⟨fun _ => rfl, fun e => e⟩
  | succ n ih =>
    intro i x2 x3 x4 hi
    by_cases c : fX5_canBe fi bt su kn (nI i) = 0
    · refine ⟨fun g => ?_, fun g => ?_⟩
      · simp only [lX9_drags_26, isSo_eq h, if_pos c, m_add0]; exact (ih _ _ _ _ (by omega)).1 g
      · simp only [lX9_drags_26, isSo_eq h, if_pos c, m_add0, lX5_least_2]; exact (ih _ _ _ _ (by omega)).2 g
    · refine ⟨fun g => ?_, fun g => ?_⟩
      · simp only [lX9_drags_26, isSo_eq h, if_neg c, if_pos g]; exact (ih _ _ _ _ (by omega)).1 g
      · have g' : ¬ 0 ≤ x3 := by rw [g]; decide
        simp only [lX9_drags_26, isSo_eq h, if_neg c, if_neg g', lX5_least_2]
        exact (ih _ _ _ _ (by omega)).1 (nI_pos' (by omega))
theorem great_m (h : SE fi bt su sF sB sS kn) : ∀ n i (x2 x3 x4 : Int32), ((lX9_drags_26 kn sF sB sS n x2 x3 x4 i).2.2 = x4 ∧ ∀ d, i ≤ d → d < i + n → fX5_canBe fi bt su kn (nI d) = 0) ∨ (∃ d, i ≤ d ∧ d < i + n ∧ ¬ fX5_canBe fi bt su kn (nI d) = 0 ∧ (lX9_drags_26 kn sF sB sS n x2 x3 x4 i).2.2 = nI d ∧ ∀ e, d < e → e < i + n → fX5_canBe fi bt su kn (nI e) = 0) := by
  intro n
  induction n with
  | zero => intro i x2 x3 x4; exact Or.inl ⟨rfl, fun d a b => absurd b (by omega)⟩
  | succ n ih =>
    intro i x2 x3 x4
    by_cases c : fX5_canBe fi bt su kn (nI i) = 0
    · simp only [lX9_drags_26, isSo_eq h, if_pos c, m_add0]
      rcases ih (i + 1) x2 x3 x4 with ⟨a, b⟩ | ⟨d, a1, a2, a3, a4, a5⟩
      · refine Or.inl ⟨a, fun d h1 h2 => ?_⟩
        by_cases e : d = i
        · subst e; exact c
        · exact b d (by omega) (by omega)
      · exact Or.inr ⟨d, by omega, by omega, a3, a4, fun e h1 h2 => a5 e h1 (by omega)⟩
    · simp only [lX9_drags_26, isSo_eq h, if_neg c]
      rcases ih (i + 1) (x2 + 1) (if 0 ≤ x3 then x3 else nI i) (nI i) with ⟨a, b⟩ | ⟨d, a1, a2, a3, a4, a5⟩
      · exact Or.inr ⟨i, by omega, by omega, c, a, fun e h1 h2 => b e (by omega) (by omega)⟩
      · exact Or.inr ⟨d, by omega, by omega, a3, a4, fun e h1 h2 => a5 e h1 (by omega)⟩
theorem great_c : ∀ n x, n ≤ x → (lX5_greatest_3 fi bt su kn n x = -9 ∧ ∀ d, d ≤ x → x < d + n → fX5_canBe fi bt su kn (nI d) = 0) ∨ (∃ d, d ≤ x ∧ x < d + n ∧ ¬ fX5_canBe fi bt su kn (nI d) = 0 ∧ lX5_greatest_3 fi bt su kn n x = nI d ∧ ∀ e, d < e → e ≤ x → fX5_canBe fi bt su kn (nI e) = 0) := by
  intro n
  induction n with
  | zero => intro x _; exact Or.inl ⟨rfl, fun d a b => absurd b (by omega)⟩
  | succ n ih =>
    intro x hx
    by_cases c : fX5_canBe fi bt su kn (nI x) = 0
    · simp only [lX5_greatest_3, if_pos c]
      rcases ih (x - 1) (by omega) with ⟨a, b⟩ | ⟨d, a1, a2, a3, a4, a5⟩
      · refine Or.inl ⟨a, fun d h1 h2 => ?_⟩
        by_cases e : d = x
        · subst e; exact c
        · exact b d (by omega) (by omega)
      · refine Or.inr ⟨d, by omega, by omega, a3, a4, fun e h1 h2 => ?_⟩
        by_cases ee : e = x
        · subst ee; exact c
        · exact a5 e h1 (by omega)
    · simp only [lX5_greatest_3, if_neg c]
      exact Or.inr ⟨x, Nat.le_refl _, by omega, c, rfl, fun e h1 h2 => absurd h2 (by omega)⟩
theorem great_eq (h : SE fi bt su sF sB sS kn) (x2 x3 : Int32) : (lX9_drags_26 kn sF sB sS 9 x2 x3 (-9) 1).2.2 = fX5_greatest fi bt su kn := by
  simp only [fX5_greatest]
  rcases great_m h 9 1 x2 x3 (-9) with ⟨a, b⟩ | ⟨d, a1, a2, a3, a4, a5⟩
  · rcases great_c (fi := fi) (bt := bt) (su := su) (kn := kn) 9 9 (by omega) with ⟨a', _⟩ | ⟨d, b1, b2, b3, _, _⟩
    · rw [a, a']
    · exact absurd (b d (by omega) (by omega)) b3
  · rcases great_c (fi := fi) (bt := bt) (su := su) (kn := kn) 9 9 (by omega) with ⟨_, b'⟩ | ⟨e, b1, b2, b3, b4, b5⟩
    · exact absurd (b' d (by omega) (by omega)) a3
    · have : d = e := by
        rcases Nat.lt_trichotomy d e with c | c | c
        · exact absurd (a5 e c (by omega)) b3
        · exact c
        · exact absurd (b5 d c (by omega)) a3
      rw [a4, b4, this]
theorem drags_sim (h : SE fi bt su sF sB sS kn) (w : Int32) : fX8_drags fi bt su kn w = fX9_drags kn sF sB sS w := by
  have i1 : fX9_in w.toInt64 0 2 = fX8_within w 0 2 := in_lit (by decide) (by decide)
  have e1 := many_eq h 9 1 0 (-9) (-9)
  have e2 := (least_eq h 9 1 0 (-9) (-9) (by omega)).2 rfl
  have e3 := great_eq h 0 (-9)
  by_cases h0 : w = 0
  · subst h0
    simp only [fX8_drags, fX9_drags, i1, if_true, fX5_howMany, e1, show ¬ (fX8_within 0 0 2 = 0) from by decide, if_false]
  by_cases h1 : w = 1
  · subst h1
    simp only [fX8_drags, fX9_drags, i1, if_true, fX5_least, e2, show ¬ (fX8_within 1 0 2 = 0) from by decide, if_false, if_neg m_10]
  by_cases h2 : w = 2
  · subst h2
    simp only [fX8_drags, fX9_drags, i1, if_true, e3, show ¬ (fX8_within 2 0 2 = 0) from by decide, if_false, show ¬ ((2 : Int32) = 0) from by decide, show ¬ ((2 : Int32) = 1) from by decide]
  have hw : fX8_within w 0 2 = 0 := by
    refine Decidable.byContradiction (fun c => ?_)
    obtain ⟨a, b⟩ := within_iff.mp c
    rw [m_le, m_0] at a; rw [m_le, show (2 : Int32).toInt = 2 from by decide] at b
    rw [m_eq, m_0] at h0; rw [m_eq, m_1] at h1; rw [m_eq, show (2 : Int32).toInt = 2 from by decide] at h2
    omega
  simp only [fX8_drags, fX9_drags, i1, hw, if_true, if_neg h0, if_neg h1, if_neg h2]
theorem l58_0 {d m : Nat} {v : Int32} (c : fX9_isSo kn sF sB sS (nI d) = 0) : ∀ n x j, lX9_look_58 kn sF sB sS d v m n x j = x := by
  intro n
  induction n with
  | zero => intro x j; rfl
  | succ n ih => intro x j; simp only [lX9_look_58, c, if_true, m_add0, ih]
theorem l58_1 (h : SE fi bt su sF sB sS kn) {d m : Nat} {v : Int32} (c : ¬ fX9_isSo kn sF sB sS (nI d) = 0) : ∀ n x j, lX9_look_58 kn sF sB sS d v m n x j = lX5_howManyAlike_6 fi bt su kn v (nI m) (fX5_spinBehind v (nI m) (nI d)) n x j := by
  intro n
  induction n with
  | zero => intro x j; rfl
  | succ n ih =>
    intro x j
    by_cases c2 : fX5_canBe fi bt su kn (nI j) = 0
    · simp only [lX9_look_58, lX5_howManyAlike_6, if_neg c, isSo_eq h (nI j), if_pos c2, m_add0, ih]
    · by_cases c3 : fX5_spinBehind v (nI m) (nI j) = fX5_spinBehind v (nI m) (nI d)
      · simp only [lX9_look_58, lX5_howManyAlike_6, if_neg c, isSo_eq h (nI j), if_neg c2, spun_eq, c3, if_true, ih]
      · have c3' : ¬ fX5_spinBehind v (nI m) (nI d) = fX5_spinBehind v (nI m) (nI j) := fun e => c3 e.symm
        simp only [lX9_look_58, lX5_howManyAlike_6, if_neg c, isSo_eq h (nI j), if_neg c2, spun_eq, if_neg c3, if_neg c3', m_add0, ih]
theorem alike_b {v m w : Int32} : ∀ n a i, ∃ k, k ≤ a + n ∧ lX5_howManyAlike_6 fi bt su kn v m w n (nI a) i = nI k := by
  intro n
  induction n with
  | zero => intro a i; exact ⟨a, Nat.le_refl _, rfl⟩
  | succ n ih =>
    intro a i
    by_cases c2 : fX5_canBe fi bt su kn (nI i) = 0
    · simp only [lX5_howManyAlike_6, if_pos c2]
      obtain ⟨k, k1, k2⟩ := ih a (i + 1)
      exact ⟨k, by omega, k2⟩
    · by_cases c3 : fX5_spinBehind v m (nI i) = w
      · simp only [lX5_howManyAlike_6, if_neg c2, if_pos c3, nI_1]
        obtain ⟨k, k1, k2⟩ := ih (a + 1) (i + 1)
        exact ⟨k, by omega, k2⟩
      · simp only [lX5_howManyAlike_6, if_neg c2, if_neg c3]
        obtain ⟨k, k1, k2⟩ := ih a (i + 1)
        exact ⟨k, by omega, k2⟩
theorem most_eq (h : SE fi bt su sF sB sS kn) {m : Nat} {v : Int32} : ∀ n a i, a ≤ 9 → (lX9_look_45 kn sF sB sS v m n (nI a) i = lX5_mostAlike_5 fi bt su kn v (nI m) n (nI a) i ∧ ∃ k, k ≤ 9 ∧ lX5_mostAlike_5 fi bt su kn v (nI m) n (nI a) i = nI k) := by
  intro n
  induction n with
  | zero => intro a i ha; exact ⟨rfl, a, ha, rfl⟩
  | succ n ih =>
    intro a i ha
    by_cases c : fX5_canBe fi bt su kn (nI i) = 0
    · have c' : fX9_isSo kn sF sB sS (nI i) = 0 := by rw [isSo_eq h]; exact c
      have e0 : fX9_larger (nI a) 0 = nI a := by simp only [fX9_larger, if_pos (nI_pos' (show a < 2 ^ 31 by omega))]
      simp only [lX9_look_45, lX5_mostAlike_5, if_pos c, l58_0 c', e0]
      exact ih a (i + 1) ha
    · have c' : ¬ fX9_isSo kn sF sB sS (nI i) = 0 := by rw [isSo_eq h]; exact c
      have hal : lX9_look_58 kn sF sB sS i v m (10 - 1) 0 1 = fX5_howManyAlike fi bt su kn v (nI m) (fX5_spinBehind v (nI m) (nI i)) := by
        simp only [fX5_howManyAlike]; exact l58_1 h c' _ _ _
      obtain ⟨k, k1, k2⟩ := alike_b (fi := fi) (bt := bt) (su := su) (kn := kn) (v := v) (m := nI m) (w := fX5_spinBehind v (nI m) (nI i)) 9 0 1
      have k2' : fX5_howManyAlike fi bt su kn v (nI m) (fX5_spinBehind v (nI m) (nI i)) = nI k := by
        simp only [fX5_howManyAlike]; exact k2
      have elar : fX9_larger (nI a) (nI k) = nI (max a k) ∧ (if nI a < nI k then nI k else nI a) = nI (max a k) := by
        by_cases hh : k ≤ a
        · rw [Nat.max_eq_left hh]
          simp only [fX9_larger, if_pos (nI_le hh (show a < 2 ^ 31 by omega)), if_neg (nI_nlt hh (show a < 2 ^ 31 by omega))]
          exact ⟨trivial, trivial⟩
        · rw [Nat.max_eq_right (by omega)]
          simp only [fX9_larger, if_neg (nI_ge (show a < k by omega) (show k < 2 ^ 31 by omega)), if_pos (nI_lt (show a < k by omega) (show k < 2 ^ 31 by omega))]
          exact ⟨trivial, trivial⟩
      simp only [lX9_look_45, lX5_mostAlike_5, if_neg c, hal, k2', elar.1, elar.2]
      exact ih (max a k) (i + 1) (by omega)
theorem look_23 (h : SE fi bt su sF sB sS kn) {v : Int32} (hm : ¬ fX9_drags kn sF sB sS 0 ≤ 1) : ∀ n (x2 x3 : Int32) i, lX9_look_23 kn sF sB sS v n x2 x3 i = lX5_bestWait_20 fi bt su kn v n x2 x3 i := by
  intro n
  induction n with
  | zero => intro x2 x3 i; rfl
  | succ n ih =>
    intro x2 x3 i
    have e : lX9_look_45 kn sF sB sS v i (10 - 1) 0 1 = fX5_mostAlike fi bt su kn v (nI i) := by
      simp only [fX5_mostAlike]; exact (most_eq h 9 0 1 (by omega)).1
    by_cases c : x3 ≤ fX5_mostAlike fi bt su kn v (nI i)
    · simp only [lX9_look_23, lX5_bestWait_20, if_neg hm, e, if_pos c, ih]
    · simp only [lX9_look_23, lX5_bestWait_20, if_neg hm, e, if_neg c, ih]
theorem l23_stop {v : Int32} {n i : Nat} {x2 x3 : Int32} (hm : fX9_drags kn sF sB sS 0 ≤ 1) : lX9_look_23 kn sF sB sS v (n + 1) x2 x3 i = x2 := by
  simp only [lX9_look_23, if_pos hm]
theorem l23_go {v : Int32} {n i : Nat} {x2 x3 r : Int32} (hm : ¬ fX9_drags kn sF sB sS 0 ≤ 1) (e : lX9_look_45 kn sF sB sS v i (10 - 1) 0 1 = r) (c : ¬ x3 ≤ r) : lX9_look_23 kn sF sB sS v (n + 1) x2 x3 i = lX9_look_23 kn sF sB sS v n (nI i) r (i + 1) := by
  subst e
  simp only [lX9_look_23, if_neg hm, if_neg c]
theorem bw_go {v : Int32} {n i : Nat} {x2 x3 r : Int32} (e : fX5_mostAlike fi bt su kn v (nI i) = r) (c : ¬ x3 ≤ r) : lX5_bestWait_20 fi bt su kn v (n + 1) x2 x3 i = lX5_bestWait_20 fi bt su kn v n (nI i) r (i + 1) := by
  subst e
  simp only [lX5_bestWait_20, if_neg c]
theorem look_sim (h : SE fi bt su sF sB sS kn) (v : Int32) : fX8_look fi bt su kn v = fX9_look kn sF sB sS v := by
  have i1 : fX9_in v.toInt64 1 60 = fX8_within v 1 60 := in_lit (by decide) (by decide)
  have hd := drags_sim h 0
  have hd' : fX5_howMany fi bt su kn = fX9_drags kn sF sB sS 0 := by rw [← hd]; simp only [fX8_drags, if_true]
  by_cases h1 : fX8_within v 1 60 = 0
  · simp only [fX8_look, fX9_look, fX8_isSpin, i1, h1, if_true]
  · simp only [fX8_look, fX9_look, fX8_isSpin, i1, if_neg h1, fX5_bestWait, hd']
    by_cases hm : fX9_drags kn sF sB sS 0 ≤ 1
    · rw [if_neg (m_nlt.mpr hm)]
      exact (l23_stop (n := 19) hm).symm
    · rw [if_pos (m_nle.mp hm)]
      obtain ⟨k, k1, k2⟩ := (most_eq h (m := 1) (v := v) 9 0 1 (by omega)).2
      have k2' : fX5_mostAlike fi bt su kn v (nI 1) = nI k := by simp only [fX5_mostAlike]; exact k2
      have e : lX9_look_45 kn sF sB sS v 1 (10 - 1) 0 1 = nI k := by rw [← k2']; simp only [fX5_mostAlike]; exact (most_eq h 9 0 1 (by omega)).1
      have c1 : ¬ (99 : Int32) ≤ nI k := by rw [m_le, nI_toInt (by omega), show (99 : Int32).toInt = 99 from by decide]; omega
      have c2 : ¬ (10 : Int32) ≤ nI k := by rw [m_le, nI_toInt (by omega), show (10 : Int32).toInt = 10 from by decide]; omega
      refine Eq.trans (bw_go (n := 19) k2' c2) (Eq.trans ?_ (l23_go (n := 19) hm e c1).symm)
      exact (look_23 h hm _ _ _ _).symm
end
