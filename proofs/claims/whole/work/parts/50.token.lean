def LT (le mx : Nat → Int32) (ln : Nat) : Prop := ∀ i, i < ln → le i = mx i &&& 255 ∧ 0 ≤ (le i).toInt ∧ (le i).toInt ≤ 255
theorem m_mul10 {x : Int32} (h1 : -100000000 ≤ x.toInt) (h2 : x.toInt ≤ 100000000) : (x * 10).toInt = x.toInt * 10 ∧ (10 * x).toInt = x.toInt * 10 := by
  have e : (10 : Int32).toInt = 10 := by decide
  refine ⟨?_, ?_⟩
  · rw [Int32.toInt_mul, e]; exact Int.bmod_eq_of_le (by omega) (by omega)
  · rw [Int32.toInt_mul, e, Int.mul_comm]; exact Int.bmod_eq_of_le (by omega) (by omega)
theorem m_48 : (48 : Int32).toInt = 48 := by decide
theorem m_57 : (57 : Int32).toInt = 57 := by decide
theorem m_99 : (99 : Int32).toInt = 99 := by decide
theorem m_100 : (100 : Int32).toInt = 100 := by decide
theorem m_1000 : (1000 : Int32).toInt = 1000 := by decide
section
variable {le mx : Nat → Int32} {ln : Nat}
theorem lat_1 (h : LT le mx ln) {i : Nat} (hi : i < ln) : fX9_letterAt ln mx i = le i := by
  simp only [fX9_letterAt, if_neg (show ¬ ln ≤ i by omega), (h i hi).1]
theorem lat_0 {i : Nat} (hi : ln ≤ i) : fX9_letterAt ln mx i = -1 := by
  simp only [fX9_letterAt, if_pos hi]
theorem dig_eq (c : Int32) : fX9_in c.toInt64 48 57 = fX4_isDigit c := in_lit (lo := 48) (hi := 57) (by decide) (by decide)
theorem dig_iff {c : Int32} : ¬ fX4_isDigit c = 0 ↔ 48 ≤ c.toInt ∧ c.toInt ≤ 57 := by
  have := within_iff (x := c) (lo := 48) (hi := 57)
  rw [m_le, m_le, m_48, m_57] at this
  exact this
theorem blanks_sim (h : LT le mx ln) (hl : ln ≤ 120) : ∀ n i, n + i = ln → ∃ p, i ≤ p ∧ p ≤ ln ∧ lX4_behindBlanks_5 ln le n i = nI p ∧ lX9_token_0 ln mx (n + 1) i = p := by
  intro n
  induction n with
  | zero =>
    intro i hi
    refine ⟨ln, by omega, Nat.le_refl _, rfl, ?_⟩
    have e : i = ln := by omega
    subst e
    simp only [lX9_token_0, lat_0 (Nat.le_refl _), show ¬ ((-1 : Int32) = 32) from by decide, if_false]
  | succ n ih =>
    intro i hi
    by_cases c : le i = 32
    · obtain ⟨p, p1, p2, p3, p4⟩ := ih (i + 1) (by omega)
      refine ⟨p, by omega, p2, ?_, ?_⟩
      · simp only [lX4_behindBlanks_5, if_pos c]; exact p3
      · have e : lX9_token_0 ln mx (n + 1 + 1) i = lX9_token_0 ln mx (n + 1) (i + 1) := by
          rw [lX9_token_0.eq_2]; simp only [lat_1 h (show i < ln by omega), if_pos c]
        rw [e]; exact p4
    · refine ⟨i, Nat.le_refl _, by omega, ?_, ?_⟩
      · simp only [lX4_behindBlanks_5, if_neg c]
      · have e : lX9_token_0 ln mx (n + 1 + 1) i = i := by
          rw [lX9_token_0.eq_2]; simp only [lat_1 h (show i < ln by omega), if_neg c]
        exact e
def VR (nz : Prop) (fig : Nat) (v mv : Int32) : Prop := (fig = 0 ∧ v = 0 ∧ mv = 0) ∨ (fig = 1 ∧ v = mv ∧ 0 ≤ v.toInt ∧ v.toInt ≤ 9 ∧ (nz → 1 ≤ v.toInt)) ∨ (fig = 2 ∧ v = mv ∧ 0 ≤ v.toInt ∧ v.toInt ≤ 99 ∧ (nz → 10 ≤ v.toInt)) ∨ (3 ≤ fig ∧ mv = 1000 ∧ 0 ≤ v.toInt ∧ v.toInt ≤ 100 ∧ (nz → v.toInt = 100))
theorem vr_step {nz : Prop} {fig : Nat} {v mv c : Int32} (hc : 48 ≤ c.toInt ∧ c.toInt ≤ 57) (h : VR nz fig v mv) (hf : fig = 0 → nz → c.toInt ≠ 48) : VR nz (fig + 1) (if ((v * 10) + c) - 48 < 100 then ((v * 10) + c) - 48 else 100) (if 2 ≤ fig then 1000 else ((10 * mv) + c) - 48) := by
  have hvb : 0 ≤ v.toInt ∧ v.toInt ≤ 100 := by
    rcases h with ⟨_, e, _⟩ | ⟨_, _, a, b, _⟩ | ⟨_, _, a, b, _⟩ | ⟨_, _, a, b, _⟩
    · rw [e, m_0]; omega
    · omega
    · omega
    · omega
  have e1 := (m_mul10 (x := v) (by omega) (by omega)).1
  have e2 : (v * 10 + c).toInt = v.toInt * 10 + c.toInt := by rw [m_add (by omega) (by omega) (by omega) (by omega), e1]
  have e3 : (v * 10 + c - 48).toInt = v.toInt * 10 + c.toInt - 48 := by rw [m_sub (by omega) (by omega) (by rw [m_48]; omega) (by rw [m_48]; omega), e2, m_48]
  have e4 : v = mv → v * 10 + c - 48 = 10 * mv + c - 48 := by
    intro e; subst e
    have := m_mul10 (x := v) (by omega) (by omega)
    rw [show v * 10 = 10 * v from m_eq.mpr (by omega)]
  have hlt : (v * 10 + c - 48 < 100) ↔ v.toInt * 10 + c.toInt - 48 < 100 := by rw [m_lt, e3, m_100]
  rcases h with ⟨f, a, b⟩ | ⟨f, a, b1, b2, b3⟩ | ⟨f, a, b1, b2, b3⟩ | ⟨f, a, b1, b2, b3⟩
  · have v0 : v.toInt = 0 := by rw [a, m_0]
    rw [if_pos (hlt.mpr (by omega)), if_neg (by omega)]
    refine Or.inr (Or.inl ⟨by omega, e4 (a.trans b.symm), by omega, by omega, fun z => ?_⟩)
    have := hf f z; omega
  · rw [if_pos (hlt.mpr (by omega)), if_neg (by omega)]
    refine Or.inr (Or.inr (Or.inl ⟨by omega, e4 a, by omega, by omega, fun z => ?_⟩))
    have := b3 z; omega
  · rw [if_pos (show 2 ≤ fig by omega)]
    refine Or.inr (Or.inr (Or.inr ⟨by omega, rfl, ?_⟩))
    by_cases c1 : v * 10 + c - 48 < 100
    · rw [if_pos c1, e3]
      have := hlt.mp c1
      exact ⟨by omega, by omega, fun z => by have := b3 z; omega⟩
    · rw [if_neg c1, m_100]; exact ⟨by omega, by omega, fun _ => rfl⟩
  · rw [if_pos (show 2 ≤ fig by omega)]
    refine Or.inr (Or.inr (Or.inr ⟨by omega, rfl, ?_⟩))
    by_cases c1 : v * 10 + c - 48 < 100
    · rw [if_pos c1, e3]
      have := hlt.mp c1
      exact ⟨by omega, by omega, fun z => by have := b3 z; omega⟩
    · rw [if_neg c1, m_100]; exact ⟨by omega, by omega, fun _ => rfl⟩
theorem num_sim (h : LT le mx ln) {nz : Prop} : ∀ n i fig (v mv : Int32), n + i = ln → VR nz fig v mv → (fig = 0 → nz → i < ln → (le i).toInt ≠ 48) → ∃ q, i ≤ q ∧ q ≤ ln ∧ (lX4_takeNumber_5 le n v i).2 = q ∧ (lX9_token_64 ln mx (n + 1) fig i mv).2.1 = q ∧ (lX9_token_64 ln mx (n + 1) fig i mv).1 = fig + (q - i) ∧ VR nz (fig + (q - i)) (lX4_takeNumber_5 le n v i).1 (lX9_token_64 ln mx (n + 1) fig i mv).2.2 ∧ (i < ln → ¬ fX4_isDigit (le i) = 0 → i + 1 ≤ q) := by
  intro n
  induction n with
  | zero =>
    intro i fig v mv hi hv _
    have e : lX9_token_64 ln mx (0 + 1) fig i mv = (fig, i, mv) := by
      rw [lX9_token_64.eq_2]
      simp only [lat_0 (show ln ≤ i by omega), dig_eq, show fX4_isDigit (-1) = 0 from by decide, if_true]
    rw [e]
    refine ⟨i, Nat.le_refl _, by omega, rfl, rfl, by simp only [Nat.sub_self, Nat.add_zero], ?_, fun a => absurd a (by omega)⟩
    simp only [Nat.sub_self, Nat.add_zero]; exact hv
  | succ n ih =>
    intro i fig v mv hi hv hf
    have hil : i < ln := by omega
    by_cases c : fX4_isDigit (le i) = 0
    · have e : lX9_token_64 ln mx (n + 1 + 1) fig i mv = (fig, i, mv) := by
        rw [lX9_token_64.eq_2]
        simp only [lat_1 h hil, dig_eq, c, if_true]
      have e2 : lX4_takeNumber_5 le (n + 1) v i = (v, i) := by
        simp only [lX4_takeNumber_5, c, if_true]
      rw [e, e2]
      refine ⟨i, Nat.le_refl _, by omega, rfl, rfl, by simp only [Nat.sub_self, Nat.add_zero], ?_, fun _ a => absurd c a⟩
      simp only [Nat.sub_self, Nat.add_zero]; exact hv
    · have hd := dig_iff.mp c
      have hv2 := vr_step hd hv (fun a b => hf a b hil)
      obtain ⟨q, q1, q2, q3, q4, q5, q6, _⟩ := ih (i + 1) (fig + 1) _ _ (by omega) hv2 (fun a => absurd a (by omega))
      have e : lX9_token_64 ln mx (n + 1 + 1) fig i mv = lX9_token_64 ln mx (n + 1) (fig + 1) (i + 1) (if 2 ≤ fig then 1000 else ((10 * mv) + le i) - 48) := by
        rw [lX9_token_64.eq_2]
        simp only [lat_1 h hil, dig_eq, if_neg c]
      have e2 : lX4_takeNumber_5 le (n + 1) v i = lX4_takeNumber_5 le n (if ((v * 10) + le i) - 48 < 100 then ((v * 10) + le i) - 48 else 100) (i + 1) := by
        simp only [lX4_takeNumber_5, if_neg c]
      rw [e, e2]
      have ef : fig + 1 + (q - (i + 1)) = fig + (q - i) := by omega
      rw [ef] at q5 q6
      exact ⟨q, by omega, q2, q3, q4, q5, q6, fun _ _ => by omega⟩
def TKR (tk vl r mv : Int32) : Prop := (tk = -1 ∧ r = 4) ∨ (tk = 59 ∧ r = 2) ∨ ((tk = 110 ∨ tk = 116 ∨ tk = 108) ∧ r = tk) ∨ (tk = -3 ∧ (r = 3 ∨ (r = 1 ∧ mv = 1000))) ∨ (tk = -2 ∧ r = 1 ∧ mv = vl ∧ 0 ≤ vl.toInt ∧ vl.toInt ≤ 99)
theorem token_sim (h : LT le mx ln) (hl : ln ≤ 120) {bh : Nat} (hb : bh ≤ ln) (vl mv : Int32) : TKR (fX4_nextToken vl bh le ln).1 (fX4_nextToken vl bh le ln).2.1 (fX9_token ln mx bh mv).1 (fX9_token ln mx bh mv).2.2.2 ∧ (fX4_nextToken vl bh le ln).2.2.1 = (fX9_token ln mx bh mv).2.2.1 ∧ (fX4_nextToken vl bh le ln).2.2.2 = (fX9_token ln mx bh mv).2.1 ∧ bh ≤ (fX9_token ln mx bh mv).2.1 ∧ (fX9_token ln mx bh mv).2.1 ≤ ln ∧ (¬ (fX4_nextToken vl bh le ln).1 = -1 → bh + 1 ≤ (fX9_token ln mx bh mv).2.1) ∧ (fX9_token ln mx bh mv).2.2.1 ≤ ln := by
  obtain ⟨p, p1, p2, p3, p4⟩ := blanks_sim h hl (ln - bh) bh (by omega)
  have ep : (nI p).toNatClampNeg = p := nI_clamp (by omega)
  have em : ln + 1 - bh = ln - bh + 1 := by omega
  have w0 : ∀ {c : Int32}, ¬ (0 ≤ c ↔ False) ∨ ¬ 0 ≤ c := fun {c} => by by_cases q : 0 ≤ c <;> simp [q]
  by_cases hp : p < ln
  · by_cases c : fX4_isDigit (le p) = 0
    · have hge : (0 : Int32) ≤ le p := by rw [m_le, m_0]; exact (h p hp).2.1
      by_cases c1 : le p = 59
      · simp only [fX4_nextToken, fX4_behindBlanks, p3, ep, if_pos hp, fX9_token, em, p4, lat_1 h hp, dig_eq, c1, show fX4_isDigit 59 = 0 from by decide, if_true, show ((0 : Int32) ≤ 59) from by decide, show ¬ ((59 : Int32) = 110) from by decide, show ¬ ((59 : Int32) = 116) from by decide, show ¬ ((59 : Int32) = 108) from by decide, if_false, if_neg m_10]
        exact ⟨Or.inr (Or.inl ⟨rfl, rfl⟩), trivial, trivial, by omega, by omega, fun _ => by omega, by omega⟩
      by_cases c2 : le p = 110
      · simp only [fX4_nextToken, fX4_behindBlanks, p3, ep, if_pos hp, fX9_token, em, p4, lat_1 h hp, dig_eq, c2, show fX4_isDigit 110 = 0 from by decide, if_true, show ((0 : Int32) ≤ 110) from by decide, show ¬ ((110 : Int32) = 59) from by decide, if_false, if_neg m_10]
        exact ⟨Or.inr (Or.inr (Or.inl ⟨Or.inl rfl, rfl⟩)), trivial, trivial, by omega, by omega, fun _ => by omega, by omega⟩
      by_cases c3 : le p = 116
      · simp only [fX4_nextToken, fX4_behindBlanks, p3, ep, if_pos hp, fX9_token, em, p4, lat_1 h hp, dig_eq, c3, show fX4_isDigit 116 = 0 from by decide, if_true, show ((0 : Int32) ≤ 116) from by decide, show ¬ ((116 : Int32) = 59) from by decide, show ¬ ((116 : Int32) = 110) from by decide, if_false, if_neg m_10]
        exact ⟨Or.inr (Or.inr (Or.inl ⟨Or.inr (Or.inl rfl), rfl⟩)), trivial, trivial, by omega, by omega, fun _ => by omega, by omega⟩
      by_cases c4 : le p = 108
      · simp only [fX4_nextToken, fX4_behindBlanks, p3, ep, if_pos hp, fX9_token, em, p4, lat_1 h hp, dig_eq, c4, show fX4_isDigit 108 = 0 from by decide, if_true, show ((0 : Int32) ≤ 108) from by decide, show ¬ ((108 : Int32) = 59) from by decide, show ¬ ((108 : Int32) = 110) from by decide, show ¬ ((108 : Int32) = 116) from by decide, if_false, if_neg m_10]
        exact ⟨Or.inr (Or.inr (Or.inl ⟨Or.inr (Or.inr rfl), rfl⟩)), trivial, trivial, by omega, by omega, fun _ => by omega, by omega⟩
      simp only [fX4_nextToken, fX4_behindBlanks, p3, ep, if_pos hp, fX9_token, em, p4, lat_1 h hp, dig_eq, c, if_true, if_pos hge, if_neg c1, if_neg c2, if_neg c3, if_neg c4]
      exact ⟨Or.inr (Or.inr (Or.inr (Or.inl ⟨rfl, Or.inl rfl⟩))), trivial, trivial, by omega, by omega, fun _ => by omega, by omega⟩
    · obtain ⟨q, q1, q2, q3, q4, q5, q6, q7⟩ := num_sim h (nz := ¬ le p = 48) (ln - p) p 0 0 0 (by omega) (Or.inl ⟨rfl, rfl, rfl⟩) (fun _ z _ e => z (m_eq.mpr (by rw [e, m_48])))
      have q7' := q7 hp c
      have em2 : ln + 1 - p = ln - p + 1 := by omega
      simp only [fX4_nextToken, fX4_behindBlanks, p3, ep, if_pos hp, fX9_token, em, p4, lat_1 h hp, dig_eq, if_neg c, fX4_takeNumber, q3, em2, q4, q5, Nat.zero_add]
      simp only [Nat.zero_add] at q6
      generalize hV : (lX4_takeNumber_5 le (ln - p) 0 p).1 = V at *
      generalize hW : (lX9_token_64 ln mx (ln - p + 1) 0 p 0).2.2 = W at *
      by_cases z : le p = 48
      · by_cases f1 : q ≤ p + 1
        · have f1' : q - p ≤ 1 := by omega
          simp only [if_pos z, if_pos f1, if_true, if_pos f1']
          rcases q6 with ⟨f, _, _⟩ | ⟨f, a, b1, b2, b3⟩ | ⟨f, a, b1, b2, b3⟩ | ⟨f, a, b1, b2, b3⟩
          · omega
          · have hv : V ≤ 99 := by rw [m_le, m_99]; omega
            simp only [if_pos hv]
            exact ⟨Or.inr (Or.inr (Or.inr (Or.inr ⟨rfl, rfl, a.symm, b1, by omega⟩))), trivial, trivial, by omega, by omega, fun _ => by omega, by omega⟩
          · omega
          · omega
        · have f1' : ¬ q - p ≤ 1 := by omega
          simp only [if_pos z, if_neg f1, if_neg m_10, if_neg f1']
          exact ⟨Or.inr (Or.inr (Or.inr (Or.inl ⟨rfl, Or.inr ⟨rfl, rfl⟩⟩))), trivial, trivial, by omega, by omega, fun _ => by omega, by omega⟩
      · rcases q6 with ⟨f, _, _⟩ | ⟨f, a, b1, b2, b3⟩ | ⟨f, a, b1, b2, b3⟩ | ⟨f, a, b1, b2, b3⟩
        · omega
        · have hv : V ≤ 99 := by rw [m_le, m_99]; omega
          have f1' : q - p ≤ 1 := by omega
          simp only [if_neg z, if_true, if_pos hv, if_pos f1']
          exact ⟨Or.inr (Or.inr (Or.inr (Or.inr ⟨rfl, rfl, a.symm, b1, by omega⟩))), trivial, trivial, by omega, by omega, fun _ => by omega, by omega⟩
        · have hv : V ≤ 99 := by rw [m_le, m_99]; omega
          have f1' : ¬ q - p ≤ 1 := by omega
          simp only [if_neg z, if_true, if_pos hv, if_neg f1']
          exact ⟨Or.inr (Or.inr (Or.inr (Or.inr ⟨rfl, rfl, a.symm, b1, by omega⟩))), trivial, trivial, by omega, by omega, fun _ => by omega, by omega⟩
        · have hv : ¬ V ≤ 99 := by rw [m_le, m_99]; have := b3 z; omega
          have f1' : ¬ q - p ≤ 1 := by omega
          simp only [if_neg z, if_true, if_neg hv, if_neg f1']
          exact ⟨Or.inr (Or.inr (Or.inr (Or.inl ⟨rfl, Or.inr ⟨rfl, a⟩⟩))), trivial, trivial, by omega, by omega, fun _ => by omega, by omega⟩
  · have e1 : ¬ (0 : Int32) ≤ -1 := by decide
    simp only [fX4_nextToken, fX4_behindBlanks, p3, ep, if_neg hp, fX9_token, em, p4, lat_0 (show ln ≤ p by omega), dig_eq, show fX4_isDigit (-1) = 0 from by decide, if_true, if_neg e1, Nat.add_zero]
    exact ⟨Or.inl ⟨rfl, rfl⟩, trivial, trivial, p1, by omega, fun c => absurd trivial c, p2⟩
end
