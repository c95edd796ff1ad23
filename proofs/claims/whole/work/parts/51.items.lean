section
variable {le mx : Nat → Int32} {ln : Nat}
/-- a number is read: both read it, at one place, or both don't -/
def NUMS (vl : Int32) (bh : Nat) (le : Nat → Int32) (ln : Nat) (mx : Nat → Int32) (mq : Nat) (mv a1 a2 : Int32) : Prop := (fX4_readNumber vl bh le ln a1 a2).2.2.2.1 = (fX9_wants ln mx bh mq mv 0 a1 a2).2.2.1 ∧ (fX4_readNumber vl bh le ln a1 a2).2.2.2.2 = (fX9_wants ln mx bh mq mv 0 a1 a2).2.1 ∧ bh ≤ (fX9_wants ln mx bh mq mv 0 a1 a2).2.1 ∧ (fX9_wants ln mx bh mq mv 0 a1 a2).2.1 ≤ ln ∧ (fX9_wants ln mx bh mq mv 0 a1 a2).2.2.1 ≤ ln ∧ (((fX4_readNumber vl bh le ln a1 a2).1 = 0 ∧ (fX9_wants ln mx bh mq mv 0 a1 a2).2.2.2.2 = 1) ∨ ((fX4_readNumber vl bh le ln a1 a2).1 = 1 ∧ (fX9_wants ln mx bh mq mv 0 a1 a2).2.2.2.2 = 0 ∧ (fX9_wants ln mx bh mq mv 0 a1 a2).1 = (fX4_readNumber vl bh le ln a1 a2).2.2.1 ∧ a1.toInt ≤ ((fX4_readNumber vl bh le ln a1 a2).2.2.1).toInt ∧ ((fX4_readNumber vl bh le ln a1 a2).2.2.1).toInt ≤ a2.toInt))
theorem num_item (h : LT le mx ln) (hl : ln ≤ 120) {bh : Nat} (hb : bh ≤ ln) (mq : Nat) (vl mv a1 a2 : Int32) (ha : a2.toInt ≤ 99) : NUMS vl bh le ln mx mq mv a1 a2 := by
  obtain ⟨t1, t2, t3, t4, t5, t6, t7⟩ := token_sim h hl hb vl mv
  have iw : ∀ x : Int32, fX9_in x.toInt64 a1.toInt64 a2.toInt64 = fX8_within x a1 a2 := fun x => in_lit rfl rfl
  simp only [NUMS, fX4_readNumber, fX9_wants, if_true, iw]
  generalize fX4_nextToken vl bh le ln = N at *
  generalize fX9_token ln mx bh mv = T at *
  obtain ⟨tk, v, bg, b2⟩ := N
  obtain ⟨r, nx2, q2, w⟩ := T
  simp only at t1 t2 t3 t4 t5 t6 t7 ⊢
  rcases t1 with ⟨a, b⟩ | ⟨a, b⟩ | ⟨a, b⟩ | ⟨a, b⟩ | ⟨a, b, c, d1, d2⟩
  · have h1 : ¬ tk = -2 := by rw [a]; decide
    have h2 : ¬ r = 1 := by rw [b]; decide
    simp only [if_neg h1, if_neg h2, if_true]
    exact ⟨t2, t3, t4, t5, t7, Or.inl ⟨trivial, trivial⟩⟩
  · have h1 : ¬ tk = -2 := by rw [a]; decide
    have h2 : ¬ r = 1 := by rw [b]; decide
    simp only [if_neg h1, if_neg h2, if_true]
    exact ⟨t2, t3, t4, t5, t7, Or.inl ⟨trivial, trivial⟩⟩
  · have h1 : ¬ tk = -2 := by rcases a with a | a | a <;> (rw [a]; decide)
    have h2 : ¬ r = 1 := by rw [b]; rcases a with a | a | a <;> (rw [a]; decide)
    simp only [if_neg h1, if_neg h2, if_true]
    exact ⟨t2, t3, t4, t5, t7, Or.inl ⟨trivial, trivial⟩⟩
  · have h1 : ¬ tk = -2 := by rw [a]; decide
    rcases b with b | ⟨b, c⟩
    · have h2 : ¬ r = 1 := by rw [b]; decide
      simp only [if_neg h1, if_neg h2, if_true]
      exact ⟨t2, t3, t4, t5, t7, Or.inl ⟨trivial, trivial⟩⟩
    · have hw : fX8_within w a1 a2 = 0 := by
        refine Decidable.byContradiction (fun q => ?_)
        have := (within_iff.mp q).2
        rw [c, m_le, m_1000] at this; omega
      simp only [if_neg h1, if_pos b, hw, if_true]
      exact ⟨t2, t3, t4, t5, t7, Or.inl ⟨trivial, trivial⟩⟩
  · subst c
    by_cases hw : fX8_within w a1 a2 = 0
    · simp only [if_pos a, if_pos b, hw, if_true]
      exact ⟨t2, t3, t4, t5, t7, Or.inl ⟨trivial, trivial⟩⟩
    · have := within_iff.mp hw
      rw [m_le, m_le] at this
      simp only [if_pos a, if_pos b, if_neg hw, if_neg m_10]
      exact ⟨t2, t3, t4, t5, t7, Or.inr ⟨trivial, trivial, trivial, this.1, this.2⟩⟩
/-- an item's end -/
theorem end_item (h : LT le mx ln) (hl : ln ≤ 120) {bh : Nat} (hb : bh ≤ ln) (vl mv : Int32) : (fX4_readItemEnd vl bh le ln).2.2.2.1 = (fX9_token ln mx bh mv).2.2.1 ∧ (fX4_readItemEnd vl bh le ln).2.2.2.2 = (fX9_token ln mx bh mv).2.1 ∧ bh ≤ (fX9_token ln mx bh mv).2.1 ∧ (fX9_token ln mx bh mv).2.1 ≤ ln ∧ (fX9_token ln mx bh mv).2.2.1 ≤ ln ∧ (((fX4_readItemEnd vl bh le ln).1 = 0 ∧ ¬ (fX9_token ln mx bh mv).1 = 2) ∨ ((fX4_readItemEnd vl bh le ln).1 = 1 ∧ (fX9_token ln mx bh mv).1 = 2)) := by
  obtain ⟨t1, t2, t3, t4, t5, t6, t7⟩ := token_sim h hl hb vl mv
  simp only [fX4_readItemEnd]
  generalize fX4_nextToken vl bh le ln = N at *
  generalize fX9_token ln mx bh mv = T at *
  obtain ⟨tk, v, bg, b2⟩ := N
  obtain ⟨r, nx2, q2, w⟩ := T
  simp only at t1 t2 t3 t4 t5 t6 t7 ⊢
  rcases t1 with ⟨a, b⟩ | ⟨a, b⟩ | ⟨a, b⟩ | ⟨a, b⟩ | ⟨a, b, c, d1, d2⟩
  · have h1 : ¬ tk = 59 := by rw [a]; decide
    have h2 : ¬ r = 2 := by rw [b]; decide
    simp only [if_neg h1]
    exact ⟨t2, t3, t4, t5, t7, Or.inl ⟨trivial, h2⟩⟩
  · simp only [if_pos a]
    exact ⟨t2, t3, t4, t5, t7, Or.inr ⟨trivial, b⟩⟩
  · have h1 : ¬ tk = 59 := by rcases a with a | a | a <;> (rw [a]; decide)
    have h2 : ¬ r = 2 := by rw [b]; rcases a with a | a | a <;> (rw [a]; decide)
    simp only [if_neg h1]
    exact ⟨t2, t3, t4, t5, t7, Or.inl ⟨trivial, h2⟩⟩
  · have h1 : ¬ tk = 59 := by rw [a]; decide
    have h2 : ¬ r = 2 := by rcases b with b | ⟨b, _⟩ <;> (rw [b]; decide)
    simp only [if_neg h1]
    exact ⟨t2, t3, t4, t5, t7, Or.inl ⟨trivial, h2⟩⟩
  · have h1 : ¬ tk = 59 := by rw [a]; decide
    have h2 : ¬ r = 2 := by rw [b]; decide
    simp only [if_neg h1]
    exact ⟨t2, t3, t4, t5, t7, Or.inl ⟨trivial, h2⟩⟩
end
