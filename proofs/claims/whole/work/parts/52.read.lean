def DR (np : Int32) (nt : Nat) (nP nS nD dr pl sp : Nat → Int32) : Prop := nt ≤ 6 ∧ PZ np ∧ (∀ t, t < nt → pl t = nP t ∧ sp t = nS t ∧ dr t = nD t ∧ 1 ≤ (sp t).toInt ∧ (sp t).toInt ≤ 60 ∧ 0 ≤ (pl t).toInt ∧ (pl t).toInt < np.toInt ∧ 1 ≤ (dr t).toInt ∧ (dr t).toInt ≤ 9) ∧ (∀ t, nt ≤ t → t < 6 → sp t = 0 ∧ pl t = -9) ∧ (∀ s t, s < nt → t < nt → pl s = pl t → s = t)
theorem wants_1 {mn : Nat} {mx : Nat → Int32} {nx mq : Nat} {mv a1 a2 : Int32} : fX9_wants mn mx nx mq mv 1 a1 a2 = (0, nx, mq, mv, 1) := by
  simp only [fX9_wants, if_neg m_10, if_true]
theorem tl_1 {nP : Nat → Int32} {p : Int32} : ∀ n i, lX9_topItem_32 nP p n i 1 = 1 := by
  intro n
  induction n with
  | zero => intro i; rfl
  | succ n ih => intro i; simp only [lX9_topItem_32, if_neg m_10, ih]
theorem tl_0 {nP : Nat → Int32} {p : Int32} : ∀ n i, (lX9_topItem_32 nP p n i 0 = 0 ∧ ∀ t, i ≤ t → t < i + n → nP t ≠ p) ∨ (lX9_topItem_32 nP p n i 0 = 1 ∧ ∃ t, i ≤ t ∧ t < i + n ∧ nP t = p) := by
  intro n
  induction n with
  | zero => intro i; exact Or.inl ⟨rfl, fun t a b => absurd b (by omega)⟩
  | succ n ih =>
    intro i
    by_cases c : nP i = p
    · simp only [lX9_topItem_32, if_true, if_pos c, tl_1]
      exact Or.inr ⟨trivial, i, Nat.le_refl _, by omega, c⟩
    · simp only [lX9_topItem_32, if_true, if_neg c]
      rcases ih (i + 1) with ⟨a, b⟩ | ⟨a, t, b1, b2, b3⟩
      · refine Or.inl ⟨a, fun t h1 h2 => ?_⟩
        by_cases e : t = i
        · subst e; exact c
        · exact b t (by omega) (by omega)
      · exact Or.inr ⟨a, t, by omega, by omega, b3⟩
theorem dr_sp {np : Int32} {nt : Nat} {nP nS nD dr pl sp : Nat → Int32} (h : DR np nt nP nS nD dr pl sp) {t : Nat} (ht : t < 6) : 0 < sp t ↔ t < nt := by
  obtain ⟨h1, h2, h3, h4, h5⟩ := h
  rcases Nat.lt_or_ge t nt with c | c
  · have := (h3 t c).2.2.2.1; rw [m_pos]; exact ⟨fun _ => c, fun _ => by omega⟩
  · rw [(h4 t c ht).1]; exact ⟨fun q => absurd q npos_0, fun q => absurd q (by omega)⟩
section
variable {le mx : Nat → Int32} {ln : Nat}
theorem top_item (h : LT le mx ln) (hl : ln ≤ 120) {bh : Nat} (hb : bh ≤ ln) {np : Int32} {nt : Nat} {nP nS nD dr pl sp : Nat → Int32} (hD : DR np nt nP nS nD dr pl sp) (hnt : ¬ 6 ≤ nt) (nl vl mv ts mj : Int32) (mq : Nat) :
  ((fX4_readTop vl bh le ln dr np nt pl sp).1 = 0 ∧ (fX9_item np nt nl nP nS nD ln mx bh mq mv ts 116 mj).2.2.2.2.2.2.2.2.2.1 = 1 ∧ (fX4_readTop vl bh le ln dr np nt pl sp).2.2.2.1 = (fX9_item np nt nl nP nS nD ln mx bh mq mv ts 116 mj).2.2.2.2.2.2.2.1 ∧ (fX9_item np nt nl nP nS nD ln mx bh mq mv ts 116 mj).2.2.2.2.2.2.2.1 ≤ ln) ∨
  ((fX4_readTop vl bh le ln dr np nt pl sp).1 = 1 ∧ ∃ nt' nP' nS' nD' nx' mq' mv', fX9_item np nt nl nP nS nD ln mx bh mq mv ts 116 mj = (np, nt', nl, nP', nS', nD', nx', mq', mv', 0, ts) ∧ (fX4_readTop vl bh le ln dr np nt pl sp).2.2.2.2.1 = nx' ∧ bh ≤ nx' ∧ nx' ≤ ln ∧ (fX4_readTop vl bh le ln dr np nt pl sp).2.2.2.2.2.2.1 = nt' ∧ DR np nt' nP' nS' nD' (fX4_readTop vl bh le ln dr np nt pl sp).2.2.2.2.2.1 (fX4_readTop vl bh le ln dr np nt pl sp).2.2.2.2.2.2.2.1 (fX4_readTop vl bh le ln dr np nt pl sp).2.2.2.2.2.2.2.2) := by
  have hD0 := hD
  obtain ⟨d1, d2, d3, d4, d5⟩ := hD
  have n6 : ¬ nt = 6 := by omega
  have c110 : ¬ ((116 : Int32) = 110) := by decide
  have em : (np - 1).toInt = np.toInt - 1 := by rw [m_sub (by have := d2.1; omega) (by have := d2.2; omega) (by rw [m_1]; omega) (by rw [m_1]; omega), m_1]
  have n1 := num_item h hl hb mq vl mv 0 (np - 1) (by have := d2.2; omega)
  rcases hN1 : fX4_readNumber vl bh le ln 0 (np - 1) with ⟨r1, tk1, v1, bg1, b1⟩
  rcases hW1 : fX9_wants ln mx bh mq mv 0 0 (np - 1) with ⟨p1, x1, q1, m1, w1⟩
  simp only [NUMS, hN1, hW1] at n1
  obtain ⟨e1, e2, e3, e4, e6, e5⟩ := n1
  rcases e5 with ⟨f1, f2⟩ | ⟨f1, f2, f3, f4, f5⟩
  · subst f1 f2
    refine Or.inl ?_
    simp only [fX4_readTop, hN1, if_true, fX9_item, if_neg c110, fX9_topItem, if_neg n6, hW1, tl_1, wants_1, if_neg m_10]
    exact ⟨trivial, trivial, e1, e6⟩
  subst f1 f2 f3 e2
  rw [m_0] at f4
  have hwho : (fX2_who pl sp p1 = -9 ∧ lX9_topItem_32 nP p1 nt 0 0 = 0 ∧ ∀ t, t < nt → pl t ≠ p1) ∨ (¬ fX2_who pl sp p1 = -9 ∧ lX9_topItem_32 nP p1 nt 0 0 = 1) := by
    rcases who_cases pl sp p1 with ⟨a, c⟩ | ⟨o, o1, o2, o3, o4⟩
    · refine Or.inl ⟨a, ?_, fun t ht => c t (by omega) ((dr_sp hD0 (by omega)).mpr ht)⟩
      rcases tl_0 (nP := nP) (p := p1) nt 0 with ⟨g, _⟩ | ⟨_, t, g1, g2, g3⟩
      · exact g
      · have ht : t < nt := by omega
        have := c t (by omega) ((dr_sp hD0 (by omega)).mpr ht)
        rw [(d3 t ht).1] at this; exact absurd g3 this
    · refine Or.inr ⟨by rw [o4]; exact nI_n9 o1, ?_⟩
      have ho := (dr_sp hD0 o1).mp o2
      rcases tl_0 (nP := nP) (p := p1) nt 0 with ⟨_, g⟩ | ⟨g, _⟩
      · have := g o (by omega) (by omega)
        rw [← (d3 o ho).1] at this; exact absurd o3 this
      · exact g
  rcases hwho with ⟨ha, hb', hc⟩ | ⟨ha, hb'⟩
  · have n2 := num_item h hl e4 q1 p1 m1 1 60 (by decide)
    rcases hN2 : fX4_readNumber p1 b1 le ln 1 60 with ⟨r2, tk2, v2, bg2, b2⟩
    rcases hW2 : fX9_wants ln mx b1 q1 m1 0 1 60 with ⟨p2, x2, q2, m2, w2⟩
    simp only [NUMS, hN2, hW2] at n2
    obtain ⟨i1, i2, i3, i4, i6, i5⟩ := n2
    rcases i5 with ⟨f1, f2⟩ | ⟨f1, f2, f3, f6, f7⟩
    · subst f1 f2
      refine Or.inl ?_
      simp only [fX4_readTop, hN1, if_neg m_10, ha, if_true, hN2, fX9_item, if_neg c110, fX9_topItem, if_neg n6, hW1, hb', hW2, wants_1]
      exact ⟨trivial, trivial, i1, i6⟩
    subst f1 f2 f3 i2
    rw [m_1] at f6
    rw [m_60] at f7
    have n3 := num_item h hl i4 q2 p2 m2 1 9 (by decide)
    rcases hN3 : fX4_readNumber p2 b2 le ln 1 9 with ⟨r3, tk3, v3, bg3, b3⟩
    rcases hW3 : fX9_wants ln mx b2 q2 m2 0 1 9 with ⟨p3, x3, q3, m3, w3⟩
    simp only [NUMS, hN3, hW3] at n3
    obtain ⟨j1, j2, j3, j4, j6, j5⟩ := n3
    rcases j5 with ⟨f1, f2⟩ | ⟨f1, f2, f3, f8, f9⟩
    · subst f1 f2
      refine Or.inl ?_
      simp only [fX4_readTop, hN1, if_neg m_10, ha, if_true, hN2, hN3, fX9_item, if_neg c110, fX9_topItem, if_neg n6, hW1, hb', hW2, hW3]
      exact ⟨trivial, trivial, j1, j6⟩
    subst f1 f2 f3 j2
    rw [m_1] at f8
    rw [show (9 : Int32).toInt = 9 from by decide] at f9
    obtain ⟨k1, k2, k3, k4, k6, k5⟩ := end_item h hl j4 p3 m3
    rcases hE : fX4_readItemEnd p3 b3 le ln with ⟨r4, tk4, v4, bg4, b4⟩
    rcases hT : fX9_token ln mx b3 m3 with ⟨rT, xT, qT, mT⟩
    simp only [hE, hT] at k1 k2 k3 k4 k5 k6
    rcases k5 with ⟨f1, f2⟩ | ⟨f1, f2⟩
    · subst f1
      refine Or.inl ?_
      simp only [fX4_readTop, hN1, if_neg m_10, ha, if_true, hN2, hN3, hE, fX9_item, if_neg c110, fX9_topItem, if_neg n6, hW1, hb', hW2, hW3, hT, if_neg f2]
      exact ⟨trivial, trivial, k1, k6⟩
    · subst f1 f2
      refine Or.inr ?_
      simp only [fX4_readTop, hN1, if_neg m_10, ha, if_true, hN2, hN3, hE, fX9_item, if_neg c110, fX9_topItem, if_neg n6, hW1, hb', hW2, hW3, hT]
      refine ⟨trivial, nt + 1, upd nP nt p1, upd nS nt p2, upd nD nt p3, xT, qT, mT, rfl, k2, by omega, k4, rfl, by omega, d2, fun t ht => ?_, fun t ht ht6 => ?_, fun s t hs ht e => ?_⟩
      · by_cases et : t = nt
        · subst et; simp only [m_us]; exact ⟨trivial, trivial, trivial, f6, f7, f4, by omega, f8, f9⟩
        · rw [m_un et, m_un et, m_un et, m_un et, m_un et, m_un et]; exact d3 t (by omega)
      · rw [m_un (by omega), m_un (by omega)]; exact d4 t (by omega) ht6
      · by_cases es : s = nt
        · by_cases et : t = nt
          · omega
          · rw [es, m_us, m_un et] at e; exact absurd e.symm (hc t (by omega))
        · by_cases et : t = nt
          · rw [et, m_us, m_un es] at e; exact absurd e (hc s (by omega))
          · rw [m_un es, m_un et] at e; exact d5 s t (by omega) (by omega) e
  · refine Or.inl ?_
    simp only [fX4_readTop, hN1, if_neg m_10, if_neg ha, fX9_item, if_neg c110, if_true, fX9_topItem, if_neg n6, hW1, hb', wants_1]
    exact ⟨trivial, trivial, e1, e6⟩
theorem places_item (h : LT le mx ln) (hl : ln ≤ 120) {bh : Nat} (hb : bh ≤ ln) {np : Int32} {nt : Nat} {nP nS nD dr pl sp : Nat → Int32} (hD : DR np nt nP nS nD dr pl sp) (hnt : nt = 0) (nl vl mv ts : Int32) (mq : Nat) :
  ((fX4_readPlaces vl bh le ln np).1 = 0 ∧ (fX9_item np nt nl nP nS nD ln mx bh mq mv ts 110 0).2.2.2.2.2.2.2.2.2.1 = 1 ∧ (fX4_readPlaces vl bh le ln np).2.2.2.1 = (fX9_item np nt nl nP nS nD ln mx bh mq mv ts 110 0).2.2.2.2.2.2.2.1 ∧ (fX9_item np nt nl nP nS nD ln mx bh mq mv ts 110 0).2.2.2.2.2.2.2.1 ≤ ln) ∨
  ((fX4_readPlaces vl bh le ln np).1 = 1 ∧ ∃ np' nx' mq' mv', fX9_item np nt nl nP nS nD ln mx bh mq mv ts 110 0 = (np', nt, nl, nP, nS, nD, nx', mq', mv', 0, ts) ∧ (fX4_readPlaces vl bh le ln np).2.2.2.2.1 = nx' ∧ bh ≤ nx' ∧ nx' ≤ ln ∧ (fX4_readPlaces vl bh le ln np).2.2.2.2.2 = np' ∧ DR np' nt nP nS nD dr pl sp) := by
  obtain ⟨d1, d2, d3, d4, d5⟩ := hD
  have z0 : (0 : Int32) ≤ 0 := by decide
  have n1 := num_item h hl hb mq vl mv 4 10 (by decide)
  rcases hN1 : fX4_readNumber vl bh le ln 4 10 with ⟨r1, tk1, v1, bg1, b1⟩
  rcases hW1 : fX9_wants ln mx bh mq mv 0 4 10 with ⟨p1, x1, q1, m1, w1⟩
  simp only [NUMS, hN1, hW1] at n1
  obtain ⟨e1, e2, e3, e4, e6, e5⟩ := n1
  rcases e5 with ⟨f1, f2⟩ | ⟨f1, f2, f3, f4, f5⟩
  · subst f1 f2
    refine Or.inl ?_
    simp only [fX4_readPlaces, hN1, if_true, fX9_item, if_pos z0, hW1, if_neg m_10]
    exact ⟨trivial, trivial, e1, e6⟩
  subst f1 f2 f3 e2
  rw [show (4 : Int32).toInt = 4 from by decide] at f4
  rw [show (10 : Int32).toInt = 10 from by decide] at f5
  obtain ⟨k1, k2, k3, k4, k6, k5⟩ := end_item h hl e4 p1 m1
  rcases hE : fX4_readItemEnd p1 b1 le ln with ⟨r4, tk4, v4, bg4, b4⟩
  rcases hT : fX9_token ln mx b1 m1 with ⟨rT, xT, qT, mT⟩
  simp only [hE, hT] at k1 k2 k3 k4 k5 k6
  rcases k5 with ⟨f1, f2⟩ | ⟨f1, f2⟩
  · subst f1
    refine Or.inl ?_
    simp only [fX4_readPlaces, hN1, if_neg m_10, hE, fX9_item, if_true, if_pos z0, hW1, hT, if_neg f2]
    exact ⟨trivial, trivial, k1, k6⟩
  · subst f1 f2
    refine Or.inr ?_
    simp only [fX4_readPlaces, hN1, if_neg m_10, hE, fX9_item, if_true, if_pos z0, hW1, hT]
    exact ⟨trivial, p1, xT, qT, mT, rfl, k2, by omega, k4, rfl, by omega, ⟨f4, f5⟩, fun t ht => absurd ht (by omega), d4, fun s t hs => absurd hs (by omega)⟩
theorem slow_item (h : LT le mx ln) (hl : ln ≤ 120) {bh : Nat} (hb : bh ≤ ln) {np : Int32} {nt : Nat} {nP nS nD : Nat → Int32} (nl vl mv mj : Int32) (mq : Nat) :
  ((fX4_readSlow 0 vl bh le ln nl).1 = 0 ∧ (fX9_item np nt nl nP nS nD ln mx bh mq mv 0 108 mj).2.2.2.2.2.2.2.2.2.1 = 1 ∧ (fX4_readSlow 0 vl bh le ln nl).2.2.2.2.1 = (fX9_item np nt nl nP nS nD ln mx bh mq mv 0 108 mj).2.2.2.2.2.2.2.1 ∧ (fX9_item np nt nl nP nS nD ln mx bh mq mv 0 108 mj).2.2.2.2.2.2.2.1 ≤ ln) ∨
  ((fX4_readSlow 0 vl bh le ln nl).1 = 1 ∧ ∃ nl' nx' mq' mv', fX9_item np nt nl nP nS nD ln mx bh mq mv 0 108 mj = (np, nt, nl', nP, nS, nD, nx', mq', mv', 0, 1) ∧ (fX4_readSlow 0 vl bh le ln nl).2.1 = 1 ∧ (fX4_readSlow 0 vl bh le ln nl).2.2.2.2.2.1 = nx' ∧ bh ≤ nx' ∧ nx' ≤ ln ∧ (fX4_readSlow 0 vl bh le ln nl).2.2.2.2.2.2 = nl') := by
  have c110 : ¬ ((108 : Int32) = 110) := by decide
  have c116 : ¬ ((108 : Int32) = 116) := by decide
  have n1 := num_item h hl hb mq vl mv 0 30 (by decide)
  rcases hN1 : fX4_readNumber vl bh le ln 0 30 with ⟨r1, tk1, v1, bg1, b1⟩
  rcases hW1 : fX9_wants ln mx bh mq mv 0 0 30 with ⟨p1, x1, q1, m1, w1⟩
  simp only [NUMS, hN1, hW1] at n1
  obtain ⟨e1, e2, e3, e4, e6, e5⟩ := n1
  rcases e5 with ⟨f1, f2⟩ | ⟨f1, f2, f3, f4, f5⟩
  · subst f1 f2
    refine Or.inl ?_
    simp only [fX4_readSlow, hN1, if_true, fX9_item, if_neg c110, if_neg c116, hW1, if_neg m_10]
    exact ⟨trivial, trivial, e1, e6⟩
  subst f1 f2 f3 e2
  obtain ⟨k1, k2, k3, k4, k6, k5⟩ := end_item h hl e4 p1 m1
  rcases hE : fX4_readItemEnd p1 b1 le ln with ⟨r4, tk4, v4, bg4, b4⟩
  rcases hT : fX9_token ln mx b1 m1 with ⟨rT, xT, qT, mT⟩
  simp only [hE, hT] at k1 k2 k3 k4 k5 k6
  rcases k5 with ⟨f1, f2⟩ | ⟨f1, f2⟩
  · subst f1
    refine Or.inl ?_
    simp only [fX4_readSlow, hN1, if_neg m_10, hE, fX9_item, if_true, if_neg c110, if_neg c116, hW1, hT, if_neg f2]
    exact ⟨trivial, trivial, k1, k6⟩
  · subst f1 f2
    refine Or.inr ?_
    simp only [fX4_readSlow, hN1, if_neg m_10, hE, fX9_item, if_true, if_neg c110, if_neg c116, hW1, hT]
    exact ⟨trivial, p1, xT, qT, mT, rfl, trivial, k2, by omega, k4, rfl⟩
end
