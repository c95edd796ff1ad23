theorem tray_stop {mn : Nat} {mx : Nat → Int32} {n : Nat} {x1 x2 np : Int32} {nt : Nat} {nl : Int32} {nP nS nD : Nat → Int32} {nx mq : Nat} {mv wr ts : Int32} (h : ¬ wr = 0) : lX9_tray_39 mn mx n x1 x2 np nt nl nP nS nD nx mq mv wr ts = (x1, np, nt, nl, nP, nS, nD, nx, mq, mv, wr, ts) := by
  cases n with
  | zero => rfl
  | succ n =>
    by_cases c : x2 = 4
    · simp only [lX9_tray_39, if_pos c]
    · simp only [lX9_tray_39, if_neg c, if_neg h]
theorem tray_end {mn : Nat} {mx : Nat → Int32} {n : Nat} {x1 np : Int32} {nt : Nat} {nl : Int32} {nP nS nD : Nat → Int32} {nx mq : Nat} {mv wr ts : Int32} : lX9_tray_39 mn mx n x1 4 np nt nl nP nS nD nx mq mv wr ts = (x1, np, nt, nl, nP, nS, nD, nx, mq, mv, wr, ts) := by
  cases n with
  | zero => rfl
  | succ n => simp only [lX9_tray_39, if_true]
theorem read_end {be ti : Int32} {le : Nat → Int32} {ln n x : Nat} {it st vl : Int32} {bg bh : Nat} {dr : Nat → Int32} {pz sl : Int32} {tp : Nat} {pl sp : Nat → Int32} : lX4_read_35 be ti le ln n x it st (-1) vl bg bh dr pz sl tp pl sp = (it, it, st, -1, vl, bg, bh, dr, pz, sl, tp, pl, sp, be, ti) := by
  cases n with
  | zero => rfl
  | succ n => simp only [lX4_read_35, if_true]
theorem m_fault {k : Nat} (hk : k ≤ 120) : ((-10 : Int32) - nI k).toInt = -10 - (k : Int) := by
  rw [m_sub (by decide) (by decide) (by rw [nI_toInt (by omega)]; omega) (by rw [nI_toInt (by omega)]; omega), nI_toInt (by omega)]; rfl
/-- what a text says: the class's reading (answer, drags, places, slow, tops, place, spin) and the model's -/
def SAYS (A : Int32) (Ddr : Nat → Int32) (Dpz Dsl : Int32) (Dtp : Nat) (Dpl Dsp : Nat → Int32) (M : Int32 × Int32 × Nat × Int32 × (Nat → Int32) × (Nat → Int32) × (Nat → Int32) × Nat × Nat × Int32 × Int32 × Int32) : Prop :=
  (A < 0 ∧ ¬ M.2.2.2.2.2.2.2.2.2.2.1 = 0 ∧ A = -10 - nI M.2.2.2.2.2.2.2.2.1) ∨ (0 ≤ A ∧ M.2.2.2.2.2.2.2.2.2.2.1 = 0 ∧ A = M.1 ∧ DR M.2.1 M.2.2.1 M.2.2.2.2.1 M.2.2.2.2.2.1 M.2.2.2.2.2.2.1 Ddr Dpl Dsp ∧ Dpz = M.2.1 ∧ Dsl = M.2.2.2.1 ∧ Dtp = M.2.2.1)
section
variable {le mx : Nat → Int32} {ln : Nat}
theorem says_fault {A : Int32} {Ddr : Nat → Int32} {Dpz Dsl : Int32} {Dtp : Nat} {Dpl Dsp : Nat → Int32} {x1 np : Int32} {nt : Nat} {nl : Int32} {nP nS nD : Nat → Int32} {nx mq : Nat} {mv ts : Int32} (hq : mq ≤ 120) (h : A = -10 - nI mq) : SAYS A Ddr Dpz Dsl Dtp Dpl Dsp (x1, np, nt, nl, nP, nS, nD, nx, mq, mv, 1, ts) := by
  refine Or.inl ⟨?_, m_10, h⟩
  rw [h, m_lt, m_fault hq, m_0]; omega
theorem tray_bad {m' : Nat} {it x2 np : Int32} {nt : Nat} {nl : Int32} {nP nS nD : Nat → Int32} {bh bg : Nat} {mv st c : Int32} {a1 : Int32} {a2 : Nat} {a3 : Int32} {a4 a5 a6 : Nat → Int32} {a7 a8 : Nat} {a9 ab : Int32} (h4 : ¬ x2 = 4) (hc : (if 5 ≤ x2 then x2 else 0) = c) (hI : fX9_item np nt nl nP nS nD ln mx bh bg mv st c it = (a1, a2, a3, a4, a5, a6, a7, a8, a9, 1, ab)) : lX9_tray_39 ln mx (m' + 1) it x2 np nt nl nP nS nD bh bg mv 0 st = (it + 1, a1, a2, a3, a4, a5, a6, a7, a8, a9, 1, ab) := by
  simp only [lX9_tray_39, if_neg h4, if_true, hc, hI, if_neg m_10, tray_stop m_10]
theorem tray_good {m' : Nat} {it x2 np : Int32} {nt : Nat} {nl : Int32} {nP nS nD : Nat → Int32} {bh bg : Nat} {mv st c : Int32} {a1 : Int32} {a2 : Nat} {a3 : Int32} {a4 a5 a6 : Nat → Int32} {a7 a8 : Nat} {a9 ab : Int32} (h4 : ¬ x2 = 4) (hc : (if 5 ≤ x2 then x2 else 0) = c) (hI : fX9_item np nt nl nP nS nD ln mx bh bg mv st c it = (a1, a2, a3, a4, a5, a6, a7, a8, a9, 0, ab)) : lX9_tray_39 ln mx (m' + 1) it x2 np nt nl nP nS nD bh bg mv 0 st = lX9_tray_39 ln mx m' (it + 1) (fX9_token ln mx a7 a9).1 a1 a2 a3 a4 a5 a6 (fX9_token ln mx a7 a9).2.1 (fX9_token ln mx a7 a9).2.2.1 (fX9_token ln mx a7 a9).2.2.2 0 ab := by
  simp only [lX9_tray_39, if_neg h4, if_true, hc, hI]
theorem item_none {np : Int32} {nt : Nat} {nl : Int32} {nP nS nD : Nat → Int32} {bh bg : Nat} {mv st it : Int32} : fX9_item np nt nl nP nS nD ln mx bh bg mv st 0 it = (np, nt, nl, nP, nS, nD, bh, bg, mv, 1, st) := by
  simp only [fX9_item, show ¬ ((0 : Int32) = 110) from by decide, show ¬ ((0 : Int32) = 116) from by decide, show ¬ ((0 : Int32) = 108) from by decide, if_false, if_neg m_10]
theorem tray_sim (h : LT le mx ln) (hl : ln ≤ 120) {be ti : Int32} : ∀ (n m turn : Nat) (it st tk vl x2 mv : Int32) (bg bh : Nat) (np : Int32) (nt : Nat) (nl : Int32) (nP nS nD dr pl sp : Nat → Int32), n + turn = 120 → m + turn = ln + 2 → it = nI turn → TKR tk vl x2 mv → bh ≤ ln → bg ≤ ln → (¬ tk = -1 → turn + 1 ≤ bh) → (st = 0 ∨ st = 1) → DR np nt nP nS nD dr pl sp → (turn = 0 → nt = 0) →
    SAYS (lX4_read_35 be ti le ln n turn it st tk vl bg bh dr np nl nt pl sp).1 (lX4_read_35 be ti le ln n turn it st tk vl bg bh dr np nl nt pl sp).2.2.2.2.2.2.2.1 (lX4_read_35 be ti le ln n turn it st tk vl bg bh dr np nl nt pl sp).2.2.2.2.2.2.2.2.1 (lX4_read_35 be ti le ln n turn it st tk vl bg bh dr np nl nt pl sp).2.2.2.2.2.2.2.2.2.1 (lX4_read_35 be ti le ln n turn it st tk vl bg bh dr np nl nt pl sp).2.2.2.2.2.2.2.2.2.2.1 (lX4_read_35 be ti le ln n turn it st tk vl bg bh dr np nl nt pl sp).2.2.2.2.2.2.2.2.2.2.2.1 (lX4_read_35 be ti le ln n turn it st tk vl bg bh dr np nl nt pl sp).2.2.2.2.2.2.2.2.2.2.2.2.1 (lX9_tray_39 ln mx m it x2 np nt nl nP nS nD bh bg mv 0 st)
    ∧ (lX4_read_35 be ti le ln n turn it st tk vl bg bh dr np nl nt pl sp).2.2.2.2.2.2.2.2.2.2.2.2.2 = (be, ti) := by
  intro n
  induction n with
  | zero =>
    intro m turn it st tk vl x2 mv bg bh np nt nl nP nS nD dr pl sp hn hm hit hT hb hg hp hst hD h0
    have htk : tk = -1 := Decidable.byContradiction (fun c => by have := hp c; omega)
    have hx2 : x2 = 4 := by
      rcases hT with ⟨_, b⟩ | ⟨a, _⟩ | ⟨a, _⟩ | ⟨a, _⟩ | ⟨a, _⟩
      · exact b
      · rw [htk] at a; exact absurd a (by decide)
      · rw [htk] at a; rcases a with a | a | a <;> exact absurd a (by decide)
      · rw [htk] at a; exact absurd a (by decide)
      · rw [htk] at a; exact absurd a (by decide)
    subst htk hx2
    rw [read_end, tray_end]
    refine ⟨Or.inr ⟨by rw [hit]; exact nI_pos' (by omega), rfl, rfl, hD, rfl, rfl, rfl⟩, rfl⟩
  | succ n ih =>
    intro m turn it st tk vl x2 mv bg bh np nt nl nP nS nD dr pl sp hn hm hit hT hb hg hp hst hD h0
    have ht120 : turn < 2 ^ 31 := by omega
    have hit1 : it + 1 = nI (turn + 1) := by rw [hit, nI_1]
    rcases hT with ⟨a, b⟩ | ⟨a, b⟩ | ⟨a, b⟩ | ⟨a, b⟩ | ⟨a, b, _⟩
    · subst a b
      rw [read_end, tray_end]
      refine ⟨Or.inr ⟨by rw [hit]; exact nI_pos' (by omega), rfl, rfl, hD, rfl, rfl, rfl⟩, rfl⟩
    · have hb1 := hp (by rw [a]; decide)
      obtain ⟨m', rfl⟩ : ∃ m', m = m' + 1 := ⟨m - 1, by omega⟩
      subst a b
      have em : lX9_tray_39 ln mx (m' + 1) it 2 np nt nl nP nS nD bh bg mv 0 st = (it + 1, np, nt, nl, nP, nS, nD, bh, bg, mv, 1, st) := by
        simp only [lX9_tray_39, show ¬ ((2 : Int32) = 4) from by decide, if_false, if_true, show ¬ ((5 : Int32) ≤ 2) from by decide, fX9_item, show ¬ ((0 : Int32) = 110) from by decide, show ¬ ((0 : Int32) = 116) from by decide, show ¬ ((0 : Int32) = 108) from by decide, if_neg m_10, tray_stop m_10]
      rw [em]
      simp only [lX4_read_35, show ¬ ((59 : Int32) = -1) from by decide, show ¬ ((59 : Int32) = 108) from by decide, show ¬ ((59 : Int32) = 110) from by decide, show ¬ ((59 : Int32) = 116) from by decide, if_false, if_true]
      exact ⟨says_fault (by omega) rfl, trivial⟩
    · have hb1 := hp (by rcases a with a | a | a <;> (rw [a]; decide))
      obtain ⟨m', rfl⟩ : ∃ m', m = m' + 1 := ⟨m - 1, by omega⟩
      subst b
      rcases a with a | a | a
      · -- the places
        subst a
        have h4 : ¬ ((110 : Int32) = 4) := by decide
        have hc : (if (5 : Int32) ≤ 110 then (110 : Int32) else 0) = 110 := by decide
        by_cases hz : it = 0
        · have ht0 : turn = 0 := by rw [hit] at hz; exact (nI_z ht120).mp hz
          subst hz
          rcases places_item h hl hb hD (h0 ht0) nl vl mv st bg with ⟨g1, g2, g3, g4⟩ | ⟨g1, np', nx', mq', mv', g2, g3, g4, g5, g6, g7⟩
          · rcases hI : fX9_item np nt nl nP nS nD ln mx bh bg mv st 110 0 with ⟨a1, a2, a3, a4, a5, a6, a7, a8, a9, aa, ab⟩
            rcases hC : fX4_readPlaces vl bh le ln np with ⟨c1, c2, c3, c4, c5, c6⟩
            simp only [hI, hC] at g1 g2 g3 g4
            subst g1 g2
            rw [tray_bad h4 hc hI]
            simp only [lX4_read_35, show ¬ ((110 : Int32) = -1) from by decide, show ¬ ((110 : Int32) = 108) from by decide, if_false, if_true, hC]
            exact ⟨says_fault (by omega) (by rw [g3]), trivial⟩
          · rcases hC : fX4_readPlaces vl bh le ln np with ⟨c1, c2, c3, c4, c5, c6⟩
            simp only [hC] at g1 g3 g6
            subst g1 g3 g6
            rw [tray_good h4 hc g2]
            obtain ⟨t1, t2, t3, t4, t5, t6, t7⟩ := token_sim h hl g5 c3 mv'
            simp only [lX4_read_35, show ¬ ((110 : Int32) = -1) from by decide, show ¬ ((110 : Int32) = 108) from by decide, if_false, if_true, hC, if_neg m_10]
            rw [t2, t3]
            exact ih m' (turn + 1) _ _ _ _ _ _ _ _ _ _ _ _ _ _ _ _ _ (by omega) (by omega) hit1 t1 t5 t7 (fun q => by have := t6 q; omega) hst g7 (fun q => by omega)
        · have hle : ¬ it ≤ 0 := by
            rw [hit] at hz ⊢
            intro q; exact hz ((nI_z ht120).mpr (by have := (nI_lez ht120).mp q; omega))
          have hI : fX9_item np nt nl nP nS nD ln mx bh bg mv st 110 it = (0, nt, nl, nP, nS, nD, bh, bg, mv, 1, st) := by
            simp only [fX9_item, if_true, if_neg hle, wants_1, if_neg m_10]
          rw [tray_bad h4 hc hI]
          simp only [lX4_read_35, show ¬ ((110 : Int32) = -1) from by decide, show ¬ ((110 : Int32) = 108) from by decide, if_false, if_true, if_neg hz]
          exact ⟨says_fault (by omega) rfl, trivial⟩
      · -- a top
        subst a
        have h4 : ¬ ((116 : Int32) = 4) := by decide
        have hc : (if (5 : Int32) ≤ 116 then (116 : Int32) else 0) = 116 := by decide
        by_cases h6 : 6 ≤ nt
        · have e6 : nt = 6 := by have := hD.1; omega
          have hI : fX9_item np nt nl nP nS nD ln mx bh bg mv st 116 it = (np, nt, nl, nP, nS, nD, bh, bg, mv, 1, st) := by
            simp only [fX9_item, show ¬ ((116 : Int32) = 110) from by decide, if_false, if_true, fX9_topItem, if_pos e6, wants_1, tl_1, if_neg m_10]
          rw [tray_bad h4 hc hI]
          simp only [lX4_read_35, show ¬ ((116 : Int32) = -1) from by decide, show ¬ ((116 : Int32) = 108) from by decide, show ¬ ((116 : Int32) = 110) from by decide, if_false, if_true, if_pos h6]
          exact ⟨says_fault (by omega) rfl, trivial⟩
        · rcases top_item h hl hb hD h6 nl vl mv st it bg with ⟨g1, g2, g3, g4⟩ | ⟨g1, nt', nP', nS', nD', nx', mq', mv', g2, g3, g4, g5, g6, g7⟩
          · rcases hI : fX9_item np nt nl nP nS nD ln mx bh bg mv st 116 it with ⟨a1, a2, a3, a4, a5, a6, a7, a8, a9, aa, ab⟩
            rcases hC : fX4_readTop vl bh le ln dr np nt pl sp with ⟨c1, c2, c3, c4, c5, c6, c7, c8, c9⟩
            simp only [hI, hC] at g1 g2 g3 g4
            subst g1 g2
            rw [tray_bad h4 hc hI]
            simp only [lX4_read_35, show ¬ ((116 : Int32) = -1) from by decide, show ¬ ((116 : Int32) = 108) from by decide, show ¬ ((116 : Int32) = 110) from by decide, if_false, if_true, if_neg h6, hC]
            exact ⟨says_fault (by omega) (by rw [g3]), trivial⟩
          · rcases hC : fX4_readTop vl bh le ln dr np nt pl sp with ⟨c1, c2, c3, c4, c5, c6, c7, c8, c9⟩
            simp only [hC] at g1 g3 g6 g7
            subst g1 g3 g6
            rw [tray_good h4 hc g2]
            obtain ⟨t1, t2, t3, t4, t5, t6, t7⟩ := token_sim h hl g5 c3 mv'
            simp only [lX4_read_35, show ¬ ((116 : Int32) = -1) from by decide, show ¬ ((116 : Int32) = 108) from by decide, show ¬ ((116 : Int32) = 110) from by decide, if_false, if_true, if_neg h6, hC, if_neg m_10]
            rw [t2, t3]
            exact ih m' (turn + 1) _ _ _ _ _ _ _ _ _ _ _ _ _ _ _ _ _ (by omega) (by omega) hit1 t1 t5 t7 (fun q => by have := t6 q; omega) hst g7 (fun q => by omega)
      · -- how slow
        subst a
        have h4 : ¬ ((108 : Int32) = 4) := by decide
        have hc : (if (5 : Int32) ≤ 108 then (108 : Int32) else 0) = 108 := by decide
        rcases hst with hs | hs
        · subst hs
          rcases slow_item (np := np) (nt := nt) (nP := nP) (nS := nS) (nD := nD) h hl hb nl vl mv it bg with ⟨g1, g2, g3, g4⟩ | ⟨g1, nl', nx', mq', mv', g2, g3, g3', g4, g5, g6⟩
          · rcases hI : fX9_item np nt nl nP nS nD ln mx bh bg mv 0 108 it with ⟨a1, a2, a3, a4, a5, a6, a7, a8, a9, aa, ab⟩
            rcases hC : fX4_readSlow 0 vl bh le ln nl with ⟨c1, c2, c3, c4, c5, c6, c7⟩
            simp only [hI, hC] at g1 g2 g3 g4
            subst g1 g2
            rw [tray_bad h4 hc hI]
            simp only [lX4_read_35, show ¬ ((108 : Int32) = -1) from by decide, if_false, if_true, hC]
            exact ⟨says_fault (by omega) (by rw [g3]), trivial⟩
          · rcases hC : fX4_readSlow 0 vl bh le ln nl with ⟨c1, c2, c3, c4, c5, c6, c7⟩
            simp only [hC] at g1 g3 g3' g6
            subst g1 g3 g3' g6
            rw [tray_good h4 hc g2]
            obtain ⟨t1, t2, t3, t4, t5, t6, t7⟩ := token_sim h hl g5 c4 mv'
            simp only [lX4_read_35, show ¬ ((108 : Int32) = -1) from by decide, if_false, if_true, hC, if_neg m_10]
            rw [t2, t3]
            exact ih m' (turn + 1) _ _ _ _ _ _ _ _ _ _ _ _ _ _ _ _ _ (by omega) (by omega) hit1 t1 t5 t7 (fun q => by have := t6 q; omega) (Or.inr rfl) hD (fun q => by omega)
        · subst hs
          have hI : fX9_item np nt nl nP nS nD ln mx bh bg mv 1 108 it = (np, nt, 0, nP, nS, nD, bh, bg, mv, 1, 1) := by
            simp only [fX9_item, show ¬ ((108 : Int32) = 110) from by decide, show ¬ ((108 : Int32) = 116) from by decide, if_false, if_true, wants_1, if_neg m_10]
          rw [tray_bad h4 hc hI]
          simp only [lX4_read_35, show ¬ ((108 : Int32) = -1) from by decide, if_false, if_true, if_neg m_10]
          exact ⟨says_fault (by omega) rfl, trivial⟩
    · have hb1 := hp (by rw [a]; decide)
      obtain ⟨m', rfl⟩ : ∃ m', m = m' + 1 := ⟨m - 1, by omega⟩
      subst a
      have h4 : ¬ x2 = 4 := by rcases b with b | ⟨b, _⟩ <;> (rw [b]; decide)
      have hc : (if 5 ≤ x2 then x2 else 0) = 0 := by rcases b with b | ⟨b, _⟩ <;> (rw [b]; decide)
      rw [tray_bad h4 hc item_none]
      simp only [lX4_read_35, show ¬ ((-3 : Int32) = -1) from by decide, show ¬ ((-3 : Int32) = 108) from by decide, show ¬ ((-3 : Int32) = 110) from by decide, show ¬ ((-3 : Int32) = 116) from by decide, if_false, if_true]
      exact ⟨says_fault (by omega) rfl, trivial⟩
    · have hb1 := hp (by rw [a]; decide)
      obtain ⟨m', rfl⟩ : ∃ m', m = m' + 1 := ⟨m - 1, by omega⟩
      subst a b
      rw [tray_bad (show ¬ ((1 : Int32) = 4) from by decide) (show (if (5 : Int32) ≤ 1 then (1 : Int32) else 0) = 0 from by decide) item_none]
      simp only [lX4_read_35, show ¬ ((-2 : Int32) = -1) from by decide, show ¬ ((-2 : Int32) = 108) from by decide, show ¬ ((-2 : Int32) = 110) from by decide, show ¬ ((-2 : Int32) = 116) from by decide, if_false, if_true]
      exact ⟨says_fault (by omega) rfl, trivial⟩
end
