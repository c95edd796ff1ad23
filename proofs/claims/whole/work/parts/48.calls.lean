def ITX (le : Nat → Int32) (ln mn : Nat) (mx : Nat → Int32) : Prop := ln = mn ∧ mn ≤ 120 ∧ ∀ i, i < mn → le i = mx i &&& 255 ∧ 0 ≤ (le i).toInt ∧ (le i).toInt ≤ 255
theorem byte_fin : ∀ k : Fin 256, nI k.1 = (vp_nar .byte ((nI k.1).toInt8.toInt32)) &&& 255 := by decide +kernel
theorem type_sim {le mx : Nat → Int32} {ln mn : Nat} (h : ITX le ln mn mx) (c : Int32) : (fX8_type le ln c).1 = (fX9_type mn mx c).1 ∧ ITX (fX8_type le ln c).2.1 (fX8_type le ln c).2.2 (fX9_type mn mx c).2.1 (fX9_type mn mx c).2.2 := by
  obtain ⟨h1, h2, h3⟩ := h
  subst h1
  have i1 : fX9_in c.toInt64 0 255 = fX8_within c 0 255 := in_lit (by decide) (by decide)
  by_cases w : fX8_within c 0 255 = 0
  · simp only [fX8_type, fX9_type, i1, w, if_true]; exact ⟨trivial, rfl, h2, h3⟩
  obtain ⟨a, b⟩ := within_iff.mp w
  obtain ⟨n1, n2⟩ := m_nat (n := 255) a (by rw [m_le] at b; exact b) (by omega)
  have hb := byte_fin ⟨c.toNatClampNeg, by omega⟩
  simp only [n2] at hb
  have a' := a
  have b' := b
  rw [m_le, m_0] at a'
  rw [m_le, show (255 : Int32).toInt = 255 from by decide] at b'
  by_cases e : ln = 120
  · subst e
    simp only [fX8_type, fX9_type, i1, if_neg w, fX6_add, Nat.lt_irrefl, if_true, if_false]
    exact ⟨trivial, rfl, h2, h3⟩
  · have hl : ln < 120 := by omega
    simp only [fX8_type, fX9_type, i1, if_neg w, fX6_add, if_pos hl, if_neg m_10, if_neg e]
    refine ⟨trivial, rfl, by omega, fun i hi => ?_⟩
    by_cases ei : i = ln
    · subst ei; rw [m_us, m_us]; exact ⟨hb, a', b'⟩
    · rw [m_un ei, m_un ei]; exact h3 i (by omega)
section
variable {dr md : Nat → Int32} {mt : Nat} {mp ml : Int32}
theorem top_sim (hmt : mt ≤ 6) (hd : DRG mt dr md) (hP : PZ mp) {pl sp so pl3 sp3 : Nat → Int32} {be ti be3 ti3 : Int32} (hR : RM pl sp be ti so 0) (hM : MI mt mp pl sp) (t w : Int32) : (fX8_top dr mp ml mt pl sp be ti pl3 sp3 be3 ti3 t w).1 = (fX9_top mp mt ml md so t w).1 ∧ FRM so (fX9_top mp mt ml md so t w).2 195 := by
  by_cases h1 : fX8_isTop mt t = 0
  · simp only [fX8_top, fX9_top, isTop_eq, h1, if_true]; exact ⟨trivial, frm_refl _ _⟩
  obtain ⟨t1, t2⟩ := isTop_n hmt h1
  generalize hk : t.toNatClampNeg = k at *
  have k6 : k < 6 := by omega
  have i1 : fX9_in w.toInt64 0 4 = fX8_within w 0 4 := in_lit (by decide) (by decide)
  by_cases w0 : w = 0
  · subst w0
    simp only [fX8_top, fX9_top, isTop_eq, if_neg h1, i1, show ¬ (fX8_within 0 0 4 = 0) from by decide, if_false, if_true, hk, rm0_st hR k6]
    by_cases hp : 0 < sp k
    · rw [st_1 hp, if_neg m_10]; exact ⟨(rm0_pl hR k6 hp).symm, frm_refl _ _⟩
    · rw [st_0 hp, if_pos rfl]; exact ⟨(hM.2.1 k k6).2 hp, frm_refl _ _⟩
  by_cases w1 : w = 1
  · subst w1
    simp only [fX8_top, fX9_top, isTop_eq, if_neg h1, i1, show ¬ (fX8_within 1 0 4 = 0) from by decide, if_false, if_neg m_10, if_true, hk, rm0_sp hR k6]
    exact ⟨trivial, frm_refl _ _⟩
  by_cases w2 : w = 2
  · subst w2
    simp only [fX8_top, fX9_top, isTop_eq, if_neg h1, i1, show ¬ (fX8_within 2 0 4 = 0) from by decide, if_false, show ¬ ((2 : Int32) = 0) from by decide, show ¬ ((2 : Int32) = 1) from by decide, if_true, hk, (hd k t1).1]
    exact ⟨trivial, frm_refl _ _⟩
  by_cases w3 : w = 3
  · subst w3
    simp only [fX8_top, fX9_top, isTop_eq, if_neg h1, i1, show ¬ (fX8_within 3 0 4 = 0) from by decide, if_false, show ¬ ((3 : Int32) = 0) from by decide, show ¬ ((3 : Int32) = 1) from by decide, show ¬ ((3 : Int32) = 2) from by decide, if_true, hk, rm0_st hR k6]
    by_cases hp : 0 < sp k
    · rw [st_1 hp, if_neg m_10]; exact ⟨rfl, frm_refl _ _⟩
    · rw [st_0 hp, if_pos rfl]; exact ⟨rfl, frm_refl _ _⟩
  by_cases w4 : w = 4
  · subst w4
    simp only [fX8_top, fX9_top, isTop_eq, if_neg h1, i1, show ¬ (fX8_within 4 0 4 = 0) from by decide, if_false, show ¬ ((4 : Int32) = 0) from by decide, show ¬ ((4 : Int32) = 1) from by decide, show ¬ ((4 : Int32) = 2) from by decide, show ¬ ((4 : Int32) = 3) from by decide, if_true, hk]
    exact fall_sim hmt hd hP k6 hR hM
  have hw : fX8_within w 0 4 = 0 := by
    refine Decidable.byContradiction (fun c => ?_)
    obtain ⟨a, b⟩ := within_iff.mp c
    rw [m_le, m_0] at a; rw [m_le, show (4 : Int32).toInt = 4 from by decide] at b
    rw [m_eq, m_0] at w0; rw [m_eq, m_1] at w1; rw [m_eq, show (2 : Int32).toInt = 2 from by decide] at w2
    rw [m_eq, show (3 : Int32).toInt = 3 from by decide] at w3; rw [m_eq, show (4 : Int32).toInt = 4 from by decide] at w4
    omega
  simp only [fX8_top, fX9_top, isTop_eq, if_neg h1, i1, hw, if_true, if_neg w0, if_neg w1, if_neg w2, if_neg w3, if_neg w4]
  exact ⟨trivial, frm_refl _ _⟩
theorem at_sim (hmt : mt ≤ 6) {pl sp so : Nat → Int32} {be ti : Int32} (hR : RM pl sp be ti so 0) (hM : MI mt mp pl sp) (w : Int32) : fX8_at mp pl sp w = fX9_at mp mt so w := by
  have i1 : fX9_in w.toInt64 0 (mp - 1).toInt64 = fX8_isPlace mp w := in_lit (by decide) rfl
  simp only [fX8_at, fX9_at, i1]
  rw [who_eq hmt hR hM (fun t ht _ _ => nI_n9 ht)]
theorem now_sim (hmt : mt ≤ 6) (hd : DRG mt dr md) (hP : PZ mp) {pl sp so pl3 sp3 : Nat → Int32} {be ti be3 ti3 : Int32} {ac : Nat} (hR : RM pl sp be ti so 0) (hM : MI mt mp pl sp) (w : Int32) : (fX8_now dr mp ml pl sp be ti pl3 sp3 be3 ti3 ac w).1 = (fX9_now mp mt ml md so ac w).1 ∧ FRM so (fX9_now mp mt ml md so ac w).2 195 := by
  have i1 : fX9_in w.toInt64 0 5 = fX8_within w 0 5 := in_lit (by decide) (by decide)
  by_cases w0 : w = 0
  · subst w0
    simp only [fX8_now, fX9_now, i1, show ¬ (fX8_within 0 0 5 = 0) from by decide, if_false, if_true, rm0_13 hR]
    exact ⟨trivial, frm_refl _ _⟩
  by_cases w1 : w = 1
  · subst w1
    simp only [fX8_now, fX9_now, i1, show ¬ (fX8_within 1 0 5 = 0) from by decide, if_false, if_neg m_10, if_true, rm0_14 hR]
    exact ⟨trivial, frm_refl _ _⟩
  by_cases w2 : w = 2
  · subst w2
    simp only [fX8_now, fX9_now, i1, show ¬ (fX8_within 2 0 5 = 0) from by decide, if_false, show ¬ ((2 : Int32) = 0) from by decide, show ¬ ((2 : Int32) = 1) from by decide, if_true, rm0_12 hR]
    exact ⟨trivial, frm_refl _ _⟩
  by_cases w3 : w = 3
  · subst w3
    simp only [fX8_now, fX9_now, i1, show ¬ (fX8_within 3 0 5 = 0) from by decide, if_false, show ¬ ((3 : Int32) = 0) from by decide, show ¬ ((3 : Int32) = 1) from by decide, show ¬ ((3 : Int32) = 2) from by decide, if_true, allSpins_sim hmt hR hM]
    exact ⟨trivial, frm_refl _ _⟩
  by_cases w4 : w = 4
  · subst w4
    simp only [fX8_now, fX9_now, i1, show ¬ (fX8_within 4 0 5 = 0) from by decide, if_false, show ¬ ((4 : Int32) = 0) from by decide, show ¬ ((4 : Int32) = 1) from by decide, show ¬ ((4 : Int32) = 2) from by decide, show ¬ ((4 : Int32) = 3) from by decide, if_true]
    exact last_sim hmt hd hP hR hM
  by_cases w5 : w = 5
  · subst w5
    simp only [fX8_now, fX9_now, i1, show ¬ (fX8_within 5 0 5 = 0) from by decide, if_false, show ¬ ((5 : Int32) = 0) from by decide, show ¬ ((5 : Int32) = 1) from by decide, show ¬ ((5 : Int32) = 2) from by decide, show ¬ ((5 : Int32) = 3) from by decide, show ¬ ((5 : Int32) = 4) from by decide, if_true]
    exact ⟨trivial, frm_refl _ _⟩
  have hw : fX8_within w 0 5 = 0 := by
    refine Decidable.byContradiction (fun c => ?_)
    obtain ⟨a, b⟩ := within_iff.mp c
    rw [m_le, m_0] at a; rw [m_le, m_5] at b
    rw [m_eq, m_0] at w0; rw [m_eq, m_1] at w1; rw [m_eq, show (2 : Int32).toInt = 2 from by decide] at w2
    rw [m_eq, show (3 : Int32).toInt = 3 from by decide] at w3; rw [m_eq, show (4 : Int32).toInt = 4 from by decide] at w4; rw [m_eq, m_5] at w5
    omega
  simp only [fX8_now, fX9_now, i1, hw, if_true, if_neg w0, if_neg w1, if_neg w2, if_neg w3, if_neg w4, if_neg w5]
  exact ⟨trivial, frm_refl _ _⟩
theorem stand_sim (hmt : mt ≤ 6) (hd : DRG mt dr md) (hP : PZ mp) {pl sp so pl3 sp3 : Nat → Int32} {be ti be3 ti3 : Int32} (hR : RM pl sp be ti so 0) (hM : MI mt mp pl sp) (m : Int32) : (fX8_stand dr mp ml pl sp be ti pl3 sp3 be3 ti3 m).1 = (fX9_stand mp mt ml md so m).1 ∧ FRM so (fX9_stand mp mt ml md so m).2 195 := by
  have i1 : fX9_in m.toInt64 0 60 = fX8_isAhead m := in_lit (by decide) (by decide)
  by_cases w : fX8_isAhead m = 0
  · simp only [fX8_stand, fX9_stand, i1, w, if_true]; exact ⟨trivial, frm_refl _ _⟩
  · simp only [fX8_stand, fX9_stand, i1, if_neg w]
    exact standing_sim hmt hd hP hR hM
theorem whipc_sim (hmt : mt ≤ 6) (hd : DRG mt dr md) (hP : PZ mp) {pl sp so pl3 sp3 : Nat → Int32} {be ti be3 ti3 : Int32} (hR : RM pl sp be ti so 0) (hM : MI mt mp pl sp) (v m : Int32) : (fX8_whip dr mp ml mt pl sp be ti pl3 sp3 be3 ti3 v m).1 = (fX9_whip mp mt ml md so v m).1 ∧ FRM so (fX9_whip mp mt ml md so v m).2 195 := by
  have i1 : fX9_in v.toInt64 1 20 = fX8_isWhip v := in_lit (by decide) (by decide)
  have i2 : fX9_in m.toInt64 0 60 = fX8_isAhead m := in_lit (by decide) (by decide)
  by_cases w : fX8_isWhip v = 0
  · simp only [fX8_whip, fX9_whip, i1, w, if_true]; exact ⟨trivial, frm_refl _ _⟩
  by_cases w2 : fX8_isAhead m = 0
  · simp only [fX8_whip, fX9_whip, i1, i2, if_neg w, w2, if_true]; exact ⟨trivial, frm_refl _ _⟩
  obtain ⟨a, b⟩ := within_iff.mp w
  rw [m_le, m_1] at a
  rw [m_le, show (20 : Int32).toInt = 20 from by decide] at b
  simp only [fX8_whip, fX9_whip, i1, i2, if_neg w, if_neg w2, fX0_bestWhip]
  exact bestWhip_sim hmt hd hP rfl hM ⟨by omega, b⟩ mt 0 (-9) (-1) pl3 sp3 be3 ti3 so (by omega) hR
theorem count_sim (ln knE : Nat) (w : Int32) : fX8_count ln mp ml mt knE w = fX9_count mp mt ml ln knE w := rfl
theorem rate_sim (hmt : mt ≤ 6) (hd : DRG mt dr md) {pl sp so : Nat → Int32} {be ti : Int32} {tr : Int64} (hR : RM pl sp be ti so 0) (w t : Int32) : fX8_rate dr mt sp be tr w t = fX9_rate mt md so tr w t := by
  have i1 : fX9_in w.toInt64 0 5 = fX8_within w 0 5 := in_lit (by decide) (by decide)
  by_cases h1 : fX8_isTop mt t = 0
  · by_cases hw : fX8_within w 0 5 = 0
    · simp only [fX8_rate, fX9_rate, isTop_eq, i1, h1, hw, if_true]
    · simp only [fX8_rate, fX9_rate, isTop_eq, i1, h1, if_neg hw, if_true]
  obtain ⟨t1, t2⟩ := isTop_n hmt h1
  generalize hk : t.toNatClampNeg = k at *
  have k6 : k < 6 := by omega
  have n2 : ¬ ((2 : Int32) = 0) := by decide
  have n21 : ¬ ((2 : Int32) = 1) := by decide
  have n3 : ¬ ((3 : Int32) = 0) := by decide
  have n31 : ¬ ((3 : Int32) = 1) := by decide
  have n32 : ¬ ((3 : Int32) = 2) := by decide
  have n4 : ¬ ((4 : Int32) = 0) := by decide
  have n41 : ¬ ((4 : Int32) = 1) := by decide
  have n42 : ¬ ((4 : Int32) = 2) := by decide
  have n43 : ¬ ((4 : Int32) = 3) := by decide
  have n5 : ¬ ((5 : Int32) = 0) := by decide
  have n51 : ¬ ((5 : Int32) = 1) := by decide
  have n52 : ¬ ((5 : Int32) = 2) := by decide
  have n53 : ¬ ((5 : Int32) = 3) := by decide
  have n54 : ¬ ((5 : Int32) = 4) := by decide
  by_cases w0 : w = 0
  · subst w0
    simp only [fX8_rate, fX9_rate, isTop_eq, if_neg h1, i1, show ¬ (fX8_within 0 0 5 = 0) from by decide, if_false, if_true, hk, rm0_sp hR k6, fX1_asTop, show ¬ ((0 : Int32) = 1) from by decide, show ¬ ((0 : Int32) = 2) from by decide, show ¬ ((0 : Int32) = 3) from by decide, show ¬ ((0 : Int32) = 4) from by decide, show ¬ ((0 : Int32) = 5) from by decide]
  by_cases w1 : w = 1
  · subst w1
    simp only [fX8_rate, fX9_rate, isTop_eq, if_neg h1, i1, show ¬ (fX8_within 1 0 5 = 0) from by decide, if_false, if_true, hk, rm0_sp hR k6, fX1_asTop, fX1_asPeg, if_neg m_10, show ¬ ((1 : Int32) = 2) from by decide, show ¬ ((1 : Int32) = 3) from by decide, show ¬ ((1 : Int32) = 4) from by decide, show ¬ ((1 : Int32) = 5) from by decide, (hd k t1).1, Int64.add_assoc]
    rfl
  by_cases w2 : w = 2
  · subst w2
    simp only [fX8_rate, fX9_rate, isTop_eq, if_neg h1, i1, show ¬ (fX8_within 2 0 5 = 0) from by decide, if_false, if_true, hk, rm0_sp hR k6, fX1_asTop, fX1_asHummer, n2, n21, show ¬ ((2 : Int32) = 3) from by decide, show ¬ ((2 : Int32) = 4) from by decide, show ¬ ((2 : Int32) = 5) from by decide, Int64.add_assoc, many_bits, rm0_12 hR]
    rfl
  by_cases w3 : w = 3
  · subst w3
    simp only [fX8_rate, fX9_rate, isTop_eq, if_neg h1, i1, show ¬ (fX8_within 3 0 5 = 0) from by decide, if_false, if_true, hk, rm0_sp hR k6, fX1_asTop, fX1_asPeg, fX1_asWhipper, n3, n31, n32, show ¬ ((3 : Int32) = 4) from by decide, show ¬ ((3 : Int32) = 5) from by decide, Int64.add_assoc, (hd k t1).1]
    rw [Int32.mul_comm]
    rfl
  by_cases w4 : w = 4
  · subst w4
    simp only [fX8_rate, fX9_rate, isTop_eq, if_neg h1, i1, show ¬ (fX8_within 4 0 5 = 0) from by decide, if_false, if_true, hk, rm0_sp hR k6, fX1_asTop, fX1_asHummer, fX1_asDisc, n4, n41, n42, n43, show ¬ ((4 : Int32) = 5) from by decide, Int64.add_assoc, many_bits, rm0_12 hR]
    rfl
  by_cases w5 : w = 5
  · subst w5
    simp only [fX8_rate, fX9_rate, isTop_eq, if_neg h1, i1, show ¬ (fX8_within 5 0 5 = 0) from by decide, if_false, if_true, hk, rm0_sp hR k6, fX1_asTop, fX1_asAcorn, n5, n51, n52, n53, n54, Int64.add_assoc, rm0_13 hR]
    rfl
  have hw : fX8_within w 0 5 = 0 := by
    refine Decidable.byContradiction (fun c => ?_)
    obtain ⟨a, b⟩ := within_iff.mp c
    rw [m_le, m_0] at a; rw [m_le, m_5] at b
    rw [m_eq, m_0] at w0; rw [m_eq, m_1] at w1; rw [m_eq, show (2 : Int32).toInt = 2 from by decide] at w2
    rw [m_eq, show (3 : Int32).toInt = 3 from by decide] at w3; rw [m_eq, show (4 : Int32).toInt = 4 from by decide] at w4; rw [m_eq, m_5] at w5
    omega
  simp only [fX8_rate, fX9_rate, isTop_eq, if_neg h1, i1, hw, if_true, if_neg w0, if_neg w1, if_neg w2, if_neg w3, if_neg w4, if_neg w5]
end
theorem sees_sim {fi bt su sF sB sS : Nat → Int32} {kn : Nat} (hk : kn ≤ 6) (h : SE fi bt su sF sB sS kn) (v m w : Int32) : (fX8_sees fi bt su kn v m w).1 = (fX9_sees kn sF sB sS v m w).1 ∧ (fX8_sees fi bt su kn v m w).2.2.2.2 = (fX9_sees kn sF sB sS v m w).2.1 ∧ (fX9_sees kn sF sB sS v m w).2.1 ≤ 6 ∧ SE (fX8_sees fi bt su kn v m w).2.1 (fX8_sees fi bt su kn v m w).2.2.1 (fX8_sees fi bt su kn v m w).2.2.2.1 (fX9_sees kn sF sB sS v m w).2.2.1 (fX9_sees kn sF sB sS v m w).2.2.2.1 (fX9_sees kn sF sB sS v m w).2.2.2.2 (fX9_sees kn sF sB sS v m w).2.1 := by
  have i1 : fX9_in v.toInt64 1 60 = fX8_within v 1 60 := in_lit (by decide) (by decide)
  have i2 : fX9_in m.toInt64 1 20 = fX8_within m 1 20 := in_lit (by decide) (by decide)
  have i3 : fX9_in w.toInt64 0 60 = fX8_within w 0 60 := in_lit (by decide) (by decide)
  by_cases c1 : fX8_within v 1 60 = 0
  · simp only [fX8_sees, fX9_sees, fX8_isSpin, i1, c1, if_true]; exact ⟨trivial, trivial, hk, h⟩
  by_cases c2 : fX8_within m 1 20 = 0
  · simp only [fX8_sees, fX9_sees, fX8_isSpin, i1, i2, if_neg c1, c2, if_true]; exact ⟨trivial, trivial, hk, h⟩
  by_cases c3 : fX8_within w 0 60 = 0
  · simp only [fX8_sees, fX9_sees, fX8_isSpin, i1, i2, i3, if_neg c1, if_neg c2, c3, if_true]; exact ⟨trivial, trivial, hk, h⟩
  by_cases e : kn = 6
  · subst e
    simp only [fX8_sees, fX9_sees, fX8_isSpin, i1, i2, i3, if_neg c1, if_neg c2, if_neg c3, fX5_add, Nat.lt_irrefl, if_true, if_false]
    exact ⟨trivial, trivial, Nat.le_refl _, h⟩
  · have hl : kn < 6 := by omega
    simp only [fX8_sees, fX9_sees, fX8_isSpin, i1, i2, i3, if_neg c1, if_neg c2, if_neg c3, fX5_add, if_pos hl, if_neg e, if_neg m_10]
    refine ⟨trivial, trivial, by omega, fun i hi => ?_⟩
    by_cases ei : i = kn
    · subst ei; simp only [m_us]; exact ⟨trivial, trivial, trivial⟩
    · rw [m_un ei, m_un ei, m_un ei, m_un ei, m_un ei, m_un ei]; exact h i (by omega)
