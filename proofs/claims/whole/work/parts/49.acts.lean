def HI (so so' : Nat → Int32) : Prop := ∀ j, 165 ≤ j → so' j = so j
theorem img_hi {mt : Nat} {mp : Int32} {pl sp so so' : Nat → Int32} {be ti k0 k1 : Int32} {b : Nat} (h : IMG mt mp pl sp be ti k0 k1 so b) (hf : HI so so') (hb : 165 ≤ b) : IMG mt mp pl sp be ti k0 k1 so' b := ⟨h.1, h.2.imp id (fun m => mom_sh m (fun k _ => hf _ (by omega)))⟩
section
variable {dr md : Nat → Int32} {mt : Nat} {mp ml : Int32} {pl sp so : Nat → Int32} {be ti : Int32} {PL SP : Nat → Nat → Int32} {BE TI : Nat → Int32} {nx ac : Nat}
theorem beats_sim (hmt : mt ≤ 6) (hd : DRG mt dr md) (hP : PZ mp) (h : MOM mt mp pl sp be ti so 0) (hp : PAS mt mp PL SP BE TI nx ac so) : (fX8_beats dr mp ml pl sp be ti PL SP BE TI nx ac).1 = (fX9_beats mp mt ml md so ac).1 ∧ MOM mt mp (fX8_beats dr mp ml pl sp be ti PL SP BE TI nx ac).2.1 (fX8_beats dr mp ml pl sp be ti PL SP BE TI nx ac).2.2.1 (fX8_beats dr mp ml pl sp be ti PL SP BE TI nx ac).2.2.2.1 ti (fX9_beats mp mt ml md so ac).2.1 0 ∧ PAS mt mp (fX8_beats dr mp ml pl sp be ti PL SP BE TI nx ac).2.2.2.2.1 (fX8_beats dr mp ml pl sp be ti PL SP BE TI nx ac).2.2.2.2.2.1 (fX8_beats dr mp ml pl sp be ti PL SP BE TI nx ac).2.2.2.2.2.2.1 (fX8_beats dr mp ml pl sp be ti PL SP BE TI nx ac).2.2.2.2.2.2.2.1 (fX8_beats dr mp ml pl sp be ti PL SP BE TI nx ac).2.2.2.2.2.2.2.2.1 (fX9_beats mp mt ml md so ac).2.2 (fX9_beats mp mt ml md so ac).2.1 ∧ (fX8_beats dr mp ml pl sp be ti PL SP BE TI nx ac).2.2.2.2.2.2.2.2.2 = (fX9_beats mp mt ml md so ac).2.2 ∧ HI so (fX9_beats mp mt ml md so ac).2.1 := by
  have hb := h.2.2
  have e13 := rm0_13 h.1
  by_cases c : be < 999
  · have c' : ¬ so 13 = 999 := by
      rw [e13, m_eq, show (999 : Int32).toInt = 999 from by decide]
      rw [m_lt, show (999 : Int32).toInt = 999 from by decide] at c; omega
    obtain ⟨k1, k2, k3⟩ := known_sim h hp
    have hR2 : MOM mt mp pl sp be ti (fX9_known so ac).1 0 := mom_sh h (fun k hk => k3 _ (by omega))
    obtain ⟨s1, s2, s3, _⟩ := beat_sim (ml := ml) hmt hd hP hR2.1 hR2.2.1
    simp only [fX8_beats, fX9_beats, if_pos c, if_neg c', goBy1a, goBy1b, goBy1c]
    refine ⟨?_, ⟨s1, s2, ?_⟩, pas_frm k1 s3 (Or.inl rfl), k2, fun j hj => by rw [s3 j (by omega), k3 j (by omega)]⟩
    · have e1 : (fX2_goBy pl sp be ti dr mp ml 1).1 = fX2_howMany sp - fX2_howMany (fX2_goBy pl sp be ti dr mp ml 1).2.2.1 := by
        simp only [fX2_goBy]
      rw [e1, goBy1b, many_bits, many_bits, rm0_12 hR2.1, rm0_12 s1]
    · have ea : (be + 1).toInt = be.toInt + 1 := by rw [m_add (by omega) (by omega) (by rw [m_1]; omega) (by rw [m_1]; omega), m_1]
      rw [m_lt, show (999 : Int32).toInt = 999 from by decide] at c
      omega
  · have c' : so 13 = 999 := by
      rw [e13, m_eq, show (999 : Int32).toInt = 999 from by decide]
      rw [m_lt, show (999 : Int32).toInt = 999 from by decide] at c; omega
    simp only [fX8_beats, fX9_beats, if_neg c, if_pos c']
    exact ⟨trivial, h, hp, trivial, fun j _ => rfl⟩
theorem whips_sim (hmt : mt ≤ 6) (h : MOM mt mp pl sp be ti so 0) (hp : PAS mt mp PL SP BE TI nx ac so) (t v : Int32) : (fX8_whips mt pl sp be ti PL SP BE TI nx ac t v).1 = (fX9_whips mt so ac t v).1 ∧ MOM mt mp pl (fX8_whips mt pl sp be ti PL SP BE TI nx ac t v).2.1 be ti (fX9_whips mt so ac t v).2.1 0 ∧ PAS mt mp (fX8_whips mt pl sp be ti PL SP BE TI nx ac t v).2.2.1 (fX8_whips mt pl sp be ti PL SP BE TI nx ac t v).2.2.2.1 (fX8_whips mt pl sp be ti PL SP BE TI nx ac t v).2.2.2.2.1 (fX8_whips mt pl sp be ti PL SP BE TI nx ac t v).2.2.2.2.2.1 (fX8_whips mt pl sp be ti PL SP BE TI nx ac t v).2.2.2.2.2.2.1 (fX9_whips mt so ac t v).2.2 (fX9_whips mt so ac t v).2.1 ∧ (fX8_whips mt pl sp be ti PL SP BE TI nx ac t v).2.2.2.2.2.2.2 = (fX9_whips mt so ac t v).2.2 ∧ HI so (fX9_whips mt so ac t v).2.1 := by
  have i1 : fX9_in v.toInt64 1 20 = fX8_isWhip v := in_lit (by decide) (by decide)
  by_cases h1 : fX8_isTop mt t = 0
  · simp only [fX8_whips, fX9_whips, isTop_eq, h1, if_true]; exact ⟨trivial, h, hp, trivial, fun j _ => rfl⟩
  by_cases h2 : fX8_isWhip v = 0
  · simp only [fX8_whips, fX9_whips, isTop_eq, if_neg h1, i1, h2, if_true]; exact ⟨trivial, h, hp, trivial, fun j _ => rfl⟩
  obtain ⟨t1, t2⟩ := isTop_n hmt h1
  generalize hk : t.toNatClampNeg = k at *
  have k6 : k < 6 := by omega
  by_cases hs : 0 < sp k
  · obtain ⟨k1, k2, k3⟩ := known_sim h hp
    have hR2 : MOM mt mp pl sp be ti (fX9_known so ac).1 0 := mom_sh h (fun k hk => k3 _ (by omega))
    obtain ⟨a, b⟩ := within_iff.mp h2
    rw [m_le, m_1] at a
    rw [m_le, show (20 : Int32).toInt = 20 from by decide] at b
    obtain ⟨s1, s2, s3, s4⟩ := whip_sim (v := v) k6 hR2.1 hR2.2.1 hs ⟨by omega, b⟩
    simp only [fX8_whips, fX9_whips, isTop_eq, if_neg h1, i1, if_neg h2, hk, rm0_st h.1 k6, st_1 hs, if_neg m_10]
    rw [Nat.zero_add] at s4
    exact ⟨s4, ⟨s1, s2, h.2.2⟩, pas_frm k1 s3 (Or.inl rfl), k2, fun j hj => by rw [s3 j (by omega), k3 j (by omega)]⟩
  · simp only [fX8_whips, fX9_whips, isTop_eq, if_neg h1, i1, if_neg h2, hk, rm0_st h.1 k6, st_0 hs, if_true]
    exact ⟨trivial, h, hp, trivial, fun j _ => rfl⟩
theorem tilts_sim (h : MOM mt mp pl sp be ti so 0) (hp : PAS mt mp PL SP BE TI nx ac so) (w : Int32) : (fX8_tilts pl sp be ti PL SP BE TI nx ac w).1 = (fX9_tilts so ac w).1 ∧ MOM mt mp pl sp be (fX8_tilts pl sp be ti PL SP BE TI nx ac w).2.1 (fX9_tilts so ac w).2.1 0 ∧ PAS mt mp (fX8_tilts pl sp be ti PL SP BE TI nx ac w).2.2.1 (fX8_tilts pl sp be ti PL SP BE TI nx ac w).2.2.2.1 (fX8_tilts pl sp be ti PL SP BE TI nx ac w).2.2.2.2.1 (fX8_tilts pl sp be ti PL SP BE TI nx ac w).2.2.2.2.2.1 (fX8_tilts pl sp be ti PL SP BE TI nx ac w).2.2.2.2.2.2.1 (fX9_tilts so ac w).2.2 (fX9_tilts so ac w).2.1 ∧ (fX8_tilts pl sp be ti PL SP BE TI nx ac w).2.2.2.2.2.2.2 = (fX9_tilts so ac w).2.2 ∧ HI so (fX9_tilts so ac w).2.1 := by
  have i1 : fX9_in w.toInt64 0 2 = fX8_within w 0 2 := in_lit (by decide) (by decide)
  have e14 := rm0_14 h.1
  by_cases h1 : fX8_within w 0 2 = 0
  · simp only [fX8_tilts, fX9_tilts, i1, h1, if_true]; exact ⟨trivial, h, hp, trivial, fun j _ => rfl⟩
  by_cases h2 : ti = w
  · simp only [fX8_tilts, fX9_tilts, i1, if_neg h1, e14, h2, if_true]; exact ⟨trivial, h2 ▸ h, hp, trivial, fun j _ => rfl⟩
  obtain ⟨k1, k2, k3⟩ := known_sim h hp
  have hR2 : MOM mt mp pl sp be ti (fX9_known so ac).1 0 := mom_sh h (fun k hk => k3 _ (by omega))
  have hf : FRM (fX9_known so ac).1 (upd (fX9_known so ac).1 14 w) 0 := frm_up (by omega) (by omega)
  simp only [fX8_tilts, fX9_tilts, i1, if_neg h1, e14, if_neg h2]
  refine ⟨(rm0_14 hR2.1).symm, ⟨?_, h.2⟩, pas_frm k1 hf (Or.inl rfl), k2, fun j hj => by rw [hf j (by omega), k3 j (by omega)]⟩
  obtain ⟨g1, g2, g3, g4, g5⟩ := hR2.1
  refine ⟨fun t ht => ?_, ?_, ?_, ?_, fun t ht hp => ?_⟩
  · rw [m_un (by omega)]; exact g1 t ht
  · rw [m_un (by omega)]; exact g2
  · rw [m_un (by omega)]; exact g3
  · exact m_us
  · rw [m_un (by omega)]; exact g5 t ht hp
theorem sets_sim (hmt : mt ≤ 6) (hP : PZ mp) (h : MOM mt mp pl sp be ti so 0) (hp : PAS mt mp PL SP BE TI nx ac so) (t w : Int32) : (fX8_sets mp mt pl sp be ti PL SP BE TI nx ac t w).1 = (fX9_sets mp mt so ac t w).1 ∧ MOM mt mp (fX8_sets mp mt pl sp be ti PL SP BE TI nx ac t w).2.1 sp be ti (fX9_sets mp mt so ac t w).2.1 0 ∧ PAS mt mp (fX8_sets mp mt pl sp be ti PL SP BE TI nx ac t w).2.2.1 (fX8_sets mp mt pl sp be ti PL SP BE TI nx ac t w).2.2.2.1 (fX8_sets mp mt pl sp be ti PL SP BE TI nx ac t w).2.2.2.2.1 (fX8_sets mp mt pl sp be ti PL SP BE TI nx ac t w).2.2.2.2.2.1 (fX8_sets mp mt pl sp be ti PL SP BE TI nx ac t w).2.2.2.2.2.2.1 (fX9_sets mp mt so ac t w).2.2 (fX9_sets mp mt so ac t w).2.1 ∧ (fX8_sets mp mt pl sp be ti PL SP BE TI nx ac t w).2.2.2.2.2.2.2 = (fX9_sets mp mt so ac t w).2.2 ∧ HI so (fX9_sets mp mt so ac t w).2.1 := by
  have i1 : fX9_in w.toInt64 0 (mp - 1).toInt64 = fX8_isPlace mp w := in_lit (by decide) rfl
  by_cases h1 : fX8_isTop mt t = 0
  · simp only [fX8_sets, fX9_sets, isTop_eq, h1, if_true]; exact ⟨trivial, h, hp, trivial, fun j _ => rfl⟩
  by_cases h2 : fX8_isPlace mp w = 0
  · simp only [fX8_sets, fX9_sets, isTop_eq, if_neg h1, i1, h2, if_true]; exact ⟨trivial, h, hp, trivial, fun j _ => rfl⟩
  obtain ⟨t1, t2⟩ := isTop_n hmt h1
  generalize hk : t.toNatClampNeg = k at *
  have k6 : k < 6 := by omega
  by_cases hs : 0 < sp k
  · have hw := who_eq (u := -9) (w := w) hmt h.1 h.2.1 (fun t ht _ _ => nI_n9 ht)
    rcases who_cases pl sp w with ⟨a, c⟩ | ⟨o, o1, o2, o3, o4⟩
    · obtain ⟨k1, k2, k3⟩ := known_sim h hp
      have hR2 : MOM mt mp pl sp be ti (fX9_known so ac).1 0 := mom_sh h (fun k hk => k3 _ (by omega))
      have hf : FRM (fX9_known so ac).1 (upd (fX9_known so ac).1 k w) 0 := frm_up (by omega) (by omega)
      have hlt : (-9 : Int32) < 0 := by decide
      obtain ⟨wa, wb⟩ := within_iff.mp h2
      have em : (mp - 1).toInt = mp.toInt - 1 := by rw [m_sub (by have := hP.1; omega) (by have := hP.2; omega) (by rw [m_1]; omega) (by rw [m_1]; omega), m_1]
      rw [m_le, m_0] at wa
      rw [m_le, em] at wb
      simp only [fX8_sets, fX9_sets, isTop_eq, if_neg h1, i1, if_neg h2, hk, rm0_st h.1 k6, st_1 hs, if_neg m_10, hw, a, if_true, if_pos hlt]
      refine ⟨(rm0_pl hR2.1 k6 hs).symm, ⟨?_, mi_move h.2.1 hs ⟨wa, by omega⟩ (fun s hs' _ hps => c s hs' hps), h.2.2⟩, pas_frm k1 hf (Or.inl rfl), k2, fun j hj => by rw [hf j (by omega), k3 j (by omega)]⟩
      have := rm_move (y := w) k6 hR2.1
      rw [Nat.zero_add] at this
      exact this
    · simp only [fX8_sets, fX9_sets, isTop_eq, if_neg h1, i1, if_neg h2, hk, rm0_st h.1 k6, st_1 hs, if_neg m_10, hw, o4, if_neg (nI_n9 o1), if_neg (nI_nn o1)]
      exact ⟨trivial, h, hp, trivial, fun j _ => rfl⟩
  · simp only [fX8_sets, fX9_sets, isTop_eq, if_neg h1, i1, if_neg h2, hk, rm0_st h.1 k6, st_0 hs, if_true]
    exact ⟨trivial, h, hp, trivial, fun j _ => rfl⟩
theorem undo_sim (h : MOM mt mp pl sp be ti so 0) (hp : PAS mt mp PL SP BE TI nx ac so) : (fX8_undo pl sp be ti PL SP BE TI nx ac).1 = (fX9_undo so ac).1 ∧ MOM mt mp (fX8_undo pl sp be ti PL SP BE TI nx ac).2.1 (fX8_undo pl sp be ti PL SP BE TI nx ac).2.2.1 (fX8_undo pl sp be ti PL SP BE TI nx ac).2.2.2.1 (fX8_undo pl sp be ti PL SP BE TI nx ac).2.2.2.2.1 (fX9_undo so ac).2.1 0 ∧ PAS mt mp PL SP BE TI (fX8_undo pl sp be ti PL SP BE TI nx ac).2.2.2.2.2.1 (fX9_undo so ac).2.2 (fX9_undo so ac).2.1 ∧ (fX8_undo pl sp be ti PL SP BE TI nx ac).2.2.2.2.2.2 = (fX9_undo so ac).2.2 ∧ HI so (fX9_undo so ac).2.1 := by
  by_cases c : ac = 0
  · simp only [fX8_undo, fX9_undo, fX3_recall, if_pos c, if_true]
    exact ⟨trivial, h, hp, trivial, fun j _ => rfl⟩
  · obtain ⟨p1, p2, p3⟩ := hp
    have ew : (if nx ≤ 0 then 9 else nx - 1) = (nx + 9 - 0) % 10 := by
      by_cases c : nx ≤ 0
      · rw [if_pos c]; omega
      · rw [if_neg c]; omega
    have hm := p3 0 (by omega)
    have hf : FRM so (fX9_copies so (ac * 15) 0) 0 := copies_frm (by omega)
    simp only [fX8_undo, fX9_undo, fX3_recall, if_neg c, if_neg m_10, ew, fX2_copy]
    refine ⟨trivial, mom_copy (by omega) hm, ⟨by omega, by omega, fun k hk => ?_⟩, trivial, fun j hj => hf j (by omega)⟩
    have := p3 (k + 1) (by omega)
    rw [show ((nx + 9 - 0) % 10 + 9 - k) % 10 = (nx + 9 - (k + 1)) % 10 from by omega, show ac - 1 - k = ac - (k + 1) from by omega]
    exact mom_frm this hf (by omega)
end
theorem img_cases {i : Int32} (h : ¬ fX8_isImage i = 0) : i = 0 ∨ i = 1 := by
  obtain ⟨a, b⟩ := within_iff.mp h
  rw [m_le, m_0] at a; rw [m_le, m_1] at b
  rw [m_eq, m_eq, m_0, m_1]; omega
theorem keep_sim {mt : Nat} {mp : Int32} {pl sp so plI spI plJ spJ ke mk : Nat → Int32} {be ti beI tiI beJ tiJ : Int32} (h : MOM mt mp pl sp be ti so 0) (hI : IMG mt mp plI spI beI tiI (ke 0) (mk 0) so 165) (hJ : IMG mt mp plJ spJ beJ tiJ (ke 1) (mk 1) so 180) (i : Int32) : (fX8_keep pl sp be ti plI spI beI tiI plJ spJ beJ tiJ ke i).1 = (fX9_keep so mk i).1 ∧ IMG mt mp (fX8_keep pl sp be ti plI spI beI tiI plJ spJ beJ tiJ ke i).2.1 (fX8_keep pl sp be ti plI spI beI tiI plJ spJ beJ tiJ ke i).2.2.1 (fX8_keep pl sp be ti plI spI beI tiI plJ spJ beJ tiJ ke i).2.2.2.1 (fX8_keep pl sp be ti plI spI beI tiI plJ spJ beJ tiJ ke i).2.2.2.2.1 ((fX8_keep pl sp be ti plI spI beI tiI plJ spJ beJ tiJ ke i).2.2.2.2.2.2.2.2.2 0) ((fX9_keep so mk i).2.2 0) (fX9_keep so mk i).2.1 165 ∧ IMG mt mp (fX8_keep pl sp be ti plI spI beI tiI plJ spJ beJ tiJ ke i).2.2.2.2.2.1 (fX8_keep pl sp be ti plI spI beI tiI plJ spJ beJ tiJ ke i).2.2.2.2.2.2.1 (fX8_keep pl sp be ti plI spI beI tiI plJ spJ beJ tiJ ke i).2.2.2.2.2.2.2.1 (fX8_keep pl sp be ti plI spI beI tiI plJ spJ beJ tiJ ke i).2.2.2.2.2.2.2.2.1 ((fX8_keep pl sp be ti plI spI beI tiI plJ spJ beJ tiJ ke i).2.2.2.2.2.2.2.2.2 1) ((fX9_keep so mk i).2.2 1) (fX9_keep so mk i).2.1 180 ∧ (∀ j, j < 165 → (fX9_keep so mk i).2.1 j = so j) := by
  have i1 : fX9_in i.toInt64 0 1 = fX8_isImage i := in_lit (by decide) (by decide)
  have en : vp_nar .boolean 1 = 1 := by decide
  by_cases h1 : fX8_isImage i = 0
  · simp only [fX8_keep, fX9_keep, i1, h1, if_true]; exact ⟨trivial, hI, hJ, fun j _ => trivial⟩
  · rcases img_cases h1 with rfl | rfl
    · have e0 : (0 : Int32).toNatClampNeg = 0 := by decide
      have hf : FRM so (fX9_copies so 0 165) 165 := copies_frm (by omega)
      simp only [fX8_keep, fX9_keep, i1, if_neg h1, e0, if_true, fX2_copy, en, Nat.zero_mul, Nat.add_zero]
      refine ⟨by rw [hf 13 (by omega)]; exact (rm0_13 h.1).symm, ⟨by rw [m_us, m_us], Or.inr (mom_copy (by omega) h)⟩, ?_, fun j hj => hf j (by omega)⟩
      have := img_frm hJ hf (by omega)
      rw [m_un (by omega), m_un (by omega)]; exact this
    · have e0 : (1 : Int32).toNatClampNeg = 1 := by decide
      have hf : FRM so (fX9_copies so 0 180) 180 := copies_frm (by omega)
      simp only [fX8_keep, fX9_keep, i1, if_neg h1, e0, Nat.one_ne_zero, if_false, fX2_copy, en, Nat.one_mul, Nat.reduceAdd]
      refine ⟨by rw [hf 13 (by omega)]; exact (rm0_13 h.1).symm, ?_, ⟨by rw [m_us, m_us], Or.inr (mom_copy (by omega) h)⟩, fun j hj => hf j (by omega)⟩
      have := img_frm hI hf (by omega)
      rw [m_un (by omega), m_un (by omega)]; exact this
theorem back_sim {mt : Nat} {mp : Int32} {pl sp so plI spI plJ spJ ke mk : Nat → Int32} {be ti beI tiI beJ tiJ : Int32} {ac : Nat} (h : MOM mt mp pl sp be ti so 0) (hI : IMG mt mp plI spI beI tiI (ke 0) (mk 0) so 165) (hJ : IMG mt mp plJ spJ beJ tiJ (ke 1) (mk 1) so 180) (i : Int32) : (fX8_back pl sp be ti plI spI beI tiI plJ spJ beJ tiJ ke ac i).1 = (fX9_back so ac mk i).1 ∧ MOM mt mp (fX8_back pl sp be ti plI spI beI tiI plJ spJ beJ tiJ ke ac i).2.1 (fX8_back pl sp be ti plI spI beI tiI plJ spJ beJ tiJ ke ac i).2.2.1 (fX8_back pl sp be ti plI spI beI tiI plJ spJ beJ tiJ ke ac i).2.2.2.1 (fX8_back pl sp be ti plI spI beI tiI plJ spJ beJ tiJ ke ac i).2.2.2.2.1 (fX9_back so ac mk i).2.1 0 ∧ (fX8_back pl sp be ti plI spI beI tiI plJ spJ beJ tiJ ke ac i).2.2.2.2.2 = (fX9_back so ac mk i).2.2 ∧ ((fX9_back so ac mk i).2.2 = 0 ∨ (fX9_back so ac mk i).2.2 = ac) ∧ FRM so (fX9_back so ac mk i).2.1 0 := by
  have i1 : fX9_in i.toInt64 0 1 = fX8_isImage i := in_lit (by decide) (by decide)
  by_cases h1 : fX8_isImage i = 0
  · simp only [fX8_back, fX9_back, i1, h1, if_true]; exact ⟨trivial, h, trivial, Or.inr trivial, frm_refl _ _⟩
  · rcases img_cases h1 with rfl | rfl
    · have e0 : (0 : Int32).toNatClampNeg = 0 := by decide
      have hf : FRM so (fX9_copies so 165 0) 0 := copies_frm (by omega)
      by_cases c : mk 0 = 0
      · have c' : ke 0 = 0 := hI.1.trans c
        simp only [fX8_back, fX9_back, i1, if_neg h1, e0, if_true, if_pos c, if_pos c']
        exact ⟨trivial, h, trivial, Or.inr trivial, frm_refl _ _⟩
      · have c' : ¬ ke 0 = 0 := fun q => c (hI.1.symm.trans q)
        have hm := hI.2.resolve_left c
        have hm2 := mom_copy (pl' := pl) (sp' := sp) (b1 := 0) (by omega) hm
        simp only [fX8_back, fX9_back, i1, if_neg h1, e0, if_true, if_neg c, if_neg c', fX2_copy, Nat.zero_mul, Nat.add_zero]
        exact ⟨(rm0_13 hm2.1).symm, hm2, trivial, Or.inl trivial, hf⟩
    · have e0 : (1 : Int32).toNatClampNeg = 1 := by decide
      have hf : FRM so (fX9_copies so 180 0) 0 := copies_frm (by omega)
      by_cases c : mk 1 = 0
      · have c' : ke 1 = 0 := hJ.1.trans c
        simp only [fX8_back, fX9_back, i1, if_neg h1, e0, Nat.one_ne_zero, if_false, if_pos c, if_pos c']
        exact ⟨trivial, h, trivial, Or.inr trivial, frm_refl _ _⟩
      · have c' : ¬ ke 1 = 0 := fun q => c (hJ.1.symm.trans q)
        have hm := hJ.2.resolve_left c
        have hm2 := mom_copy (pl' := pl) (sp' := sp) (b1 := 0) (by omega) hm
        simp only [fX8_back, fX9_back, i1, if_neg h1, e0, Nat.one_ne_zero, if_false, if_neg c, if_neg c', fX2_copy, Nat.one_mul, Nat.reduceAdd]
        exact ⟨(rm0_13 hm2.1).symm, hm2, trivial, Or.inl trivial, hf⟩
