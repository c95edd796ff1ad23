def fX8_keep (pl : Nat → Int32) (sp : Nat → Int32) (be : Int32) (ti : Int32) (plI : Nat → Int32) (spI : Nat → Int32) (beI : Int32) (tiI : Int32) (plJ : Nat → Int32) (spJ : Nat → Int32) (beJ : Int32) (tiJ : Int32) (ke : Nat → Int32) (i : Int32) : (Int32) × (Nat → Int32) × (Nat → Int32) × (Int32) × (Int32) × (Nat → Int32) × (Nat → Int32) × (Int32) × (Int32) × (Nat → Int32) := (let r_1 : Int32 := fX8_isImage i; if r_1 = 0 then (((-1), plI, spI, beI, tiI, plJ, spJ, beJ, tiJ, ke)) else (if i.toNatClampNeg = 0 then (let pl_6 : Nat → Int32 := (fX2_copy plI spI pl sp be ti).1; let sp_7 : Nat → Int32 := (fX2_copy plI spI pl sp be ti).2.1; let be_8 : Int32 := (fX2_copy plI spI pl sp be ti).2.2.1; let ti_9 : Int32 := (fX2_copy plI spI pl sp be ti).2.2.2; let ke_11 : Nat → Int32 := upd ke 0 (vp_nar .boolean 1); (be, pl_6, sp_7, be_8, ti_9, plJ, spJ, beJ, tiJ, ke_11)) else (let pl_12 : Nat → Int32 := (fX2_copy plJ spJ pl sp be ti).1; let sp_13 : Nat → Int32 := (fX2_copy plJ spJ pl sp be ti).2.1; let be_14 : Int32 := (fX2_copy plJ spJ pl sp be ti).2.2.1; let ti_15 : Int32 := (fX2_copy plJ spJ pl sp be ti).2.2.2; let ke_17 : Nat → Int32 := upd ke 1 (vp_nar .boolean 1); (be, plI, spI, beI, tiI, pl_12, sp_13, be_14, ti_15, ke_17))))
set_option maxHeartbeats 4000000 in
set_option maxRecDepth 100000 in
theorem bX8_keep {l : Launch} {g : Gl} {X : Cx} (C : Ok l g X RX8 cX8_keep 2 2) (zo : Nat) (zx : Nat) (zr : Nat) (ztb : Nat) (zna : Nat) (zps : Nat) (zim : Nat) (zkp : Nat) (zf : Nat) (zs : Nat) (zk : Nat) (znp : Nat) (znq : Nat) (zi0 : Nat) (zi1 : Nat) (zip : Nat) (ziq : Nat) (zjp : Nat) (zjq : Nat) (pl : Nat → Int32) (sp : Nat → Int32) (be : Int32) (ti : Int32) (plI : Nat → Int32) (spI : Nat → Int32) (beI : Int32) (tiI : Int32) (plJ : Nat → Int32) (spJ : Nat → Int32) (beJ : Int32) (tiJ : Int32) (ke : Nat → Int32) (i : Int32) (hR : RetI g X cX8_keep 2 0 0 ((fX8_keep pl sp be ti plI spI beI tiI plJ spJ beJ tiJ ke i).1) (fl [wSpn zo zx zr ztb zna zps zim zkp zf zs zk, wMom g zna znp znq pl sp be ti, wImg g zim zi0 zi1, wMom g zi0 zip ziq ((fX8_keep pl sp be ti plI spI beI tiI plJ spJ beJ tiJ ke i).2.1) ((fX8_keep pl sp be ti plI spI beI tiI plJ spJ beJ tiJ ke i).2.2.1) ((fX8_keep pl sp be ti plI spI beI tiI plJ spJ beJ tiJ ke i).2.2.2.1) ((fX8_keep pl sp be ti plI spI beI tiI plJ spJ beJ tiJ ke i).2.2.2.2.1), wMom g zi1 zjp zjq ((fX8_keep pl sp be ti plI spI beI tiI plJ spJ beJ tiJ ke i).2.2.2.2.2.1) ((fX8_keep pl sp be ti plI spI beI tiI plJ spJ beJ tiJ ke i).2.2.2.2.2.2.1) ((fX8_keep pl sp be ti plI spI beI tiI plJ spJ beJ tiJ ke i).2.2.2.2.2.2.2.1) ((fX8_keep pl sp be ti plI spI beI tiI plJ spJ beJ tiJ ke i).2.2.2.2.2.2.2.2.1), wKep g zkp ((fX8_keep pl sp be ti plI spI beI tiI plJ spJ beJ tiJ ke i).2.2.2.2.2.2.2.2.2)])) : Vw g X 2 0 0 (fl [wSpn zo zx zr ztb zna zps zim zkp zf zs zk, wMom g zna znp znq pl sp be ti, wImg g zim zi0 zi1, wMom g zi0 zip ziq plI spI beI tiI, wMom g zi1 zjp zjq plJ spJ beJ tiJ, wKep g zkp ke]) 0 [(0, .ref zo), (1, .int i)] [] := by
  refine r_iload_n (pc := 0) C dX8_keep_0 1 rfl ?_
  obtain ⟨r_1, e_r_1⟩ : ∃ z : Int32, z = fX8_isImage i := ⟨_, rfl⟩
  have K_2 := ctX8_isImage l g   i 
  rw [← e_r_1] at K_2
  refine x_pI (pc := 1) C ms_X8_239 K_2 dX8_keep_1 (by decide) [] rfl (by decide) rfl (Nat.le_of_ble_eq_true rfl) ⟨Nat.zero_le _, Nat.zero_le _⟩ ?_
  refine r_ifne (pc := 4) 9 C dX8_keep_4 (by decide) (fun c_3 => ?_) (fun c_3 => ?_)
  · obtain ⟨h_4, qh_4⟩ := natc (x := i) (B := 2) (by omega) (image_nat (by rw [← e_r_1]; assumption))
    refine u_lvq [(0, .ref zo), (1, .int (nI i.toNatClampNeg))] (by rw [qh_4]) ?_
    by_cases c_5 : i.toNatClampNeg = 0
    · refine u_lvq [(0, .ref zo), (1, .int 0)] (by rw [c_5]; rfl) ?_
      refine r_aload_n (pc := 9) C dX8_keep_9 0 rfl ?_
      refine r_get (pc := 10) C fl_X8_46 dX8_keep_10 0 rfl rfl ?_
      refine r_iload_n (pc := 13) C dX8_keep_13 1 rfl ?_
      refine r_aald (pc := 14) 0 C dX8_keep_14 4 rfl rfl (by omega) (by decide) rfl ?_
      refine r_aload_n (pc := 15) C dX8_keep_15 0 rfl ?_
      refine r_get (pc := 16) C fl_X8_35 dX8_keep_16 0 rfl rfl ?_
      obtain ⟨pl_6, e_pl_6⟩ : ∃ z : Nat → Int32, z = (fX2_copy plI spI pl sp be ti).1 := ⟨_, rfl⟩
      obtain ⟨sp_7, e_sp_7⟩ : ∃ z : Nat → Int32, z = (fX2_copy plI spI pl sp be ti).2.1 := ⟨_, rfl⟩
      obtain ⟨be_8, e_be_8⟩ : ∃ z : Int32, z = (fX2_copy plI spI pl sp be ti).2.2.1 := ⟨_, rfl⟩
      obtain ⟨ti_9, e_ti_9⟩ : ∃ z : Int32, z = (fX2_copy plI spI pl sp be ti).2.2.2 := ⟨_, rfl⟩
      have K_10 := ctX2_copy l g zi0 zip ziq zna znp znq plI spI beI tiI pl sp be ti  
      rw [← e_pl_6, ← e_sp_7, ← e_be_8, ← e_ti_9] at K_10
      refine w_cV (pc := 19) [wSpn zo zx zr ztb zna zps zim zkp zf zs zk, wMom g zna znp znq pl sp be ti, wImg g zim zi0 zi1, wMom g zi0 zip ziq pl_6 sp_7 be_8 ti_9, wMom g zi1 zjp zjq plJ spJ beJ tiJ, wKep g zkp ke] C mv_X8_101 K_10 dX8_keep_19 (by decide) [3, 1] rfl (by decide) (by simp only [List.map_cons, List.map_nil, adMom]) rfl 5 rfl rfl (Nat.le_of_ble_eq_true rfl) ⟨Nat.zero_le _, Nat.zero_le _⟩ ?_
      refine r_aload_n (pc := 22) C dX8_keep_22 0 rfl ?_
      refine r_get (pc := 23) C fl_X8_50 dX8_keep_23 0 rfl rfl ?_
      refine r_iload_n (pc := 26) C dX8_keep_26 1 rfl ?_
      refine r_iconst (pc := 27) 1 C dX8_keep_27 rfl ?_
      obtain ⟨ke_11, e_ke_11⟩ : ∃ z : Nat → Int32, z = upd ke 0 (vp_nar .boolean 1) := ⟨_, rfl⟩
      refine r_zast (pc := 28) 0 (fl [wSpn zo zx zr ztb zna zps zim zkp zf zs zk, wMom g zna znp znq pl sp be ti, wImg g zim zi0 zi1, wMom g zi0 zip ziq pl_6 sp_7 be_8 ti_9, wMom g zi1 zjp zjq plJ spJ beJ tiJ, wKep g zkp ke_11]) C dX8_keep_28 11 rfl rfl (by omega) (by decide) (by rw [← e_ke_11]; rfl) ?_
      refine r_aload_n (pc := 29) C dX8_keep_29 0 rfl ?_
      refine r_get (pc := 30) C fl_X8_35 dX8_keep_30 0 rfl rfl ?_
      refine r_get (pc := 33) C fl_X8_135 dX8_keep_33 1 rfl rfl ?_
      have hf : fX8_keep pl sp be ti plI spI beI tiI plJ spJ beJ tiJ ke i = (be, pl_6, sp_7, be_8, ti_9, plJ, spJ, beJ, tiJ, ke_11) := by first | (simp only [fX8_keep, ← e_r_1, ← e_pl_6, ← e_sp_7, ← e_be_8, ← e_ti_9, ← e_ke_11, if_neg c_3, if_pos c_5]; done) | (subst e_r_1 e_pl_6 e_sp_7 e_be_8 e_ti_9 e_ke_11; simp only [fX8_keep, if_neg c_3, if_pos c_5]; done) | (subst e_r_1 e_pl_6 e_sp_7 e_be_8 e_ti_9 e_ke_11; rfl) | (subst e_r_1 e_pl_6 e_sp_7 e_be_8 e_ti_9 e_ke_11; simp [fX8_keep, if_neg c_3, if_pos c_5]; done)
      rw [hf] at hR
      exact hR _ _ dX8_keep_36
    · have hc_5 : i.toNatClampNeg = 1 := by omega
      refine u_lvq [(0, .ref zo), (1, .int 1)] (by rw [hc_5]; rfl) ?_
      refine r_aload_n (pc := 9) C dX8_keep_9 0 rfl ?_
      refine r_get (pc := 10) C fl_X8_46 dX8_keep_10 0 rfl rfl ?_
      refine r_iload_n (pc := 13) C dX8_keep_13 1 rfl ?_
      refine r_aald (pc := 14) 1 C dX8_keep_14 4 rfl rfl (by omega) (by decide) rfl ?_
      refine r_aload_n (pc := 15) C dX8_keep_15 0 rfl ?_
      refine r_get (pc := 16) C fl_X8_35 dX8_keep_16 0 rfl rfl ?_
      obtain ⟨pl_12, e_pl_12⟩ : ∃ z : Nat → Int32, z = (fX2_copy plJ spJ pl sp be ti).1 := ⟨_, rfl⟩
      obtain ⟨sp_13, e_sp_13⟩ : ∃ z : Nat → Int32, z = (fX2_copy plJ spJ pl sp be ti).2.1 := ⟨_, rfl⟩
      obtain ⟨be_14, e_be_14⟩ : ∃ z : Int32, z = (fX2_copy plJ spJ pl sp be ti).2.2.1 := ⟨_, rfl⟩
      obtain ⟨ti_15, e_ti_15⟩ : ∃ z : Int32, z = (fX2_copy plJ spJ pl sp be ti).2.2.2 := ⟨_, rfl⟩
      have K_16 := ctX2_copy l g zi1 zjp zjq zna znp znq plJ spJ beJ tiJ pl sp be ti  
      rw [← e_pl_12, ← e_sp_13, ← e_be_14, ← e_ti_15] at K_16
      refine w_cV (pc := 19) [wSpn zo zx zr ztb zna zps zim zkp zf zs zk, wMom g zna znp znq pl sp be ti, wImg g zim zi0 zi1, wMom g zi0 zip ziq plI spI beI tiI, wMom g zi1 zjp zjq pl_12 sp_13 be_14 ti_15, wKep g zkp ke] C mv_X8_101 K_16 dX8_keep_19 (by decide) [4, 1] rfl (by decide) (by simp only [List.map_cons, List.map_nil, adMom]) rfl 8 rfl rfl (Nat.le_of_ble_eq_true rfl) ⟨Nat.zero_le _, Nat.zero_le _⟩ ?_
      refine r_aload_n (pc := 22) C dX8_keep_22 0 rfl ?_
      refine r_get (pc := 23) C fl_X8_50 dX8_keep_23 0 rfl rfl ?_
      refine r_iload_n (pc := 26) C dX8_keep_26 1 rfl ?_
      refine r_iconst (pc := 27) 1 C dX8_keep_27 rfl ?_
      obtain ⟨ke_17, e_ke_17⟩ : ∃ z : Nat → Int32, z = upd ke 1 (vp_nar .boolean 1) := ⟨_, rfl⟩
      refine r_zast (pc := 28) 1 (fl [wSpn zo zx zr ztb zna zps zim zkp zf zs zk, wMom g zna znp znq pl sp be ti, wImg g zim zi0 zi1, wMom g zi0 zip ziq plI spI beI tiI, wMom g zi1 zjp zjq pl_12 sp_13 be_14 ti_15, wKep g zkp ke_17]) C dX8_keep_28 11 rfl rfl (by omega) (by decide) (by rw [← e_ke_17]; rfl) ?_
      refine r_aload_n (pc := 29) C dX8_keep_29 0 rfl ?_
      refine r_get (pc := 30) C fl_X8_35 dX8_keep_30 0 rfl rfl ?_
      refine r_get (pc := 33) C fl_X8_135 dX8_keep_33 1 rfl rfl ?_
      have hf : fX8_keep pl sp be ti plI spI beI tiI plJ spJ beJ tiJ ke i = (be, plI, spI, beI, tiI, pl_12, sp_13, be_14, ti_15, ke_17) := by first | (simp only [fX8_keep, ← e_r_1, ← e_pl_12, ← e_sp_13, ← e_be_14, ← e_ti_15, ← e_ke_17, if_neg c_3, if_neg c_5]; done) | (subst e_r_1 e_pl_12 e_sp_13 e_be_14 e_ti_15 e_ke_17; simp only [fX8_keep, if_neg c_3, if_neg c_5]; done) | (subst e_r_1 e_pl_12 e_sp_13 e_be_14 e_ti_15 e_ke_17; rfl) | (subst e_r_1 e_pl_12 e_sp_13 e_be_14 e_ti_15 e_ke_17; simp [fX8_keep, if_neg c_3, if_neg c_5]; done)
      rw [hf] at hR
      exact hR _ _ dX8_keep_36
  · refine r_iconst (pc := 7) (-1) C dX8_keep_7 rfl ?_
    have hf : fX8_keep pl sp be ti plI spI beI tiI plJ spJ beJ tiJ ke i = ((-1), plI, spI, beI, tiI, plJ, spJ, beJ, tiJ, ke) := by first | (simp only [fX8_keep, ← e_r_1, if_pos c_3]; done) | (subst e_r_1; simp only [fX8_keep, if_pos c_3]; done) | (subst e_r_1; rfl) | (subst e_r_1; simp [fX8_keep, if_pos c_3]; done)
    rw [hf] at hR
    exact hR _ _ dX8_keep_8
theorem ctX8_keep (l : Launch) (g : Gl) (zo : Nat) (zx : Nat) (zr : Nat) (ztb : Nat) (zna : Nat) (zps : Nat) (zim : Nat) (zkp : Nat) (zf : Nat) (zs : Nat) (zk : Nat) (znp : Nat) (znq : Nat) (zi0 : Nat) (zi1 : Nat) (zip : Nat) (ziq : Nat) (zjp : Nat) (zjq : Nat) (pl : Nat → Int32) (sp : Nat → Int32) (be : Int32) (ti : Int32) (plI : Nat → Int32) (spI : Nat → Int32) (beI : Int32) (tiI : Int32) (plJ : Nat → Int32) (spJ : Nat → Int32) (beJ : Int32) (tiJ : Int32) (ke : Nat → Int32) (i : Int32) : CtI l g yX8_keep cX8_keep 2 (some .int) 2 [.ref zo, .int i] (fl [wSpn zo zx zr ztb zna zps zim zkp zf zs zk, wMom g zna znp znq pl sp be ti, wImg g zim zi0 zi1, wMom g zi0 zip ziq plI spI beI tiI, wMom g zi1 zjp zjq plJ spJ beJ tiJ, wKep g zkp ke]) ((fX8_keep pl sp be ti plI spI beI tiI plJ spJ beJ tiJ ke i).1) (fl [wSpn zo zx zr ztb zna zps zim zkp zf zs zk, wMom g zna znp znq pl sp be ti, wImg g zim zi0 zi1, wMom g zi0 zip ziq ((fX8_keep pl sp be ti plI spI beI tiI plJ spJ beJ tiJ ke i).2.1) ((fX8_keep pl sp be ti plI spI beI tiI plJ spJ beJ tiJ ke i).2.2.1) ((fX8_keep pl sp be ti plI spI beI tiI plJ spJ beJ tiJ ke i).2.2.2.1) ((fX8_keep pl sp be ti plI spI beI tiI plJ spJ beJ tiJ ke i).2.2.2.2.1), wMom g zi1 zjp zjq ((fX8_keep pl sp be ti plI spI beI tiI plJ spJ beJ tiJ ke i).2.2.2.2.2.1) ((fX8_keep pl sp be ti plI spI beI tiI plJ spJ beJ tiJ ke i).2.2.2.2.2.2.1) ((fX8_keep pl sp be ti plI spI beI tiI plJ spJ beJ tiJ ke i).2.2.2.2.2.2.2.1) ((fX8_keep pl sp be ti plI spI beI tiI plJ spJ beJ tiJ ke i).2.2.2.2.2.2.2.2.1), wKep g zkp ((fX8_keep pl sp be ti plI spI beI tiI plJ spJ beJ tiJ ke i).2.2.2.2.2.2.2.2.2)]) := mkI .int rfl rfl [(0, .ref zo), (1, .int i)] (by decide) (Nat.le_of_ble_eq_true rfl) rfl (fun X C hR => bX8_keep C zo zx zr ztb zna zps zim zkp zf zs zk znp znq zi0 zi1 zip ziq zjp zjq pl sp be ti plI spI beI tiI plJ spJ beJ tiJ ke i hR)
