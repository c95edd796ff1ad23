def fX8_back (pl : Nat → Int32) (sp : Nat → Int32) (be : Int32) (ti : Int32) (plI : Nat → Int32) (spI : Nat → Int32) (beI : Int32) (tiI : Int32) (plJ : Nat → Int32) (spJ : Nat → Int32) (beJ : Int32) (tiJ : Int32) (ke : Nat → Int32) (knP : Nat) (i : Int32) : (Int32) × (Nat → Int32) × (Nat → Int32) × (Int32) × (Int32) × (Nat) := (let r_1 : Int32 := fX8_isImage i; if r_1 = 0 then (((-1), pl, sp, be, ti, knP)) else (if i.toNatClampNeg = 0 then (if (ke 0) = 0 then (((-2), pl, sp, be, ti, knP)) else (let pl_7 : Nat → Int32 := (fX2_copy pl sp plI spI beI tiI).1; let sp_8 : Nat → Int32 := (fX2_copy pl sp plI spI beI tiI).2.1; let be_9 : Int32 := (fX2_copy pl sp plI spI beI tiI).2.2.1; let ti_10 : Int32 := (fX2_copy pl sp plI spI beI tiI).2.2.2; (be_9, pl_7, sp_8, be_9, ti_10, 0))) else (if (ke 1) = 0 then (((-2), pl, sp, be, ti, knP)) else (let pl_13 : Nat → Int32 := (fX2_copy pl sp plJ spJ beJ tiJ).1; let sp_14 : Nat → Int32 := (fX2_copy pl sp plJ spJ beJ tiJ).2.1; let be_15 : Int32 := (fX2_copy pl sp plJ spJ beJ tiJ).2.2.1; let ti_16 : Int32 := (fX2_copy pl sp plJ spJ beJ tiJ).2.2.2; (be_15, pl_13, sp_14, be_15, ti_16, 0)))))
set_option maxHeartbeats 4000000 in
set_option maxRecDepth 100000 in
theorem bX8_back {l : Launch} {g : Gl} {X : Cx} (C : Ok l g X RX8 cX8_back 2 2) (zo : Nat) (zx : Nat) (zr : Nat) (ztb : Nat) (zna : Nat) (zps : Nat) (zim : Nat) (zkp : Nat) (zf : Nat) (zs : Nat) (zk : Nat) (znp : Nat) (znq : Nat) (zi0 : Nat) (zi1 : Nat) (zip : Nat) (ziq : Nat) (zjp : Nat) (zjq : Nat) (zma : Nat) (zmo : Nat → Nat) (zmp : Nat → Nat) (zmq : Nat → Nat) (pl : Nat → Int32) (sp : Nat → Int32) (be : Int32) (ti : Int32) (plI : Nat → Int32) (spI : Nat → Int32) (beI : Int32) (tiI : Int32) (plJ : Nat → Int32) (spJ : Nat → Int32) (beJ : Int32) (tiJ : Int32) (ke : Nat → Int32) (PLP : Nat → Nat → Int32) (SPP : Nat → Nat → Int32) (BEP : Nat → Int32) (TIP : Nat → Int32) (nxP : Nat) (knP : Nat) (i : Int32) (hR : RetI g X cX8_back 2 0 0 ((fX8_back pl sp be ti plI spI beI tiI plJ spJ beJ tiJ ke knP i).1) (fl [wSpn zo zx zr ztb zna zps zim zkp zf zs zk, wMom g zna znp znq ((fX8_back pl sp be ti plI spI beI tiI plJ spJ beJ tiJ ke knP i).2.1) ((fX8_back pl sp be ti plI spI beI tiI plJ spJ beJ tiJ ke knP i).2.2.1) ((fX8_back pl sp be ti plI spI beI tiI plJ spJ beJ tiJ ke knP i).2.2.2.1) ((fX8_back pl sp be ti plI spI beI tiI plJ spJ beJ tiJ ke knP i).2.2.2.2.1), wImg g zim zi0 zi1, wMom g zi0 zip ziq plI spI beI tiI, wMom g zi1 zjp zjq plJ spJ beJ tiJ, wKep g zkp ke, wPas g zps zma zmo zmp zmq PLP SPP BEP TIP nxP ((fX8_back pl sp be ti plI spI beI tiI plJ spJ beJ tiJ ke knP i).2.2.2.2.2)])) : Vw g X 2 0 0 (fl [wSpn zo zx zr ztb zna zps zim zkp zf zs zk, wMom g zna znp znq pl sp be ti, wImg g zim zi0 zi1, wMom g zi0 zip ziq plI spI beI tiI, wMom g zi1 zjp zjq plJ spJ beJ tiJ, wKep g zkp ke, wPas g zps zma zmo zmp zmq PLP SPP BEP TIP nxP knP]) 0 [(0, .ref zo), (1, .int i)] [] := by
  refine r_iload_n (pc := 0) C dX8_back_0 1 rfl ?_
  obtain ⟨r_1, e_r_1⟩ : ∃ z : Int32, z = fX8_isImage i := ⟨_, rfl⟩
  have K_2 := ctX8_isImage l g   i 
  rw [← e_r_1] at K_2
  refine x_pI (pc := 1) C ms_X8_239 K_2 dX8_back_1 (by decide) [] rfl (by decide) rfl (Nat.le_of_ble_eq_true rfl) ⟨Nat.zero_le _, Nat.zero_le _⟩ ?_
  refine r_ifne (pc := 4) 9 C dX8_back_4 (by decide) (fun c_3 => ?_) (fun c_3 => ?_)
  · obtain ⟨h_4, qh_4⟩ := natc (x := i) (B := 2) (by omega) (image_nat (by rw [← e_r_1]; assumption))
    refine u_lvq [(0, .ref zo), (1, .int (nI i.toNatClampNeg))] (by rw [qh_4]) ?_
    by_cases c_5 : i.toNatClampNeg = 0
    · refine u_lvq [(0, .ref zo), (1, .int 0)] (by rw [c_5]; rfl) ?_
      refine r_aload_n (pc := 9) C dX8_back_9 0 rfl ?_
      refine r_get (pc := 10) C fl_X8_50 dX8_back_10 0 rfl rfl ?_
      refine r_iload_n (pc := 13) C dX8_back_13 1 rfl ?_
      refine r_zald (pc := 14) 0 C dX8_back_14 11 rfl rfl (by omega) (by decide) ?_
      refine r_ifne (pc := 15) 21 C dX8_back_15 (by decide) (fun c_6 => ?_) (fun c_6 => ?_)
      · refine r_aload_n (pc := 21) C dX8_back_21 0 rfl ?_
        refine r_get (pc := 22) C fl_X8_35 dX8_back_22 0 rfl rfl ?_
        refine r_aload_n (pc := 25) C dX8_back_25 0 rfl ?_
        refine r_get (pc := 26) C fl_X8_46 dX8_back_26 0 rfl rfl ?_
        refine r_iload_n (pc := 29) C dX8_back_29 1 rfl ?_
        refine r_aald (pc := 30) 0 C dX8_back_30 4 rfl rfl (by omega) (by decide) rfl ?_
        obtain ⟨pl_7, e_pl_7⟩ : ∃ z : Nat → Int32, z = (fX2_copy pl sp plI spI beI tiI).1 := ⟨_, rfl⟩
        obtain ⟨sp_8, e_sp_8⟩ : ∃ z : Nat → Int32, z = (fX2_copy pl sp plI spI beI tiI).2.1 := ⟨_, rfl⟩
        obtain ⟨be_9, e_be_9⟩ : ∃ z : Int32, z = (fX2_copy pl sp plI spI beI tiI).2.2.1 := ⟨_, rfl⟩
        obtain ⟨ti_10, e_ti_10⟩ : ∃ z : Int32, z = (fX2_copy pl sp plI spI beI tiI).2.2.2 := ⟨_, rfl⟩
        have K_11 := ctX2_copy l g zna znp znq zi0 zip ziq pl sp be ti plI spI beI tiI  
        rw [← e_pl_7, ← e_sp_8, ← e_be_9, ← e_ti_10] at K_11
        refine w_cV (pc := 31) [wSpn zo zx zr ztb zna zps zim zkp zf zs zk, wMom g zna znp znq pl_7 sp_8 be_9 ti_10, wImg g zim zi0 zi1, wMom g zi0 zip ziq plI spI beI tiI, wMom g zi1 zjp zjq plJ spJ beJ tiJ, wKep g zkp ke, wPas g zps zma zmo zmp zmq PLP SPP BEP TIP nxP knP] C mv_X8_101 K_11 dX8_back_31 (by decide) [1, 3] rfl (by decide) (by simp only [List.map_cons, List.map_nil, adMom]) rfl 1 rfl rfl (Nat.le_of_ble_eq_true rfl) ⟨Nat.zero_le _, Nat.zero_le _⟩ ?_
        refine r_aload_n (pc := 34) C dX8_back_34 0 rfl ?_
        refine r_get (pc := 35) C fl_X8_42 dX8_back_35 0 rfl rfl ?_
        refine r_iconst (pc := 38) 0 C dX8_back_38 rfl ?_
        refine r_put (pc := 39) (fl [wSpn zo zx zr ztb zna zps zim zkp zf zs zk, wMom g zna znp znq pl_7 sp_8 be_9 ti_10, wImg g zim zi0 zi1, wMom g zi0 zip ziq plI spI beI tiI, wMom g zi1 zjp zjq plJ spJ beJ tiJ, wKep g zkp ke, wPas g zps zma zmo zmp zmq PLP SPP BEP TIP nxP 0]) C fp_X8_104 dX8_back_39 12 rfl (Nat.le_of_ble_eq_true rfl) rfl rfl rfl ?_
        refine r_aload_n (pc := 42) C dX8_back_42 0 rfl ?_
        refine r_get (pc := 43) C fl_X8_35 dX8_back_43 0 rfl rfl ?_
        refine r_get (pc := 46) C fl_X8_135 dX8_back_46 1 rfl rfl ?_
        have hf : fX8_back pl sp be ti plI spI beI tiI plJ spJ beJ tiJ ke knP i = (be_9, pl_7, sp_8, be_9, ti_10, 0) := by first | (simp only [fX8_back, ← e_r_1, ← e_pl_7, ← e_sp_8, ← e_be_9, ← e_ti_10, if_neg c_3, if_pos c_5, if_neg c_6]; done) | (subst e_r_1 e_pl_7 e_sp_8 e_be_9 e_ti_10; simp only [fX8_back, if_neg c_3, if_pos c_5, if_neg c_6]; done) | (subst e_r_1 e_pl_7 e_sp_8 e_be_9 e_ti_10; rfl) | (subst e_r_1 e_pl_7 e_sp_8 e_be_9 e_ti_10; simp [fX8_back, if_neg c_3, if_pos c_5, if_neg c_6]; done)
        rw [hf] at hR
        exact hR _ _ dX8_back_49
      · refine r_bipush (pc := 18) (-2) C dX8_back_18 rfl ?_
        have hf : fX8_back pl sp be ti plI spI beI tiI plJ spJ beJ tiJ ke knP i = ((-2), pl, sp, be, ti, knP) := by first | (simp only [fX8_back, ← e_r_1, if_neg c_3, if_pos c_5, if_pos c_6]; done) | (subst e_r_1; simp only [fX8_back, if_neg c_3, if_pos c_5, if_pos c_6]; done) | (subst e_r_1; rfl) | (subst e_r_1; simp [fX8_back, if_neg c_3, if_pos c_5, if_pos c_6]; done)
        rw [hf] at hR
        exact hR _ _ dX8_back_20
    · have hc_5 : i.toNatClampNeg = 1 := by omega
      refine u_lvq [(0, .ref zo), (1, .int 1)] (by rw [hc_5]; rfl) ?_
      refine r_aload_n (pc := 9) C dX8_back_9 0 rfl ?_
      refine r_get (pc := 10) C fl_X8_50 dX8_back_10 0 rfl rfl ?_
      refine r_iload_n (pc := 13) C dX8_back_13 1 rfl ?_
      refine r_zald (pc := 14) 1 C dX8_back_14 11 rfl rfl (by omega) (by decide) ?_
      refine r_ifne (pc := 15) 21 C dX8_back_15 (by decide) (fun c_12 => ?_) (fun c_12 => ?_)
      · refine r_aload_n (pc := 21) C dX8_back_21 0 rfl ?_
        refine r_get (pc := 22) C fl_X8_35 dX8_back_22 0 rfl rfl ?_
        refine r_aload_n (pc := 25) C dX8_back_25 0 rfl ?_
        refine r_get (pc := 26) C fl_X8_46 dX8_back_26 0 rfl rfl ?_
        refine r_iload_n (pc := 29) C dX8_back_29 1 rfl ?_
        refine r_aald (pc := 30) 1 C dX8_back_30 4 rfl rfl (by omega) (by decide) rfl ?_
        obtain ⟨pl_13, e_pl_13⟩ : ∃ z : Nat → Int32, z = (fX2_copy pl sp plJ spJ beJ tiJ).1 := ⟨_, rfl⟩
        obtain ⟨sp_14, e_sp_14⟩ : ∃ z : Nat → Int32, z = (fX2_copy pl sp plJ spJ beJ tiJ).2.1 := ⟨_, rfl⟩
        obtain ⟨be_15, e_be_15⟩ : ∃ z : Int32, z = (fX2_copy pl sp plJ spJ beJ tiJ).2.2.1 := ⟨_, rfl⟩
        obtain ⟨ti_16, e_ti_16⟩ : ∃ z : Int32, z = (fX2_copy pl sp plJ spJ beJ tiJ).2.2.2 := ⟨_, rfl⟩
        have K_17 := ctX2_copy l g zna znp znq zi1 zjp zjq pl sp be ti plJ spJ beJ tiJ  
        rw [← e_pl_13, ← e_sp_14, ← e_be_15, ← e_ti_16] at K_17
        refine w_cV (pc := 31) [wSpn zo zx zr ztb zna zps zim zkp zf zs zk, wMom g zna znp znq pl_13 sp_14 be_15 ti_16, wImg g zim zi0 zi1, wMom g zi0 zip ziq plI spI beI tiI, wMom g zi1 zjp zjq plJ spJ beJ tiJ, wKep g zkp ke, wPas g zps zma zmo zmp zmq PLP SPP BEP TIP nxP knP] C mv_X8_101 K_17 dX8_back_31 (by decide) [1, 4] rfl (by decide) (by simp only [List.map_cons, List.map_nil, adMom]) rfl 1 rfl rfl (Nat.le_of_ble_eq_true rfl) ⟨Nat.zero_le _, Nat.zero_le _⟩ ?_
        refine r_aload_n (pc := 34) C dX8_back_34 0 rfl ?_
        refine r_get (pc := 35) C fl_X8_42 dX8_back_35 0 rfl rfl ?_
        refine r_iconst (pc := 38) 0 C dX8_back_38 rfl ?_
        refine r_put (pc := 39) (fl [wSpn zo zx zr ztb zna zps zim zkp zf zs zk, wMom g zna znp znq pl_13 sp_14 be_15 ti_16, wImg g zim zi0 zi1, wMom g zi0 zip ziq plI spI beI tiI, wMom g zi1 zjp zjq plJ spJ beJ tiJ, wKep g zkp ke, wPas g zps zma zmo zmp zmq PLP SPP BEP TIP nxP 0]) C fp_X8_104 dX8_back_39 12 rfl (Nat.le_of_ble_eq_true rfl) rfl rfl rfl ?_
        refine r_aload_n (pc := 42) C dX8_back_42 0 rfl ?_
        refine r_get (pc := 43) C fl_X8_35 dX8_back_43 0 rfl rfl ?_
        refine r_get (pc := 46) C fl_X8_135 dX8_back_46 1 rfl rfl ?_
        have hf : fX8_back pl sp be ti plI spI beI tiI plJ spJ beJ tiJ ke knP i = (be_15, pl_13, sp_14, be_15, ti_16, 0) := by first | (simp only [fX8_back, ← e_r_1, ← e_pl_13, ← e_sp_14, ← e_be_15, ← e_ti_16, if_neg c_3, if_neg c_5, if_neg c_12]; done) | (subst e_r_1 e_pl_13 e_sp_14 e_be_15 e_ti_16; simp only [fX8_back, if_neg c_3, if_neg c_5, if_neg c_12]; done) | (subst e_r_1 e_pl_13 e_sp_14 e_be_15 e_ti_16; rfl) | (subst e_r_1 e_pl_13 e_sp_14 e_be_15 e_ti_16; simp [fX8_back, if_neg c_3, if_neg c_5, if_neg c_12]; done)
        rw [hf] at hR
        exact hR _ _ dX8_back_49
      · refine r_bipush (pc := 18) (-2) C dX8_back_18 rfl ?_
        have hf : fX8_back pl sp be ti plI spI beI tiI plJ spJ beJ tiJ ke knP i = ((-2), pl, sp, be, ti, knP) := by first | (simp only [fX8_back, ← e_r_1, if_neg c_3, if_neg c_5, if_pos c_12]; done) | (subst e_r_1; simp only [fX8_back, if_neg c_3, if_neg c_5, if_pos c_12]; done) | (subst e_r_1; rfl) | (subst e_r_1; simp [fX8_back, if_neg c_3, if_neg c_5, if_pos c_12]; done)
        rw [hf] at hR
        exact hR _ _ dX8_back_20
  · refine r_iconst (pc := 7) (-1) C dX8_back_7 rfl ?_
    have hf : fX8_back pl sp be ti plI spI beI tiI plJ spJ beJ tiJ ke knP i = ((-1), pl, sp, be, ti, knP) := by first | (simp only [fX8_back, ← e_r_1, if_pos c_3]; done) | (subst e_r_1; simp only [fX8_back, if_pos c_3]; done) | (subst e_r_1; rfl) | (subst e_r_1; simp [fX8_back, if_pos c_3]; done)
    rw [hf] at hR
    exact hR _ _ dX8_back_8
theorem ctX8_back (l : Launch) (g : Gl) (zo : Nat) (zx : Nat) (zr : Nat) (ztb : Nat) (zna : Nat) (zps : Nat) (zim : Nat) (zkp : Nat) (zf : Nat) (zs : Nat) (zk : Nat) (znp : Nat) (znq : Nat) (zi0 : Nat) (zi1 : Nat) (zip : Nat) (ziq : Nat) (zjp : Nat) (zjq : Nat) (zma : Nat) (zmo : Nat → Nat) (zmp : Nat → Nat) (zmq : Nat → Nat) (pl : Nat → Int32) (sp : Nat → Int32) (be : Int32) (ti : Int32) (plI : Nat → Int32) (spI : Nat → Int32) (beI : Int32) (tiI : Int32) (plJ : Nat → Int32) (spJ : Nat → Int32) (beJ : Int32) (tiJ : Int32) (ke : Nat → Int32) (PLP : Nat → Nat → Int32) (SPP : Nat → Nat → Int32) (BEP : Nat → Int32) (TIP : Nat → Int32) (nxP : Nat) (knP : Nat) (i : Int32) : CtI l g yX8_back cX8_back 2 (some .int) 2 [.ref zo, .int i] (fl [wSpn zo zx zr ztb zna zps zim zkp zf zs zk, wMom g zna znp znq pl sp be ti, wImg g zim zi0 zi1, wMom g zi0 zip ziq plI spI beI tiI, wMom g zi1 zjp zjq plJ spJ beJ tiJ, wKep g zkp ke, wPas g zps zma zmo zmp zmq PLP SPP BEP TIP nxP knP]) ((fX8_back pl sp be ti plI spI beI tiI plJ spJ beJ tiJ ke knP i).1) (fl [wSpn zo zx zr ztb zna zps zim zkp zf zs zk, wMom g zna znp znq ((fX8_back pl sp be ti plI spI beI tiI plJ spJ beJ tiJ ke knP i).2.1) ((fX8_back pl sp be ti plI spI beI tiI plJ spJ beJ tiJ ke knP i).2.2.1) ((fX8_back pl sp be ti plI spI beI tiI plJ spJ beJ tiJ ke knP i).2.2.2.1) ((fX8_back pl sp be ti plI spI beI tiI plJ spJ beJ tiJ ke knP i).2.2.2.2.1), wImg g zim zi0 zi1, wMom g zi0 zip ziq plI spI beI tiI, wMom g zi1 zjp zjq plJ spJ beJ tiJ, wKep g zkp ke, wPas g zps zma zmo zmp zmq PLP SPP BEP TIP nxP ((fX8_back pl sp be ti plI spI beI tiI plJ spJ beJ tiJ ke knP i).2.2.2.2.2)]) := mkI .int rfl rfl [(0, .ref zo), (1, .int i)] (by decide) (Nat.le_of_ble_eq_true rfl) rfl (fun X C hR => bX8_back C zo zx zr ztb zna zps zim zkp zf zs zk znp znq zi0 zi1 zip ziq zjp zjq zma zmo zmp zmq pl sp be ti plI spI beI tiI plJ spJ beJ tiJ ke PLP SPP BEP TIP nxP knP i hR)
