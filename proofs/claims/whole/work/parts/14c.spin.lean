def fX8_now (dr : Nat → Int32) (pz : Int32) (sl : Int32) (pl : Nat → Int32) (sp : Nat → Int32) (be : Int32) (ti : Int32) (pl3 : Nat → Int32) (sp3 : Nat → Int32) (be3 : Int32) (ti3 : Int32) (knP : Nat) (w : Int32) : (Int32) × (Nat → Int32) × (Nat → Int32) × (Int32) × (Int32) := (if w = 0 then ((be, pl3, sp3, be3, ti3)) else (if w = 1 then ((ti, pl3, sp3, be3, ti3)) else (if w = 2 then (let r_7 : Int32 := fX2_standing sp; (r_7, pl3, sp3, be3, ti3)) else (if w = 3 then (let r_9 : Int32 := fX2_allSpins sp; (r_9, pl3, sp3, be3, ti3)) else (if w = 4 then (let r_11 : Int32 := (fX0_last pl3 sp3 dr pz sl pl sp be ti).1; let pl_12 : Nat → Int32 := (fX0_last pl3 sp3 dr pz sl pl sp be ti).2.1; let sp_13 : Nat → Int32 := (fX0_last pl3 sp3 dr pz sl pl sp be ti).2.2.1; let be_14 : Int32 := (fX0_last pl3 sp3 dr pz sl pl sp be ti).2.2.2.1; let ti_15 : Int32 := (fX0_last pl3 sp3 dr pz sl pl sp be ti).2.2.2.2; (r_11, pl_12, sp_13, be_14, ti_15)) else (if w = 5 then (((nI knP), pl3, sp3, be3, ti3)) else (((-1), pl3, sp3, be3, ti3))))))))
set_option maxHeartbeats 4000000 in
set_option maxRecDepth 100000 in
theorem bX8_now {l : Launch} {g : Gl} {X : Cx} (C : Ok l g X RX8 cX8_now 2 5) (zo : Nat) (zx : Nat) (zr : Nat) (ztb : Nat) (zna : Nat) (zps : Nat) (zim : Nat) (zkp : Nat) (zf : Nat) (zs : Nat) (zk : Nat) (ztd : Nat) (znp : Nat) (znq : Nat) (za3 : Nat) (zp3 : Nat) (zq3 : Nat) (zma : Nat) (zmo : Nat → Nat) (zmp : Nat → Nat) (zmq : Nat → Nat) (dr : Nat → Int32) (pz : Int32) (sl : Int32) (tp : Nat) (pl : Nat → Int32) (sp : Nat → Int32) (be : Int32) (ti : Int32) (rs : Int32) (rb : Nat) (ou : Int32) (ol : Int32) (pl3 : Nat → Int32) (sp3 : Nat → Int32) (be3 : Int32) (ti3 : Int32) (PLP : Nat → Nat → Int32) (SPP : Nat → Nat → Int32) (BEP : Nat → Int32) (TIP : Nat → Int32) (nxP : Nat) (knP : Nat) (w : Int32) (hR : RetI g X cX8_now 2 0 0 ((fX8_now dr pz sl pl sp be ti pl3 sp3 be3 ti3 knP w).1) (fl [wSpn zo zx zr ztb zna zps zim zkp zf zs zk, wTol g ztb ztd dr pz sl tp, wMom g zna znp znq pl sp be ti, wFut zf za3 rs rb ou ol, wMom g za3 zp3 zq3 ((fX8_now dr pz sl pl sp be ti pl3 sp3 be3 ti3 knP w).2.1) ((fX8_now dr pz sl pl sp be ti pl3 sp3 be3 ti3 knP w).2.2.1) ((fX8_now dr pz sl pl sp be ti pl3 sp3 be3 ti3 knP w).2.2.2.1) ((fX8_now dr pz sl pl sp be ti pl3 sp3 be3 ti3 knP w).2.2.2.2), wPas g zps zma zmo zmp zmq PLP SPP BEP TIP nxP knP])) : Vw g X 2 0 0 (fl [wSpn zo zx zr ztb zna zps zim zkp zf zs zk, wTol g ztb ztd dr pz sl tp, wMom g zna znp znq pl sp be ti, wFut zf za3 rs rb ou ol, wMom g za3 zp3 zq3 pl3 sp3 be3 ti3, wPas g zps zma zmo zmp zmq PLP SPP BEP TIP nxP knP]) 0 [(0, .ref zo), (1, .int w)] [] := by
  refine r_iload_n (pc := 0) C dX8_now_0 1 rfl ?_
  by_cases c_1 : w = 0
  · refine r_tabIn (pc := 1) 0 39 40 C dX8_now_1 c_1 (by decide) (by decide) (by decide) (by decide) ?_
    refine r_aload_n (pc := 40) C dX8_now_40 0 rfl ?_
    refine r_get (pc := 41) C fl_X8_35 dX8_now_41 0 rfl rfl ?_
    refine r_get (pc := 44) C fl_X8_135 dX8_now_44 3 rfl rfl ?_
    have hf : fX8_now dr pz sl pl sp be ti pl3 sp3 be3 ti3 knP w = (be, pl3, sp3, be3, ti3) := by first | (simp only [fX8_now, if_pos c_1]; done) | rfl | (simp [fX8_now, if_pos c_1]; done)
    rw [hf] at hR
    exact hR _ _ dX8_now_47
  by_cases c_2 : w = 1
  · refine r_tabIn (pc := 1) 1 47 48 C dX8_now_1 c_2 (by decide) (by decide) (by decide) (by decide) ?_
    refine r_aload_n (pc := 48) C dX8_now_48 0 rfl ?_
    refine r_get (pc := 49) C fl_X8_35 dX8_now_49 0 rfl rfl ?_
    refine r_get (pc := 52) C fl_X8_138 dX8_now_52 3 rfl rfl ?_
    have hf : fX8_now dr pz sl pl sp be ti pl3 sp3 be3 ti3 knP w = (ti, pl3, sp3, be3, ti3) := by first | (simp only [fX8_now, if_neg c_1, if_pos c_2]; done) | rfl | (simp [fX8_now, if_neg c_1, if_pos c_2]; done)
    rw [hf] at hR
    exact hR _ _ dX8_now_55
  by_cases c_3 : w = 2
  · refine r_tabIn (pc := 1) 2 55 56 C dX8_now_1 c_3 (by decide) (by decide) (by decide) (by decide) ?_
    refine r_aload_n (pc := 56) C dX8_now_56 0 rfl ?_
    refine r_get (pc := 57) C fl_X8_35 dX8_now_57 0 rfl rfl ?_
    obtain ⟨r_7, e_r_7⟩ : ∃ z : Int32, z = fX2_standing sp := ⟨_, rfl⟩
    have K_8 := ctX2_standing l g zna znp znq pl sp be ti  
    rw [← e_r_7] at K_8
    refine w_pI (pc := 60) C mv_X8_141 K_8 dX8_now_60 (by decide) [2] rfl (by decide) 3 rfl rfl (Nat.le_of_ble_eq_true rfl) ⟨Nat.zero_le _, Nat.zero_le _⟩ ?_
    have hf : fX8_now dr pz sl pl sp be ti pl3 sp3 be3 ti3 knP w = (r_7, pl3, sp3, be3, ti3) := by first | (simp only [fX8_now, ← e_r_7, if_neg c_1, if_neg c_2, if_pos c_3]; done) | (subst e_r_7; simp only [fX8_now, if_neg c_1, if_neg c_2, if_pos c_3]; done) | (subst e_r_7; rfl) | (subst e_r_7; simp [fX8_now, if_neg c_1, if_neg c_2, if_pos c_3]; done)
    rw [hf] at hR
    exact hR _ _ dX8_now_63
  by_cases c_4 : w = 3
  · refine r_tabIn (pc := 1) 3 63 64 C dX8_now_1 c_4 (by decide) (by decide) (by decide) (by decide) ?_
    refine r_aload_n (pc := 64) C dX8_now_64 0 rfl ?_
    refine r_get (pc := 65) C fl_X8_35 dX8_now_65 0 rfl rfl ?_
    obtain ⟨r_9, e_r_9⟩ : ∃ z : Int32, z = fX2_allSpins sp := ⟨_, rfl⟩
    have K_10 := ctX2_allSpins l g zna znp znq pl sp be ti  
    rw [← e_r_9] at K_10
    refine w_pI (pc := 68) C mv_X8_144 K_10 dX8_now_68 (by decide) [2] rfl (by decide) 3 rfl rfl (Nat.le_of_ble_eq_true rfl) ⟨Nat.zero_le _, Nat.zero_le _⟩ ?_
    have hf : fX8_now dr pz sl pl sp be ti pl3 sp3 be3 ti3 knP w = (r_9, pl3, sp3, be3, ti3) := by first | (simp only [fX8_now, ← e_r_9, if_neg c_1, if_neg c_2, if_neg c_3, if_pos c_4]; done) | (subst e_r_9; simp only [fX8_now, if_neg c_1, if_neg c_2, if_neg c_3, if_pos c_4]; done) | (subst e_r_9; rfl) | (subst e_r_9; simp [fX8_now, if_neg c_1, if_neg c_2, if_neg c_3, if_pos c_4]; done)
    rw [hf] at hR
    exact hR _ _ dX8_now_71
  by_cases c_5 : w = 4
  · refine r_tabIn (pc := 1) 4 71 72 C dX8_now_1 c_5 (by decide) (by decide) (by decide) (by decide) ?_
    refine r_aload_n (pc := 72) C dX8_now_72 0 rfl ?_
    refine r_get (pc := 73) C fl_X8_57 dX8_now_73 0 rfl rfl ?_
    refine r_aload_n (pc := 76) C dX8_now_76 0 rfl ?_
    refine r_get (pc := 77) C fl_X8_28 dX8_now_77 0 rfl rfl ?_
    refine r_aload_n (pc := 80) C dX8_now_80 0 rfl ?_
    refine r_get (pc := 81) C fl_X8_35 dX8_now_81 0 rfl rfl ?_
    obtain ⟨r_11, e_r_11⟩ : ∃ z : Int32, z = (fX0_last pl3 sp3 dr pz sl pl sp be ti).1 := ⟨_, rfl⟩
    obtain ⟨pl_12, e_pl_12⟩ : ∃ z : Nat → Int32, z = (fX0_last pl3 sp3 dr pz sl pl sp be ti).2.1 := ⟨_, rfl⟩
    obtain ⟨sp_13, e_sp_13⟩ : ∃ z : Nat → Int32, z = (fX0_last pl3 sp3 dr pz sl pl sp be ti).2.2.1 := ⟨_, rfl⟩
    obtain ⟨be_14, e_be_14⟩ : ∃ z : Int32, z = (fX0_last pl3 sp3 dr pz sl pl sp be ti).2.2.2.1 := ⟨_, rfl⟩
    obtain ⟨ti_15, e_ti_15⟩ : ∃ z : Int32, z = (fX0_last pl3 sp3 dr pz sl pl sp be ti).2.2.2.2 := ⟨_, rfl⟩
    have K_16 := ctX0_last l g zf za3 zp3 zq3 ztb ztd zna znp znq rs rb ou ol pl3 sp3 be3 ti3 dr pz sl tp pl sp be ti  
    rw [← e_r_11, ← e_pl_12, ← e_sp_13, ← e_be_14, ← e_ti_15] at K_16
    refine w_cI (pc := 84) [wSpn zo zx zr ztb zna zps zim zkp zf zs zk, wTol g ztb ztd dr pz sl tp, wMom g zna znp znq pl sp be ti, wFut zf za3 rs rb ou ol, wMom g za3 zp3 zq3 pl_12 sp_13 be_14 ti_15, wPas g zps zma zmo zmp zmq PLP SPP BEP TIP nxP knP] C mv_X8_147 K_16 dX8_now_84 (by decide) [3, 4, 1, 2] rfl (by decide) (by simp only [List.map_cons, List.map_nil, adFut, adMom, adTol]) rfl 6 rfl rfl (Nat.le_of_ble_eq_true rfl) ⟨Nat.zero_le _, Nat.zero_le _⟩ ?_
    have hf : fX8_now dr pz sl pl sp be ti pl3 sp3 be3 ti3 knP w = (r_11, pl_12, sp_13, be_14, ti_15) := by first | (simp only [fX8_now, ← e_r_11, ← e_pl_12, ← e_sp_13, ← e_be_14, ← e_ti_15, if_neg c_1, if_neg c_2, if_neg c_3, if_neg c_4, if_pos c_5]; done) | (subst e_r_11 e_pl_12 e_sp_13 e_be_14 e_ti_15; simp only [fX8_now, if_neg c_1, if_neg c_2, if_neg c_3, if_neg c_4, if_pos c_5]; done) | (subst e_r_11 e_pl_12 e_sp_13 e_be_14 e_ti_15; rfl) | (subst e_r_11 e_pl_12 e_sp_13 e_be_14 e_ti_15; simp [fX8_now, if_neg c_1, if_neg c_2, if_neg c_3, if_neg c_4, if_pos c_5]; done)
    rw [hf] at hR
    exact hR _ _ dX8_now_87
  by_cases c_6 : w = 5
  · refine r_tabIn (pc := 1) 5 87 88 C dX8_now_1 c_6 (by decide) (by decide) (by decide) (by decide) ?_
    refine r_aload_n (pc := 88) C dX8_now_88 0 rfl ?_
    refine r_get (pc := 89) C fl_X8_42 dX8_now_89 0 rfl rfl ?_
    refine r_get (pc := 92) C fl_X8_104 dX8_now_92 10 rfl rfl ?_
    have hf : fX8_now dr pz sl pl sp be ti pl3 sp3 be3 ti3 knP w = ((nI knP), pl3, sp3, be3, ti3) := by first | (simp only [fX8_now, if_neg c_1, if_neg c_2, if_neg c_3, if_neg c_4, if_neg c_5, if_pos c_6]; done) | rfl | (simp [fX8_now, if_neg c_1, if_neg c_2, if_neg c_3, if_neg c_4, if_neg c_5, if_pos c_6]; done)
    rw [hf] at hR
    exact hR _ _ dX8_now_95
  refine r_tabOut (pc := 1) 96 C dX8_now_1 (by have t0 := lv_neT (a := 0) c_1 (by decide); have t1 := lv_neT (a := 1) c_2 (by decide); have t2 := lv_neT (a := 2) c_3 (by decide); have t3 := lv_neT (a := 3) c_4 (by decide); have t4 := lv_neT (a := 4) c_5 (by decide); have t5 := lv_neT (a := 5) c_6 (by decide); omega) (by decide) ?_
  refine r_iconst (pc := 96) (-1) C dX8_now_96 rfl ?_
  have hf : fX8_now dr pz sl pl sp be ti pl3 sp3 be3 ti3 knP w = ((-1), pl3, sp3, be3, ti3) := by first | (simp only [fX8_now, if_neg c_1, if_neg c_2, if_neg c_3, if_neg c_4, if_neg c_5, if_neg c_6]; done) | rfl | (simp [fX8_now, if_neg c_1, if_neg c_2, if_neg c_3, if_neg c_4, if_neg c_5, if_neg c_6]; done)
  rw [hf] at hR
  exact hR _ _ dX8_now_97
theorem ctX8_now (l : Launch) (g : Gl) (zo : Nat) (zx : Nat) (zr : Nat) (ztb : Nat) (zna : Nat) (zps : Nat) (zim : Nat) (zkp : Nat) (zf : Nat) (zs : Nat) (zk : Nat) (ztd : Nat) (znp : Nat) (znq : Nat) (za3 : Nat) (zp3 : Nat) (zq3 : Nat) (zma : Nat) (zmo : Nat → Nat) (zmp : Nat → Nat) (zmq : Nat → Nat) (dr : Nat → Int32) (pz : Int32) (sl : Int32) (tp : Nat) (pl : Nat → Int32) (sp : Nat → Int32) (be : Int32) (ti : Int32) (rs : Int32) (rb : Nat) (ou : Int32) (ol : Int32) (pl3 : Nat → Int32) (sp3 : Nat → Int32) (be3 : Int32) (ti3 : Int32) (PLP : Nat → Nat → Int32) (SPP : Nat → Nat → Int32) (BEP : Nat → Int32) (TIP : Nat → Int32) (nxP : Nat) (knP : Nat) (w : Int32) : CtI l g yX8_now cX8_now 2 (some .int) 5 [.ref zo, .int w] (fl [wSpn zo zx zr ztb zna zps zim zkp zf zs zk, wTol g ztb ztd dr pz sl tp, wMom g zna znp znq pl sp be ti, wFut zf za3 rs rb ou ol, wMom g za3 zp3 zq3 pl3 sp3 be3 ti3, wPas g zps zma zmo zmp zmq PLP SPP BEP TIP nxP knP]) ((fX8_now dr pz sl pl sp be ti pl3 sp3 be3 ti3 knP w).1) (fl [wSpn zo zx zr ztb zna zps zim zkp zf zs zk, wTol g ztb ztd dr pz sl tp, wMom g zna znp znq pl sp be ti, wFut zf za3 rs rb ou ol, wMom g za3 zp3 zq3 ((fX8_now dr pz sl pl sp be ti pl3 sp3 be3 ti3 knP w).2.1) ((fX8_now dr pz sl pl sp be ti pl3 sp3 be3 ti3 knP w).2.2.1) ((fX8_now dr pz sl pl sp be ti pl3 sp3 be3 ti3 knP w).2.2.2.1) ((fX8_now dr pz sl pl sp be ti pl3 sp3 be3 ti3 knP w).2.2.2.2), wPas g zps zma zmo zmp zmq PLP SPP BEP TIP nxP knP]) := mkI .int rfl rfl [(0, .ref zo), (1, .int w)] (by decide) (Nat.le_of_ble_eq_true rfl) rfl (fun X C hR => bX8_now C zo zx zr ztb zna zps zim zkp zf zs zk ztd znp znq za3 zp3 zq3 zma zmo zmp zmq dr pz sl tp pl sp be ti rs rb ou ol pl3 sp3 be3 ti3 PLP SPP BEP TIP nxP knP w hR)

def fX8_beats (dr : Nat → Int32) (pz : Int32) (sl : Int32) (pl : Nat → Int32) (sp : Nat → Int32) (be : Int32) (ti : Int32) (PLP : Nat → Nat → Int32) (SPP : Nat → Nat → Int32) (BEP : Nat → Int32) (TIP : Nat → Int32) (nxP : Nat) (knP : Nat) : (Int32) × (Nat → Int32) × (Nat → Int32) × (Int32) × (Nat → Nat → Int32) × (Nat → Nat → Int32) × (Nat → Int32) × (Nat → Int32) × (Nat) × (Nat) := (if be < 999 then (let PL_2 : Nat → Nat → Int32 := (fX3_remember PLP SPP BEP TIP nxP knP pl sp be ti).1; let SP_3 : Nat → Nat → Int32 := (fX3_remember PLP SPP BEP TIP nxP knP pl sp be ti).2.1; let BE_4 : Nat → Int32 := (fX3_remember PLP SPP BEP TIP nxP knP pl sp be ti).2.2.1; let TI_5 : Nat → Int32 := (fX3_remember PLP SPP BEP TIP nxP knP pl sp be ti).2.2.2.1; let nx_6 : Nat := (fX3_remember PLP SPP BEP TIP nxP knP pl sp be ti).2.2.2.2.1; let kn_7 : Nat := (fX3_remember PLP SPP BEP TIP nxP knP pl sp be ti).2.2.2.2.2; let r_9 : Int32 := (fX2_goBy pl sp be ti dr pz sl 1).1; let pl_10 : Nat → Int32 := (fX2_goBy pl sp be ti dr pz sl 1).2.1; let sp_11 : Nat → Int32 := (fX2_goBy pl sp be ti dr pz sl 1).2.2.1; let be_12 : Int32 := (fX2_goBy pl sp be ti dr pz sl 1).2.2.2; (r_9, pl_10, sp_11, be_12, PL_2, SP_3, BE_4, TI_5, nx_6, kn_7)) else (((-2), pl, sp, be, PLP, SPP, BEP, TIP, nxP, knP)))
set_option maxHeartbeats 4000000 in
set_option maxRecDepth 100000 in
theorem bX8_beats {l : Launch} {g : Gl} {X : Cx} (C : Ok l g X RX8 cX8_beats 1 4) (zo : Nat) (zx : Nat) (zr : Nat) (ztb : Nat) (zna : Nat) (zps : Nat) (zim : Nat) (zkp : Nat) (zf : Nat) (zs : Nat) (zk : Nat) (ztd : Nat) (znp : Nat) (znq : Nat) (zma : Nat) (zmo : Nat → Nat) (zmp : Nat → Nat) (zmq : Nat → Nat) (dr : Nat → Int32) (pz : Int32) (sl : Int32) (tp : Nat) (pl : Nat → Int32) (sp : Nat → Int32) (be : Int32) (ti : Int32) (PLP : Nat → Nat → Int32) (SPP : Nat → Nat → Int32) (BEP : Nat → Int32) (TIP : Nat → Int32) (nxP : Nat) (knP : Nat) (q0 : nxP < 10) (q1 : knP ≤ 10) (hR : RetI g X cX8_beats 1 0 0 ((fX8_beats dr pz sl pl sp be ti PLP SPP BEP TIP nxP knP).1) (fl [wSpn zo zx zr ztb zna zps zim zkp zf zs zk, wTol g ztb ztd dr pz sl tp, wMom g zna znp znq ((fX8_beats dr pz sl pl sp be ti PLP SPP BEP TIP nxP knP).2.1) ((fX8_beats dr pz sl pl sp be ti PLP SPP BEP TIP nxP knP).2.2.1) ((fX8_beats dr pz sl pl sp be ti PLP SPP BEP TIP nxP knP).2.2.2.1) ti, wPas g zps zma zmo zmp zmq ((fX8_beats dr pz sl pl sp be ti PLP SPP BEP TIP nxP knP).2.2.2.2.1) ((fX8_beats dr pz sl pl sp be ti PLP SPP BEP TIP nxP knP).2.2.2.2.2.1) ((fX8_beats dr pz sl pl sp be ti PLP SPP BEP TIP nxP knP).2.2.2.2.2.2.1) ((fX8_beats dr pz sl pl sp be ti PLP SPP BEP TIP nxP knP).2.2.2.2.2.2.2.1) ((fX8_beats dr pz sl pl sp be ti PLP SPP BEP TIP nxP knP).2.2.2.2.2.2.2.2.1) ((fX8_beats dr pz sl pl sp be ti PLP SPP BEP TIP nxP knP).2.2.2.2.2.2.2.2.2)])) : Vw g X 1 0 0 (fl [wSpn zo zx zr ztb zna zps zim zkp zf zs zk, wTol g ztb ztd dr pz sl tp, wMom g zna znp znq pl sp be ti, wPas g zps zma zmo zmp zmq PLP SPP BEP TIP nxP knP]) 0 [(0, .ref zo)] [] := by
  refine r_aload_n (pc := 0) C dX8_beats_0 0 rfl ?_
  refine r_get (pc := 1) C fl_X8_35 dX8_beats_1 0 rfl rfl ?_
  refine r_get (pc := 4) C fl_X8_135 dX8_beats_4 3 rfl rfl ?_
  refine r_sipush (pc := 7) 999 C dX8_beats_7 rfl ?_
  refine r_icmplt (pc := 10) 16 C dX8_beats_10 (by decide) (fun c_1 => ?_) (fun c_1 => ?_)
  · refine r_aload_n (pc := 16) C dX8_beats_16 0 rfl ?_
    refine r_get (pc := 17) C fl_X8_42 dX8_beats_17 0 rfl rfl ?_
    refine r_aload_n (pc := 20) C dX8_beats_20 0 rfl ?_
    refine r_get (pc := 21) C fl_X8_35 dX8_beats_21 0 rfl rfl ?_
    obtain ⟨PL_2, e_PL_2⟩ : ∃ z : Nat → Nat → Int32, z = (fX3_remember PLP SPP BEP TIP nxP knP pl sp be ti).1 := ⟨_, rfl⟩
    obtain ⟨SP_3, e_SP_3⟩ : ∃ z : Nat → Nat → Int32, z = (fX3_remember PLP SPP BEP TIP nxP knP pl sp be ti).2.1 := ⟨_, rfl⟩
    obtain ⟨BE_4, e_BE_4⟩ : ∃ z : Nat → Int32, z = (fX3_remember PLP SPP BEP TIP nxP knP pl sp be ti).2.2.1 := ⟨_, rfl⟩
    obtain ⟨TI_5, e_TI_5⟩ : ∃ z : Nat → Int32, z = (fX3_remember PLP SPP BEP TIP nxP knP pl sp be ti).2.2.2.1 := ⟨_, rfl⟩
    obtain ⟨nx_6, e_nx_6⟩ : ∃ z : Nat, z = (fX3_remember PLP SPP BEP TIP nxP knP pl sp be ti).2.2.2.2.1 := ⟨_, rfl⟩
    obtain ⟨kn_7, e_kn_7⟩ : ∃ z : Nat, z = (fX3_remember PLP SPP BEP TIP nxP knP pl sp be ti).2.2.2.2.2 := ⟨_, rfl⟩
    have K_8 := ctX3_remember l g zps zma zmo zmp zmq zna znp znq PLP SPP BEP TIP nxP knP pl sp be ti  (by omega) (by omega)
    rw [← e_PL_2, ← e_SP_3, ← e_BE_4, ← e_TI_5, ← e_nx_6, ← e_kn_7] at K_8
    refine w_cV (pc := 24) [wSpn zo zx zr ztb zna zps zim zkp zf zs zk, wTol g ztb ztd dr pz sl tp, wMom g zna znp znq pl sp be ti, wPas g zps zma zmo zmp zmq PL_2 SP_3 BE_4 TI_5 nx_6 kn_7] C mv_X8_151 K_8 dX8_beats_24 (by decide) [3, 2] rfl (by decide) (by simp only [List.map_cons, List.map_nil, adMom, adPas]) rfl 6 rfl rfl (Nat.le_of_ble_eq_true rfl) ⟨Nat.zero_le _, Nat.zero_le _⟩ ?_
    refine r_aload_n (pc := 27) C dX8_beats_27 0 rfl ?_
    refine r_get (pc := 28) C fl_X8_35 dX8_beats_28 0 rfl rfl ?_
    refine r_aload_n (pc := 31) C dX8_beats_31 0 rfl ?_
    refine r_get (pc := 32) C fl_X8_28 dX8_beats_32 0 rfl rfl ?_
    refine r_iconst (pc := 35) 1 C dX8_beats_35 rfl ?_
    obtain ⟨r_9, e_r_9⟩ : ∃ z : Int32, z = (fX2_goBy pl sp be ti dr pz sl 1).1 := ⟨_, rfl⟩
    obtain ⟨pl_10, e_pl_10⟩ : ∃ z : Nat → Int32, z = (fX2_goBy pl sp be ti dr pz sl 1).2.1 := ⟨_, rfl⟩
    obtain ⟨sp_11, e_sp_11⟩ : ∃ z : Nat → Int32, z = (fX2_goBy pl sp be ti dr pz sl 1).2.2.1 := ⟨_, rfl⟩
    obtain ⟨be_12, e_be_12⟩ : ∃ z : Int32, z = (fX2_goBy pl sp be ti dr pz sl 1).2.2.2 := ⟨_, rfl⟩
    have K_13 := ctX2_goBy l g zna znp znq ztb ztd pl sp be ti dr pz sl tp 1 (by omega)
    rw [← e_r_9, ← e_pl_10, ← e_sp_11, ← e_be_12] at K_13
    refine w_cI (pc := 36) [wSpn zo zx zr ztb zna zps zim zkp zf zs zk, wTol g ztb ztd dr pz sl tp, wMom g zna znp znq pl_10 sp_11 be_12 ti, wPas g zps zma zmo zmp zmq PL_2 SP_3 BE_4 TI_5 nx_6 kn_7] C mv_X8_154 K_13 dX8_beats_36 (by decide) [2, 1] rfl (by decide) (by simp only [List.map_cons, List.map_nil, adMom, adTol]) rfl 3 rfl rfl (Nat.le_of_ble_eq_true rfl) ⟨Nat.zero_le _, Nat.zero_le _⟩ ?_
    have hf : fX8_beats dr pz sl pl sp be ti PLP SPP BEP TIP nxP knP = (r_9, pl_10, sp_11, be_12, PL_2, SP_3, BE_4, TI_5, nx_6, kn_7) := by first | (simp only [fX8_beats, ← e_PL_2, ← e_SP_3, ← e_BE_4, ← e_TI_5, ← e_nx_6, ← e_kn_7, ← e_r_9, ← e_pl_10, ← e_sp_11, ← e_be_12, if_pos c_1]; done) | (subst e_PL_2 e_SP_3 e_BE_4 e_TI_5 e_nx_6 e_kn_7 e_r_9 e_pl_10 e_sp_11 e_be_12; simp only [fX8_beats, if_pos c_1]; done) | (subst e_PL_2 e_SP_3 e_BE_4 e_TI_5 e_nx_6 e_kn_7 e_r_9 e_pl_10 e_sp_11 e_be_12; rfl) | (subst e_PL_2 e_SP_3 e_BE_4 e_TI_5 e_nx_6 e_kn_7 e_r_9 e_pl_10 e_sp_11 e_be_12; simp [fX8_beats, if_pos c_1]; done)
    rw [hf] at hR
    exact hR _ _ dX8_beats_39
  · refine r_bipush (pc := 13) (-2) C dX8_beats_13 rfl ?_
    have hf : fX8_beats dr pz sl pl sp be ti PLP SPP BEP TIP nxP knP = ((-2), pl, sp, be, PLP, SPP, BEP, TIP, nxP, knP) := by first | (simp only [fX8_beats, if_neg c_1]; done) | rfl | (simp [fX8_beats, if_neg c_1]; done)
    rw [hf] at hR
    exact hR _ _ dX8_beats_15
theorem ctX8_beats (l : Launch) (g : Gl) (zo : Nat) (zx : Nat) (zr : Nat) (ztb : Nat) (zna : Nat) (zps : Nat) (zim : Nat) (zkp : Nat) (zf : Nat) (zs : Nat) (zk : Nat) (ztd : Nat) (znp : Nat) (znq : Nat) (zma : Nat) (zmo : Nat → Nat) (zmp : Nat → Nat) (zmq : Nat → Nat) (dr : Nat → Int32) (pz : Int32) (sl : Int32) (tp : Nat) (pl : Nat → Int32) (sp : Nat → Int32) (be : Int32) (ti : Int32) (PLP : Nat → Nat → Int32) (SPP : Nat → Nat → Int32) (BEP : Nat → Int32) (TIP : Nat → Int32) (nxP : Nat) (knP : Nat) (q0 : nxP < 10) (q1 : knP ≤ 10) : CtI l g yX8_beats cX8_beats 1 (some .int) 4 [.ref zo] (fl [wSpn zo zx zr ztb zna zps zim zkp zf zs zk, wTol g ztb ztd dr pz sl tp, wMom g zna znp znq pl sp be ti, wPas g zps zma zmo zmp zmq PLP SPP BEP TIP nxP knP]) ((fX8_beats dr pz sl pl sp be ti PLP SPP BEP TIP nxP knP).1) (fl [wSpn zo zx zr ztb zna zps zim zkp zf zs zk, wTol g ztb ztd dr pz sl tp, wMom g zna znp znq ((fX8_beats dr pz sl pl sp be ti PLP SPP BEP TIP nxP knP).2.1) ((fX8_beats dr pz sl pl sp be ti PLP SPP BEP TIP nxP knP).2.2.1) ((fX8_beats dr pz sl pl sp be ti PLP SPP BEP TIP nxP knP).2.2.2.1) ti, wPas g zps zma zmo zmp zmq ((fX8_beats dr pz sl pl sp be ti PLP SPP BEP TIP nxP knP).2.2.2.2.1) ((fX8_beats dr pz sl pl sp be ti PLP SPP BEP TIP nxP knP).2.2.2.2.2.1) ((fX8_beats dr pz sl pl sp be ti PLP SPP BEP TIP nxP knP).2.2.2.2.2.2.1) ((fX8_beats dr pz sl pl sp be ti PLP SPP BEP TIP nxP knP).2.2.2.2.2.2.2.1) ((fX8_beats dr pz sl pl sp be ti PLP SPP BEP TIP nxP knP).2.2.2.2.2.2.2.2.1) ((fX8_beats dr pz sl pl sp be ti PLP SPP BEP TIP nxP knP).2.2.2.2.2.2.2.2.2)]) := mkI .int rfl rfl [(0, .ref zo)] (by decide) (Nat.le_of_ble_eq_true rfl) rfl (fun X C hR => bX8_beats C zo zx zr ztb zna zps zim zkp zf zs zk ztd znp znq zma zmo zmp zmq dr pz sl tp pl sp be ti PLP SPP BEP TIP nxP knP q0 q1 hR)

def fX8_whips (tp : Nat) (pl : Nat → Int32) (sp : Nat → Int32) (be : Int32) (ti : Int32) (PLP : Nat → Nat → Int32) (SPP : Nat → Nat → Int32) (BEP : Nat → Int32) (TIP : Nat → Int32) (nxP : Nat) (knP : Nat) (t : Int32) (v : Int32) : (Int32) × (Nat → Int32) × (Nat → Nat → Int32) × (Nat → Nat → Int32) × (Nat → Int32) × (Nat → Int32) × (Nat) × (Nat) := (let r_1 : Int32 := fX8_isTop tp t; if r_1 = 0 then (((-1), sp, PLP, SPP, BEP, TIP, nxP, knP)) else (let r_4 : Int32 := fX8_isWhip v; if r_4 = 0 then (((-1), sp, PLP, SPP, BEP, TIP, nxP, knP)) else (let r_8 : Int32 := fX2_stands sp t.toNatClampNeg; if r_8 = 0 then (((-2), sp, PLP, SPP, BEP, TIP, nxP, knP)) else (let PL_11 : Nat → Nat → Int32 := (fX3_remember PLP SPP BEP TIP nxP knP pl sp be ti).1; let SP_12 : Nat → Nat → Int32 := (fX3_remember PLP SPP BEP TIP nxP knP pl sp be ti).2.1; let BE_13 : Nat → Int32 := (fX3_remember PLP SPP BEP TIP nxP knP pl sp be ti).2.2.1; let TI_14 : Nat → Int32 := (fX3_remember PLP SPP BEP TIP nxP knP pl sp be ti).2.2.2.1; let nx_15 : Nat := (fX3_remember PLP SPP BEP TIP nxP knP pl sp be ti).2.2.2.2.1; let kn_16 : Nat := (fX3_remember PLP SPP BEP TIP nxP knP pl sp be ti).2.2.2.2.2; let sp_18 : Nat → Int32 := fX2_whipped sp t.toNatClampNeg v; ((sp_18 t.toNatClampNeg), sp_18, PL_11, SP_12, BE_13, TI_14, nx_15, kn_16)))))
set_option maxHeartbeats 4000000 in
set_option maxRecDepth 100000 in
theorem bX8_whips {l : Launch} {g : Gl} {X : Cx} (C : Ok l g X RX8 cX8_whips 3 3) (zo : Nat) (zx : Nat) (zr : Nat) (ztb : Nat) (zna : Nat) (zps : Nat) (zim : Nat) (zkp : Nat) (zf : Nat) (zs : Nat) (zk : Nat) (ztd : Nat) (znp : Nat) (znq : Nat) (zma : Nat) (zmo : Nat → Nat) (zmp : Nat → Nat) (zmq : Nat → Nat) (dr : Nat → Int32) (pz : Int32) (sl : Int32) (tp : Nat) (pl : Nat → Int32) (sp : Nat → Int32) (be : Int32) (ti : Int32) (PLP : Nat → Nat → Int32) (SPP : Nat → Nat → Int32) (BEP : Nat → Int32) (TIP : Nat → Int32) (nxP : Nat) (knP : Nat) (t : Int32) (v : Int32) (q0 : tp ≤ 6) (q1 : nxP < 10) (q2 : knP ≤ 10) (hR : RetI g X cX8_whips 3 0 0 ((fX8_whips tp pl sp be ti PLP SPP BEP TIP nxP knP t v).1) (fl [wSpn zo zx zr ztb zna zps zim zkp zf zs zk, wTol g ztb ztd dr pz sl tp, wMom g zna znp znq pl ((fX8_whips tp pl sp be ti PLP SPP BEP TIP nxP knP t v).2.1) be ti, wPas g zps zma zmo zmp zmq ((fX8_whips tp pl sp be ti PLP SPP BEP TIP nxP knP t v).2.2.1) ((fX8_whips tp pl sp be ti PLP SPP BEP TIP nxP knP t v).2.2.2.1) ((fX8_whips tp pl sp be ti PLP SPP BEP TIP nxP knP t v).2.2.2.2.1) ((fX8_whips tp pl sp be ti PLP SPP BEP TIP nxP knP t v).2.2.2.2.2.1) ((fX8_whips tp pl sp be ti PLP SPP BEP TIP nxP knP t v).2.2.2.2.2.2.1) ((fX8_whips tp pl sp be ti PLP SPP BEP TIP nxP knP t v).2.2.2.2.2.2.2)])) : Vw g X 3 0 0 (fl [wSpn zo zx zr ztb zna zps zim zkp zf zs zk, wTol g ztb ztd dr pz sl tp, wMom g zna znp znq pl sp be ti, wPas g zps zma zmo zmp zmq PLP SPP BEP TIP nxP knP]) 0 [(0, .ref zo), (1, .int t), (2, .int v)] [] := by
  refine r_aload_n (pc := 0) C dX8_whips_0 0 rfl ?_
  refine r_iload_n (pc := 1) C dX8_whips_1 1 rfl ?_
  obtain ⟨r_1, e_r_1⟩ : ∃ z : Int32, z = fX8_isTop tp t := ⟨_, rfl⟩
  have K_2 := ctX8_isTop l g zo zx zr ztb zna zps zim zkp zf zs zk ztd dr pz sl tp t 
  rw [← e_r_1] at K_2
  refine w_pI (pc := 2) C mv_X8_108 K_2 dX8_whips_2 (by decide) [0, 1] rfl (by decide) 0 rfl rfl (Nat.le_of_ble_eq_true rfl) ⟨Nat.zero_le _, Nat.zero_le _⟩ ?_
  refine r_ifeq (pc := 5) 15 C dX8_whips_5 (by decide) (fun c_3 => ?_) (fun c_3 => ?_)
  · refine r_iconst (pc := 15) (-1) C dX8_whips_15 rfl ?_
    have hf : fX8_whips tp pl sp be ti PLP SPP BEP TIP nxP knP t v = ((-1), sp, PLP, SPP, BEP, TIP, nxP, knP) := by first | (simp only [fX8_whips, ← e_r_1, if_pos c_3]; done) | (subst e_r_1; simp only [fX8_whips, if_pos c_3]; done) | (subst e_r_1; rfl) | (subst e_r_1; simp [fX8_whips, if_pos c_3]; done)
    rw [hf] at hR
    exact hR _ _ dX8_whips_16
  · refine r_iload_n (pc := 8) C dX8_whips_8 2 rfl ?_
    obtain ⟨r_4, e_r_4⟩ : ∃ z : Int32, z = fX8_isWhip v := ⟨_, rfl⟩
    have K_5 := ctX8_isWhip l g   v 
    rw [← e_r_4] at K_5
    refine x_pI (pc := 9) C ms_X8_158 K_5 dX8_whips_9 (by decide) [] rfl (by decide) rfl (Nat.le_of_ble_eq_true rfl) ⟨Nat.zero_le _, Nat.zero_le _⟩ ?_
    refine r_ifne (pc := 12) 17 C dX8_whips_12 (by decide) (fun c_6 => ?_) (fun c_6 => ?_)
    · obtain ⟨h_7, qh_7⟩ := natc (x := t) (B := tp) (by omega) (isTop_nat (by rw [← e_r_1]; assumption))
      refine u_lvq [(0, .ref zo), (1, .int (nI t.toNatClampNeg)), (2, .int v)] (by rw [qh_7]) ?_
      refine r_aload_n (pc := 17) C dX8_whips_17 0 rfl ?_
      refine r_get (pc := 18) C fl_X8_35 dX8_whips_18 0 rfl rfl ?_
      refine r_iload_n (pc := 21) C dX8_whips_21 1 rfl ?_
      obtain ⟨r_8, e_r_8⟩ : ∃ z : Int32, z = fX2_stands sp t.toNatClampNeg := ⟨_, rfl⟩
      have K_9 := ctX2_stands l g zna znp znq pl sp be ti t.toNatClampNeg (by omega)
      rw [← e_r_8] at K_9
      refine w_pI (pc := 22) C mv_X8_121 K_9 dX8_whips_22 (by decide) [2] rfl (by decide) 3 rfl rfl (Nat.le_of_ble_eq_true rfl) ⟨Nat.zero_le _, Nat.zero_le _⟩ ?_
      refine r_ifne (pc := 25) 31 C dX8_whips_25 (by decide) (fun c_10 => ?_) (fun c_10 => ?_)
      · refine r_aload_n (pc := 31) C dX8_whips_31 0 rfl ?_
        refine r_get (pc := 32) C fl_X8_42 dX8_whips_32 0 rfl rfl ?_
        refine r_aload_n (pc := 35) C dX8_whips_35 0 rfl ?_
        refine r_get (pc := 36) C fl_X8_35 dX8_whips_36 0 rfl rfl ?_
        obtain ⟨PL_11, e_PL_11⟩ : ∃ z : Nat → Nat → Int32, z = (fX3_remember PLP SPP BEP TIP nxP knP pl sp be ti).1 := ⟨_, rfl⟩
        obtain ⟨SP_12, e_SP_12⟩ : ∃ z : Nat → Nat → Int32, z = (fX3_remember PLP SPP BEP TIP nxP knP pl sp be ti).2.1 := ⟨_, rfl⟩
        obtain ⟨BE_13, e_BE_13⟩ : ∃ z : Nat → Int32, z = (fX3_remember PLP SPP BEP TIP nxP knP pl sp be ti).2.2.1 := ⟨_, rfl⟩
        obtain ⟨TI_14, e_TI_14⟩ : ∃ z : Nat → Int32, z = (fX3_remember PLP SPP BEP TIP nxP knP pl sp be ti).2.2.2.1 := ⟨_, rfl⟩
        obtain ⟨nx_15, e_nx_15⟩ : ∃ z : Nat, z = (fX3_remember PLP SPP BEP TIP nxP knP pl sp be ti).2.2.2.2.1 := ⟨_, rfl⟩
        obtain ⟨kn_16, e_kn_16⟩ : ∃ z : Nat, z = (fX3_remember PLP SPP BEP TIP nxP knP pl sp be ti).2.2.2.2.2 := ⟨_, rfl⟩
        have K_17 := ctX3_remember l g zps zma zmo zmp zmq zna znp znq PLP SPP BEP TIP nxP knP pl sp be ti  (by omega) (by omega)
        rw [← e_PL_11, ← e_SP_12, ← e_BE_13, ← e_TI_14, ← e_nx_15, ← e_kn_16] at K_17
        refine w_cV (pc := 39) [wSpn zo zx zr ztb zna zps zim zkp zf zs zk, wTol g ztb ztd dr pz sl tp, wMom g zna znp znq pl sp be ti, wPas g zps zma zmo zmp zmq PL_11 SP_12 BE_13 TI_14 nx_15 kn_16] C mv_X8_151 K_17 dX8_whips_39 (by decide) [3, 2] rfl (by decide) (by simp only [List.map_cons, List.map_nil, adMom, adPas]) rfl 6 rfl rfl (Nat.le_of_ble_eq_true rfl) ⟨Nat.zero_le _, Nat.zero_le _⟩ ?_
        refine r_aload_n (pc := 42) C dX8_whips_42 0 rfl ?_
        refine r_get (pc := 43) C fl_X8_35 dX8_whips_43 0 rfl rfl ?_
        refine r_iload_n (pc := 46) C dX8_whips_46 1 rfl ?_
        refine r_iload_n (pc := 47) C dX8_whips_47 2 rfl ?_
        obtain ⟨sp_18, e_sp_18⟩ : ∃ z : Nat → Int32, z = fX2_whipped sp t.toNatClampNeg v := ⟨_, rfl⟩
        have K_19 := ctX2_whipped l g zna znp znq pl sp be ti t.toNatClampNeg v (by omega)
        rw [← e_sp_18] at K_19
        refine w_cV (pc := 48) [wSpn zo zx zr ztb zna zps zim zkp zf zs zk, wTol g ztb ztd dr pz sl tp, wMom g zna znp znq pl sp_18 be ti, wPas g zps zma zmo zmp zmq PL_11 SP_12 BE_13 TI_14 nx_15 kn_16] C mv_X8_161 K_19 dX8_whips_48 (by decide) [2] rfl (by decide) (by simp only [List.map_cons, List.map_nil, adMom]) rfl 3 rfl rfl (Nat.le_of_ble_eq_true rfl) ⟨Nat.zero_le _, Nat.zero_le _⟩ ?_
        refine r_aload_n (pc := 51) C dX8_whips_51 0 rfl ?_
        refine r_get (pc := 52) C fl_X8_35 dX8_whips_52 0 rfl rfl ?_
        refine r_get (pc := 55) C fl_X8_115 dX8_whips_55 3 rfl rfl ?_
        refine r_iload_n (pc := 58) C dX8_whips_58 1 rfl ?_
        refine r_iald (pc := 59) t.toNatClampNeg C dX8_whips_59 5 rfl rfl (by omega) (by decide) ?_
        have hf : fX8_whips tp pl sp be ti PLP SPP BEP TIP nxP knP t v = ((sp_18 t.toNatClampNeg), sp_18, PL_11, SP_12, BE_13, TI_14, nx_15, kn_16) := by first | (simp only [fX8_whips, ← e_r_1, ← e_r_4, ← e_r_8, ← e_PL_11, ← e_SP_12, ← e_BE_13, ← e_TI_14, ← e_nx_15, ← e_kn_16, ← e_sp_18, if_neg c_3, if_neg c_6, if_neg c_10]; done) | (subst e_r_1 e_r_4 e_r_8 e_PL_11 e_SP_12 e_BE_13 e_TI_14 e_nx_15 e_kn_16 e_sp_18; simp only [fX8_whips, if_neg c_3, if_neg c_6, if_neg c_10]; done) | (subst e_r_1 e_r_4 e_r_8 e_PL_11 e_SP_12 e_BE_13 e_TI_14 e_nx_15 e_kn_16 e_sp_18; rfl) | (subst e_r_1 e_r_4 e_r_8 e_PL_11 e_SP_12 e_BE_13 e_TI_14 e_nx_15 e_kn_16 e_sp_18; simp [fX8_whips, if_neg c_3, if_neg c_6, if_neg c_10]; done)
        rw [hf] at hR
        exact hR _ _ dX8_whips_60
      · refine r_bipush (pc := 28) (-2) C dX8_whips_28 rfl ?_
        have hf : fX8_whips tp pl sp be ti PLP SPP BEP TIP nxP knP t v = ((-2), sp, PLP, SPP, BEP, TIP, nxP, knP) := by first | (simp only [fX8_whips, ← e_r_1, ← e_r_4, ← e_r_8, if_neg c_3, if_neg c_6, if_pos c_10]; done) | (subst e_r_1 e_r_4 e_r_8; simp only [fX8_whips, if_neg c_3, if_neg c_6, if_pos c_10]; done) | (subst e_r_1 e_r_4 e_r_8; rfl) | (subst e_r_1 e_r_4 e_r_8; simp [fX8_whips, if_neg c_3, if_neg c_6, if_pos c_10]; done)
        rw [hf] at hR
        exact hR _ _ dX8_whips_30
    · refine r_iconst (pc := 15) (-1) C dX8_whips_15 rfl ?_
      have hf : fX8_whips tp pl sp be ti PLP SPP BEP TIP nxP knP t v = ((-1), sp, PLP, SPP, BEP, TIP, nxP, knP) := by first | (simp only [fX8_whips, ← e_r_1, ← e_r_4, if_neg c_3, if_pos c_6]; done) | (subst e_r_1 e_r_4; simp only [fX8_whips, if_neg c_3, if_pos c_6]; done) | (subst e_r_1 e_r_4; rfl) | (subst e_r_1 e_r_4; simp [fX8_whips, if_neg c_3, if_pos c_6]; done)
      rw [hf] at hR
      exact hR _ _ dX8_whips_16
theorem ctX8_whips (l : Launch) (g : Gl) (zo : Nat) (zx : Nat) (zr : Nat) (ztb : Nat) (zna : Nat) (zps : Nat) (zim : Nat) (zkp : Nat) (zf : Nat) (zs : Nat) (zk : Nat) (ztd : Nat) (znp : Nat) (znq : Nat) (zma : Nat) (zmo : Nat → Nat) (zmp : Nat → Nat) (zmq : Nat → Nat) (dr : Nat → Int32) (pz : Int32) (sl : Int32) (tp : Nat) (pl : Nat → Int32) (sp : Nat → Int32) (be : Int32) (ti : Int32) (PLP : Nat → Nat → Int32) (SPP : Nat → Nat → Int32) (BEP : Nat → Int32) (TIP : Nat → Int32) (nxP : Nat) (knP : Nat) (t : Int32) (v : Int32) (q0 : tp ≤ 6) (q1 : nxP < 10) (q2 : knP ≤ 10) : CtI l g yX8_whips cX8_whips 3 (some .int) 3 [.ref zo, .int t, .int v] (fl [wSpn zo zx zr ztb zna zps zim zkp zf zs zk, wTol g ztb ztd dr pz sl tp, wMom g zna znp znq pl sp be ti, wPas g zps zma zmo zmp zmq PLP SPP BEP TIP nxP knP]) ((fX8_whips tp pl sp be ti PLP SPP BEP TIP nxP knP t v).1) (fl [wSpn zo zx zr ztb zna zps zim zkp zf zs zk, wTol g ztb ztd dr pz sl tp, wMom g zna znp znq pl ((fX8_whips tp pl sp be ti PLP SPP BEP TIP nxP knP t v).2.1) be ti, wPas g zps zma zmo zmp zmq ((fX8_whips tp pl sp be ti PLP SPP BEP TIP nxP knP t v).2.2.1) ((fX8_whips tp pl sp be ti PLP SPP BEP TIP nxP knP t v).2.2.2.1) ((fX8_whips tp pl sp be ti PLP SPP BEP TIP nxP knP t v).2.2.2.2.1) ((fX8_whips tp pl sp be ti PLP SPP BEP TIP nxP knP t v).2.2.2.2.2.1) ((fX8_whips tp pl sp be ti PLP SPP BEP TIP nxP knP t v).2.2.2.2.2.2.1) ((fX8_whips tp pl sp be ti PLP SPP BEP TIP nxP knP t v).2.2.2.2.2.2.2)]) := mkI .int rfl rfl [(0, .ref zo), (1, .int t), (2, .int v)] (by decide) (Nat.le_of_ble_eq_true rfl) rfl (fun X C hR => bX8_whips C zo zx zr ztb zna zps zim zkp zf zs zk ztd znp znq zma zmo zmp zmq dr pz sl tp pl sp be ti PLP SPP BEP TIP nxP knP t v q0 q1 q2 hR)

def fX8_tilts (pl : Nat → Int32) (sp : Nat → Int32) (be : Int32) (ti : Int32) (PLP : Nat → Nat → Int32) (SPP : Nat → Nat → Int32) (BEP : Nat → Int32) (TIP : Nat → Int32) (nxP : Nat) (knP : Nat) (w : Int32) : (Int32) × (Int32) × (Nat → Nat → Int32) × (Nat → Nat → Int32) × (Nat → Int32) × (Nat → Int32) × (Nat) × (Nat) := (let r_1 : Int32 := fX8_within w 0 2; if r_1 = 0 then (((-1), ti, PLP, SPP, BEP, TIP, nxP, knP)) else (if ti = w then (((-2), ti, PLP, SPP, BEP, TIP, nxP, knP)) else (let PL_5 : Nat → Nat → Int32 := (fX3_remember PLP SPP BEP TIP nxP knP pl sp be ti).1; let SP_6 : Nat → Nat → Int32 := (fX3_remember PLP SPP BEP TIP nxP knP pl sp be ti).2.1; let BE_7 : Nat → Int32 := (fX3_remember PLP SPP BEP TIP nxP knP pl sp be ti).2.2.1; let TI_8 : Nat → Int32 := (fX3_remember PLP SPP BEP TIP nxP knP pl sp be ti).2.2.2.1; let nx_9 : Nat := (fX3_remember PLP SPP BEP TIP nxP knP pl sp be ti).2.2.2.2.1; let kn_10 : Nat := (fX3_remember PLP SPP BEP TIP nxP knP pl sp be ti).2.2.2.2.2; (ti, w, PL_5, SP_6, BE_7, TI_8, nx_9, kn_10))))
set_option maxHeartbeats 4000000 in
set_option maxRecDepth 100000 in
theorem bX8_tilts {l : Launch} {g : Gl} {X : Cx} (C : Ok l g X RX8 cX8_tilts 3 3) (zo : Nat) (zx : Nat) (zr : Nat) (ztb : Nat) (zna : Nat) (zps : Nat) (zim : Nat) (zkp : Nat) (zf : Nat) (zs : Nat) (zk : Nat) (znp : Nat) (znq : Nat) (zma : Nat) (zmo : Nat → Nat) (zmp : Nat → Nat) (zmq : Nat → Nat) (pl : Nat → Int32) (sp : Nat → Int32) (be : Int32) (ti : Int32) (PLP : Nat → Nat → Int32) (SPP : Nat → Nat → Int32) (BEP : Nat → Int32) (TIP : Nat → Int32) (nxP : Nat) (knP : Nat) (w : Int32) (q0 : nxP < 10) (q1 : knP ≤ 10) (hR : RetI g X cX8_tilts 3 0 0 ((fX8_tilts pl sp be ti PLP SPP BEP TIP nxP knP w).1) (fl [wSpn zo zx zr ztb zna zps zim zkp zf zs zk, wMom g zna znp znq pl sp be ((fX8_tilts pl sp be ti PLP SPP BEP TIP nxP knP w).2.1), wPas g zps zma zmo zmp zmq ((fX8_tilts pl sp be ti PLP SPP BEP TIP nxP knP w).2.2.1) ((fX8_tilts pl sp be ti PLP SPP BEP TIP nxP knP w).2.2.2.1) ((fX8_tilts pl sp be ti PLP SPP BEP TIP nxP knP w).2.2.2.2.1) ((fX8_tilts pl sp be ti PLP SPP BEP TIP nxP knP w).2.2.2.2.2.1) ((fX8_tilts pl sp be ti PLP SPP BEP TIP nxP knP w).2.2.2.2.2.2.1) ((fX8_tilts pl sp be ti PLP SPP BEP TIP nxP knP w).2.2.2.2.2.2.2)])) : Vw g X 3 0 0 (fl [wSpn zo zx zr ztb zna zps zim zkp zf zs zk, wMom g zna znp znq pl sp be ti, wPas g zps zma zmo zmp zmq PLP SPP BEP TIP nxP knP]) 0 [(0, .ref zo), (1, .int w)] [] := by
  refine r_iload_n (pc := 0) C dX8_tilts_0 1 rfl ?_
  refine r_iconst (pc := 1) 0 C dX8_tilts_1 rfl ?_
  refine r_iconst (pc := 2) 2 C dX8_tilts_2 rfl ?_
  obtain ⟨r_1, e_r_1⟩ : ∃ z : Int32, z = fX8_within w 0 2 := ⟨_, rfl⟩
  have K_2 := ctX8_within l g   w 0 2 
  rw [← e_r_1] at K_2
  refine x_pI (pc := 3) C ms_X8_75 K_2 dX8_tilts_3 (by decide) [] rfl (by decide) rfl (Nat.le_of_ble_eq_true rfl) ⟨Nat.zero_le _, Nat.zero_le _⟩ ?_
  refine r_ifne (pc := 6) 11 C dX8_tilts_6 (by decide) (fun c_3 => ?_) (fun c_3 => ?_)
  · refine r_aload_n (pc := 11) C dX8_tilts_11 0 rfl ?_
    refine r_get (pc := 12) C fl_X8_35 dX8_tilts_12 0 rfl rfl ?_
    refine r_get (pc := 15) C fl_X8_138 dX8_tilts_15 1 rfl rfl ?_
    refine r_istore_n (pc := 18) [(2, .int ti), (0, .ref zo), (1, .int w)] C dX8_tilts_18 (by decide) rfl ?_
    refine r_iload_n (pc := 19) C dX8_tilts_19 0 rfl ?_
    refine r_iload_n (pc := 20) C dX8_tilts_20 2 rfl ?_
    refine r_icmpne (pc := 21) 27 C dX8_tilts_21 (by decide) (fun c_4 => ?_) (fun c_4 => ?_)
    · refine r_aload_n (pc := 27) C dX8_tilts_27 1 rfl ?_
      refine r_get (pc := 28) C fl_X8_42 dX8_tilts_28 0 rfl rfl ?_
      refine r_aload_n (pc := 31) C dX8_tilts_31 1 rfl ?_
      refine r_get (pc := 32) C fl_X8_35 dX8_tilts_32 0 rfl rfl ?_
      obtain ⟨PL_5, e_PL_5⟩ : ∃ z : Nat → Nat → Int32, z = (fX3_remember PLP SPP BEP TIP nxP knP pl sp be ti).1 := ⟨_, rfl⟩
      obtain ⟨SP_6, e_SP_6⟩ : ∃ z : Nat → Nat → Int32, z = (fX3_remember PLP SPP BEP TIP nxP knP pl sp be ti).2.1 := ⟨_, rfl⟩
      obtain ⟨BE_7, e_BE_7⟩ : ∃ z : Nat → Int32, z = (fX3_remember PLP SPP BEP TIP nxP knP pl sp be ti).2.2.1 := ⟨_, rfl⟩
      obtain ⟨TI_8, e_TI_8⟩ : ∃ z : Nat → Int32, z = (fX3_remember PLP SPP BEP TIP nxP knP pl sp be ti).2.2.2.1 := ⟨_, rfl⟩
      obtain ⟨nx_9, e_nx_9⟩ : ∃ z : Nat, z = (fX3_remember PLP SPP BEP TIP nxP knP pl sp be ti).2.2.2.2.1 := ⟨_, rfl⟩
      obtain ⟨kn_10, e_kn_10⟩ : ∃ z : Nat, z = (fX3_remember PLP SPP BEP TIP nxP knP pl sp be ti).2.2.2.2.2 := ⟨_, rfl⟩
      have K_11 := ctX3_remember l g zps zma zmo zmp zmq zna znp znq PLP SPP BEP TIP nxP knP pl sp be ti  (by omega) (by omega)
      rw [← e_PL_5, ← e_SP_6, ← e_BE_7, ← e_TI_8, ← e_nx_9, ← e_kn_10] at K_11
      refine w_cV (pc := 35) [wSpn zo zx zr ztb zna zps zim zkp zf zs zk, wMom g zna znp znq pl sp be ti, wPas g zps zma zmo zmp zmq PL_5 SP_6 BE_7 TI_8 nx_9 kn_10] C mv_X8_151 K_11 dX8_tilts_35 (by decide) [2, 1] rfl (by decide) (by simp only [List.map_cons, List.map_nil, adMom, adPas]) rfl 4 rfl rfl (Nat.le_of_ble_eq_true rfl) ⟨Nat.zero_le _, Nat.zero_le _⟩ ?_
      refine r_aload_n (pc := 38) C dX8_tilts_38 1 rfl ?_
      refine r_get (pc := 39) C fl_X8_35 dX8_tilts_39 0 rfl rfl ?_
      refine r_iload_n (pc := 42) C dX8_tilts_42 2 rfl ?_
      refine r_put (pc := 43) (fl [wSpn zo zx zr ztb zna zps zim zkp zf zs zk, wMom g zna znp znq pl sp be w, wPas g zps zma zmo zmp zmq PL_5 SP_6 BE_7 TI_8 nx_9 kn_10]) C fp_X8_138 dX8_tilts_43 1 rfl (Nat.le_of_ble_eq_true rfl) rfl rfl rfl ?_
      refine r_iload_n (pc := 46) C dX8_tilts_46 0 rfl ?_
      have hf : fX8_tilts pl sp be ti PLP SPP BEP TIP nxP knP w = (ti, w, PL_5, SP_6, BE_7, TI_8, nx_9, kn_10) := by first | (simp only [fX8_tilts, ← e_r_1, ← e_PL_5, ← e_SP_6, ← e_BE_7, ← e_TI_8, ← e_nx_9, ← e_kn_10, if_neg c_3, if_neg c_4]; done) | (subst e_r_1 e_PL_5 e_SP_6 e_BE_7 e_TI_8 e_nx_9 e_kn_10; simp only [fX8_tilts, if_neg c_3, if_neg c_4]; done) | (subst e_r_1 e_PL_5 e_SP_6 e_BE_7 e_TI_8 e_nx_9 e_kn_10; rfl) | (subst e_r_1 e_PL_5 e_SP_6 e_BE_7 e_TI_8 e_nx_9 e_kn_10; simp [fX8_tilts, if_neg c_3, if_neg c_4]; done)
      rw [hf] at hR
      exact hR _ _ dX8_tilts_47
    · refine r_bipush (pc := 24) (-2) C dX8_tilts_24 rfl ?_
      have hf : fX8_tilts pl sp be ti PLP SPP BEP TIP nxP knP w = ((-2), ti, PLP, SPP, BEP, TIP, nxP, knP) := by first | (simp only [fX8_tilts, ← e_r_1, if_neg c_3, if_pos c_4]; done) | (subst e_r_1; simp only [fX8_tilts, if_neg c_3, if_pos c_4]; done) | (subst e_r_1; rfl) | (subst e_r_1; simp [fX8_tilts, if_neg c_3, if_pos c_4]; done)
      rw [hf] at hR
      exact hR _ _ dX8_tilts_26
  · refine r_iconst (pc := 9) (-1) C dX8_tilts_9 rfl ?_
    have hf : fX8_tilts pl sp be ti PLP SPP BEP TIP nxP knP w = ((-1), ti, PLP, SPP, BEP, TIP, nxP, knP) := by first | (simp only [fX8_tilts, ← e_r_1, if_pos c_3]; done) | (subst e_r_1; simp only [fX8_tilts, if_pos c_3]; done) | (subst e_r_1; rfl) | (subst e_r_1; simp [fX8_tilts, if_pos c_3]; done)
    rw [hf] at hR
    exact hR _ _ dX8_tilts_10
theorem ctX8_tilts (l : Launch) (g : Gl) (zo : Nat) (zx : Nat) (zr : Nat) (ztb : Nat) (zna : Nat) (zps : Nat) (zim : Nat) (zkp : Nat) (zf : Nat) (zs : Nat) (zk : Nat) (znp : Nat) (znq : Nat) (zma : Nat) (zmo : Nat → Nat) (zmp : Nat → Nat) (zmq : Nat → Nat) (pl : Nat → Int32) (sp : Nat → Int32) (be : Int32) (ti : Int32) (PLP : Nat → Nat → Int32) (SPP : Nat → Nat → Int32) (BEP : Nat → Int32) (TIP : Nat → Int32) (nxP : Nat) (knP : Nat) (w : Int32) (q0 : nxP < 10) (q1 : knP ≤ 10) : CtI l g yX8_tilts cX8_tilts 3 (some .int) 3 [.ref zo, .int w] (fl [wSpn zo zx zr ztb zna zps zim zkp zf zs zk, wMom g zna znp znq pl sp be ti, wPas g zps zma zmo zmp zmq PLP SPP BEP TIP nxP knP]) ((fX8_tilts pl sp be ti PLP SPP BEP TIP nxP knP w).1) (fl [wSpn zo zx zr ztb zna zps zim zkp zf zs zk, wMom g zna znp znq pl sp be ((fX8_tilts pl sp be ti PLP SPP BEP TIP nxP knP w).2.1), wPas g zps zma zmo zmp zmq ((fX8_tilts pl sp be ti PLP SPP BEP TIP nxP knP w).2.2.1) ((fX8_tilts pl sp be ti PLP SPP BEP TIP nxP knP w).2.2.2.1) ((fX8_tilts pl sp be ti PLP SPP BEP TIP nxP knP w).2.2.2.2.1) ((fX8_tilts pl sp be ti PLP SPP BEP TIP nxP knP w).2.2.2.2.2.1) ((fX8_tilts pl sp be ti PLP SPP BEP TIP nxP knP w).2.2.2.2.2.2.1) ((fX8_tilts pl sp be ti PLP SPP BEP TIP nxP knP w).2.2.2.2.2.2.2)]) := mkI .int rfl rfl [(0, .ref zo), (1, .int w)] (by decide) (Nat.le_of_ble_eq_true rfl) rfl (fun X C hR => bX8_tilts C zo zx zr ztb zna zps zim zkp zf zs zk znp znq zma zmo zmp zmq pl sp be ti PLP SPP BEP TIP nxP knP w q0 q1 hR)

def fX8_sets (pz : Int32) (tp : Nat) (pl : Nat → Int32) (sp : Nat → Int32) (be : Int32) (ti : Int32) (PLP : Nat → Nat → Int32) (SPP : Nat → Nat → Int32) (BEP : Nat → Int32) (TIP : Nat → Int32) (nxP : Nat) (knP : Nat) (t : Int32) (w : Int32) : (Int32) × (Nat → Int32) × (Nat → Nat → Int32) × (Nat → Nat → Int32) × (Nat → Int32) × (Nat → Int32) × (Nat) × (Nat) := (let r_1 : Int32 := fX8_isTop tp t; if r_1 = 0 then (((-1), pl, PLP, SPP, BEP, TIP, nxP, knP)) else (let r_4 : Int32 := fX8_isPlace pz w; if r_4 = 0 then (((-1), pl, PLP, SPP, BEP, TIP, nxP, knP)) else (let r_8 : Int32 := fX2_stands sp t.toNatClampNeg; if r_8 = 0 then (((-2), pl, PLP, SPP, BEP, TIP, nxP, knP)) else (let r_11 : Int32 := fX2_who pl sp w; if r_11 = (-9) then (let PL_14 : Nat → Nat → Int32 := (fX3_remember PLP SPP BEP TIP nxP knP pl sp be ti).1; let SP_15 : Nat → Nat → Int32 := (fX3_remember PLP SPP BEP TIP nxP knP pl sp be ti).2.1; let BE_16 : Nat → Int32 := (fX3_remember PLP SPP BEP TIP nxP knP pl sp be ti).2.2.1; let TI_17 : Nat → Int32 := (fX3_remember PLP SPP BEP TIP nxP knP pl sp be ti).2.2.2.1; let nx_18 : Nat := (fX3_remember PLP SPP BEP TIP nxP knP pl sp be ti).2.2.2.2.1; let kn_19 : Nat := (fX3_remember PLP SPP BEP TIP nxP knP pl sp be ti).2.2.2.2.2; let pl_21 : Nat → Int32 := upd pl t.toNatClampNeg w; ((pl t.toNatClampNeg), pl_21, PL_14, SP_15, BE_16, TI_17, nx_18, kn_19)) else (((-2), pl, PLP, SPP, BEP, TIP, nxP, knP))))))
set_option maxHeartbeats 4000000 in
set_option maxRecDepth 100000 in
theorem bX8_sets {l : Launch} {g : Gl} {X : Cx} (C : Ok l g X RX8 cX8_sets 4 3) (zo : Nat) (zx : Nat) (zr : Nat) (ztb : Nat) (zna : Nat) (zps : Nat) (zim : Nat) (zkp : Nat) (zf : Nat) (zs : Nat) (zk : Nat) (ztd : Nat) (znp : Nat) (znq : Nat) (zma : Nat) (zmo : Nat → Nat) (zmp : Nat → Nat) (zmq : Nat → Nat) (dr : Nat → Int32) (pz : Int32) (sl : Int32) (tp : Nat) (pl : Nat → Int32) (sp : Nat → Int32) (be : Int32) (ti : Int32) (PLP : Nat → Nat → Int32) (SPP : Nat → Nat → Int32) (BEP : Nat → Int32) (TIP : Nat → Int32) (nxP : Nat) (knP : Nat) (t : Int32) (w : Int32) (q0 : tp ≤ 6) (q1 : nxP < 10) (q2 : knP ≤ 10) (hR : RetI g X cX8_sets 4 0 0 ((fX8_sets pz tp pl sp be ti PLP SPP BEP TIP nxP knP t w).1) (fl [wSpn zo zx zr ztb zna zps zim zkp zf zs zk, wTol g ztb ztd dr pz sl tp, wMom g zna znp znq ((fX8_sets pz tp pl sp be ti PLP SPP BEP TIP nxP knP t w).2.1) sp be ti, wPas g zps zma zmo zmp zmq ((fX8_sets pz tp pl sp be ti PLP SPP BEP TIP nxP knP t w).2.2.1) ((fX8_sets pz tp pl sp be ti PLP SPP BEP TIP nxP knP t w).2.2.2.1) ((fX8_sets pz tp pl sp be ti PLP SPP BEP TIP nxP knP t w).2.2.2.2.1) ((fX8_sets pz tp pl sp be ti PLP SPP BEP TIP nxP knP t w).2.2.2.2.2.1) ((fX8_sets pz tp pl sp be ti PLP SPP BEP TIP nxP knP t w).2.2.2.2.2.2.1) ((fX8_sets pz tp pl sp be ti PLP SPP BEP TIP nxP knP t w).2.2.2.2.2.2.2)])) : Vw g X 4 0 0 (fl [wSpn zo zx zr ztb zna zps zim zkp zf zs zk, wTol g ztb ztd dr pz sl tp, wMom g zna znp znq pl sp be ti, wPas g zps zma zmo zmp zmq PLP SPP BEP TIP nxP knP]) 0 [(0, .ref zo), (1, .int t), (2, .int w)] [] := by
  refine r_aload_n (pc := 0) C dX8_sets_0 0 rfl ?_
  refine r_iload_n (pc := 1) C dX8_sets_1 1 rfl ?_
  obtain ⟨r_1, e_r_1⟩ : ∃ z : Int32, z = fX8_isTop tp t := ⟨_, rfl⟩
  have K_2 := ctX8_isTop l g zo zx zr ztb zna zps zim zkp zf zs zk ztd dr pz sl tp t 
  rw [← e_r_1] at K_2
  refine w_pI (pc := 2) C mv_X8_108 K_2 dX8_sets_2 (by decide) [0, 1] rfl (by decide) 0 rfl rfl (Nat.le_of_ble_eq_true rfl) ⟨Nat.zero_le _, Nat.zero_le _⟩ ?_
  refine r_ifeq (pc := 5) 16 C dX8_sets_5 (by decide) (fun c_3 => ?_) (fun c_3 => ?_)
  · refine r_iconst (pc := 16) (-1) C dX8_sets_16 rfl ?_
    have hf : fX8_sets pz tp pl sp be ti PLP SPP BEP TIP nxP knP t w = ((-1), pl, PLP, SPP, BEP, TIP, nxP, knP) := by first | (simp only [fX8_sets, ← e_r_1, if_pos c_3]; done) | (subst e_r_1; simp only [fX8_sets, if_pos c_3]; done) | (subst e_r_1; rfl) | (subst e_r_1; simp [fX8_sets, if_pos c_3]; done)
    rw [hf] at hR
    exact hR _ _ dX8_sets_17
  · refine r_aload_n (pc := 8) C dX8_sets_8 0 rfl ?_
    refine r_iload_n (pc := 9) C dX8_sets_9 2 rfl ?_
    obtain ⟨r_4, e_r_4⟩ : ∃ z : Int32, z = fX8_isPlace pz w := ⟨_, rfl⟩
    have K_5 := ctX8_isPlace l g zo zx zr ztb zna zps zim zkp zf zs zk ztd dr pz sl tp w 
    rw [← e_r_4] at K_5
    refine w_pI (pc := 10) C mv_X8_128 K_5 dX8_sets_10 (by decide) [0, 1] rfl (by decide) 0 rfl rfl (Nat.le_of_ble_eq_true rfl) ⟨Nat.zero_le _, Nat.zero_le _⟩ ?_
    refine r_ifne (pc := 13) 18 C dX8_sets_13 (by decide) (fun c_6 => ?_) (fun c_6 => ?_)
    · obtain ⟨h_7, qh_7⟩ := natc (x := t) (B := tp) (by omega) (isTop_nat (by rw [← e_r_1]; assumption))
      refine u_lvq [(0, .ref zo), (1, .int (nI t.toNatClampNeg)), (2, .int w)] (by rw [qh_7]) ?_
      refine r_aload_n (pc := 18) C dX8_sets_18 0 rfl ?_
      refine r_get (pc := 19) C fl_X8_35 dX8_sets_19 0 rfl rfl ?_
      refine r_iload_n (pc := 22) C dX8_sets_22 1 rfl ?_
      obtain ⟨r_8, e_r_8⟩ : ∃ z : Int32, z = fX2_stands sp t.toNatClampNeg := ⟨_, rfl⟩
      have K_9 := ctX2_stands l g zna znp znq pl sp be ti t.toNatClampNeg (by omega)
      rw [← e_r_8] at K_9
      refine w_pI (pc := 23) C mv_X8_121 K_9 dX8_sets_23 (by decide) [2] rfl (by decide) 3 rfl rfl (Nat.le_of_ble_eq_true rfl) ⟨Nat.zero_le _, Nat.zero_le _⟩ ?_
      refine r_ifeq (pc := 26) 42 C dX8_sets_26 (by decide) (fun c_10 => ?_) (fun c_10 => ?_)
      · refine r_bipush (pc := 42) (-2) C dX8_sets_42 rfl ?_
        have hf : fX8_sets pz tp pl sp be ti PLP SPP BEP TIP nxP knP t w = ((-2), pl, PLP, SPP, BEP, TIP, nxP, knP) := by first | (simp only [fX8_sets, ← e_r_1, ← e_r_4, ← e_r_8, if_neg c_3, if_neg c_6, if_pos c_10]; done) | (subst e_r_1 e_r_4 e_r_8; simp only [fX8_sets, if_neg c_3, if_neg c_6, if_pos c_10]; done) | (subst e_r_1 e_r_4 e_r_8; rfl) | (subst e_r_1 e_r_4 e_r_8; simp [fX8_sets, if_neg c_3, if_neg c_6, if_pos c_10]; done)
        rw [hf] at hR
        exact hR _ _ dX8_sets_44
      · refine r_aload_n (pc := 29) C dX8_sets_29 0 rfl ?_
        refine r_get (pc := 30) C fl_X8_35 dX8_sets_30 0 rfl rfl ?_
        refine r_iload_n (pc := 33) C dX8_sets_33 2 rfl ?_
        obtain ⟨r_11, e_r_11⟩ : ∃ z : Int32, z = fX2_who pl sp w := ⟨_, rfl⟩
        have K_12 := ctX2_who l g zna znp znq pl sp be ti w 
        rw [← e_r_11] at K_12
        refine w_pI (pc := 34) C mv_X8_131 K_12 dX8_sets_34 (by decide) [2] rfl (by decide) 3 rfl rfl (Nat.le_of_ble_eq_true rfl) ⟨Nat.zero_le _, Nat.zero_le _⟩ ?_
        refine r_bipush (pc := 37) (-9) C dX8_sets_37 rfl ?_
        refine r_icmpeq (pc := 39) 45 C dX8_sets_39 (by decide) (fun c_13 => ?_) (fun c_13 => ?_)
        · refine r_aload_n (pc := 45) C dX8_sets_45 0 rfl ?_
          refine r_get (pc := 46) C fl_X8_42 dX8_sets_46 0 rfl rfl ?_
          refine r_aload_n (pc := 49) C dX8_sets_49 0 rfl ?_
          refine r_get (pc := 50) C fl_X8_35 dX8_sets_50 0 rfl rfl ?_
          obtain ⟨PL_14, e_PL_14⟩ : ∃ z : Nat → Nat → Int32, z = (fX3_remember PLP SPP BEP TIP nxP knP pl sp be ti).1 := ⟨_, rfl⟩
          obtain ⟨SP_15, e_SP_15⟩ : ∃ z : Nat → Nat → Int32, z = (fX3_remember PLP SPP BEP TIP nxP knP pl sp be ti).2.1 := ⟨_, rfl⟩
          obtain ⟨BE_16, e_BE_16⟩ : ∃ z : Nat → Int32, z = (fX3_remember PLP SPP BEP TIP nxP knP pl sp be ti).2.2.1 := ⟨_, rfl⟩
          obtain ⟨TI_17, e_TI_17⟩ : ∃ z : Nat → Int32, z = (fX3_remember PLP SPP BEP TIP nxP knP pl sp be ti).2.2.2.1 := ⟨_, rfl⟩
          obtain ⟨nx_18, e_nx_18⟩ : ∃ z : Nat, z = (fX3_remember PLP SPP BEP TIP nxP knP pl sp be ti).2.2.2.2.1 := ⟨_, rfl⟩
          obtain ⟨kn_19, e_kn_19⟩ : ∃ z : Nat, z = (fX3_remember PLP SPP BEP TIP nxP knP pl sp be ti).2.2.2.2.2 := ⟨_, rfl⟩
          have K_20 := ctX3_remember l g zps zma zmo zmp zmq zna znp znq PLP SPP BEP TIP nxP knP pl sp be ti  (by omega) (by omega)
          rw [← e_PL_14, ← e_SP_15, ← e_BE_16, ← e_TI_17, ← e_nx_18, ← e_kn_19] at K_20
          refine w_cV (pc := 53) [wSpn zo zx zr ztb zna zps zim zkp zf zs zk, wTol g ztb ztd dr pz sl tp, wMom g zna znp znq pl sp be ti, wPas g zps zma zmo zmp zmq PL_14 SP_15 BE_16 TI_17 nx_18 kn_19] C mv_X8_151 K_20 dX8_sets_53 (by decide) [3, 2] rfl (by decide) (by simp only [List.map_cons, List.map_nil, adMom, adPas]) rfl 6 rfl rfl (Nat.le_of_ble_eq_true rfl) ⟨Nat.zero_le _, Nat.zero_le _⟩ ?_
          refine r_aload_n (pc := 56) C dX8_sets_56 0 rfl ?_
          refine r_get (pc := 57) C fl_X8_35 dX8_sets_57 0 rfl rfl ?_
          refine r_get (pc := 60) C fl_X8_111 dX8_sets_60 3 rfl rfl ?_
          refine r_iload_n (pc := 63) C dX8_sets_63 1 rfl ?_
          refine r_iald (pc := 64) t.toNatClampNeg C dX8_sets_64 4 rfl rfl (by omega) (by decide) ?_
          refine r_istore_n (pc := 65) [(3, .int (pl t.toNatClampNeg)), (0, .ref zo), (1, .int (nI t.toNatClampNeg)), (2, .int w)] C dX8_sets_65 (by decide) rfl ?_
          refine r_aload_n (pc := 66) C dX8_sets_66 1 rfl ?_
          refine r_get (pc := 67) C fl_X8_35 dX8_sets_67 0 rfl rfl ?_
          refine r_get (pc := 70) C fl_X8_111 dX8_sets_70 3 rfl rfl ?_
          refine r_iload_n (pc := 73) C dX8_sets_73 2 rfl ?_
          refine r_iload_n (pc := 74) C dX8_sets_74 3 rfl ?_
          obtain ⟨pl_21, e_pl_21⟩ : ∃ z : Nat → Int32, z = upd pl t.toNatClampNeg w := ⟨_, rfl⟩
          refine r_iast (pc := 75) t.toNatClampNeg (fl [wSpn zo zx zr ztb zna zps zim zkp zf zs zk, wTol g ztb ztd dr pz sl tp, wMom g zna znp znq pl_21 sp be ti, wPas g zps zma zmo zmp zmq PL_14 SP_15 BE_16 TI_17 nx_18 kn_19]) C dX8_sets_75 4 rfl rfl (by omega) (by decide) (by rw [← e_pl_21]; rfl) ?_
          refine r_iload_n (pc := 76) C dX8_sets_76 0 rfl ?_
          have hf : fX8_sets pz tp pl sp be ti PLP SPP BEP TIP nxP knP t w = ((pl t.toNatClampNeg), pl_21, PL_14, SP_15, BE_16, TI_17, nx_18, kn_19) := by first | (simp only [fX8_sets, ← e_r_1, ← e_r_4, ← e_r_8, ← e_r_11, ← e_PL_14, ← e_SP_15, ← e_BE_16, ← e_TI_17, ← e_nx_18, ← e_kn_19, ← e_pl_21, if_neg c_3, if_neg c_6, if_neg c_10, if_pos c_13]; done) | (subst e_r_1 e_r_4 e_r_8 e_r_11 e_PL_14 e_SP_15 e_BE_16 e_TI_17 e_nx_18 e_kn_19 e_pl_21; simp only [fX8_sets, if_neg c_3, if_neg c_6, if_neg c_10, if_pos c_13]; done) | (subst e_r_1 e_r_4 e_r_8 e_r_11 e_PL_14 e_SP_15 e_BE_16 e_TI_17 e_nx_18 e_kn_19 e_pl_21; rfl) | (subst e_r_1 e_r_4 e_r_8 e_r_11 e_PL_14 e_SP_15 e_BE_16 e_TI_17 e_nx_18 e_kn_19 e_pl_21; simp [fX8_sets, if_neg c_3, if_neg c_6, if_neg c_10, if_pos c_13]; done)
          rw [hf] at hR
          exact hR _ _ dX8_sets_77
        · refine r_bipush (pc := 42) (-2) C dX8_sets_42 rfl ?_
          have hf : fX8_sets pz tp pl sp be ti PLP SPP BEP TIP nxP knP t w = ((-2), pl, PLP, SPP, BEP, TIP, nxP, knP) := by first | (simp only [fX8_sets, ← e_r_1, ← e_r_4, ← e_r_8, ← e_r_11, if_neg c_3, if_neg c_6, if_neg c_10, if_neg c_13]; done) | (subst e_r_1 e_r_4 e_r_8 e_r_11; simp only [fX8_sets, if_neg c_3, if_neg c_6, if_neg c_10, if_neg c_13]; done) | (subst e_r_1 e_r_4 e_r_8 e_r_11; rfl) | (subst e_r_1 e_r_4 e_r_8 e_r_11; simp [fX8_sets, if_neg c_3, if_neg c_6, if_neg c_10, if_neg c_13]; done)
          rw [hf] at hR
          exact hR _ _ dX8_sets_44
    · refine r_iconst (pc := 16) (-1) C dX8_sets_16 rfl ?_
      have hf : fX8_sets pz tp pl sp be ti PLP SPP BEP TIP nxP knP t w = ((-1), pl, PLP, SPP, BEP, TIP, nxP, knP) := by first | (simp only [fX8_sets, ← e_r_1, ← e_r_4, if_neg c_3, if_pos c_6]; done) | (subst e_r_1 e_r_4; simp only [fX8_sets, if_neg c_3, if_pos c_6]; done) | (subst e_r_1 e_r_4; rfl) | (subst e_r_1 e_r_4; simp [fX8_sets, if_neg c_3, if_pos c_6]; done)
      rw [hf] at hR
      exact hR _ _ dX8_sets_17
theorem ctX8_sets (l : Launch) (g : Gl) (zo : Nat) (zx : Nat) (zr : Nat) (ztb : Nat) (zna : Nat) (zps : Nat) (zim : Nat) (zkp : Nat) (zf : Nat) (zs : Nat) (zk : Nat) (ztd : Nat) (znp : Nat) (znq : Nat) (zma : Nat) (zmo : Nat → Nat) (zmp : Nat → Nat) (zmq : Nat → Nat) (dr : Nat → Int32) (pz : Int32) (sl : Int32) (tp : Nat) (pl : Nat → Int32) (sp : Nat → Int32) (be : Int32) (ti : Int32) (PLP : Nat → Nat → Int32) (SPP : Nat → Nat → Int32) (BEP : Nat → Int32) (TIP : Nat → Int32) (nxP : Nat) (knP : Nat) (t : Int32) (w : Int32) (q0 : tp ≤ 6) (q1 : nxP < 10) (q2 : knP ≤ 10) : CtI l g yX8_sets cX8_sets 4 (some .int) 3 [.ref zo, .int t, .int w] (fl [wSpn zo zx zr ztb zna zps zim zkp zf zs zk, wTol g ztb ztd dr pz sl tp, wMom g zna znp znq pl sp be ti, wPas g zps zma zmo zmp zmq PLP SPP BEP TIP nxP knP]) ((fX8_sets pz tp pl sp be ti PLP SPP BEP TIP nxP knP t w).1) (fl [wSpn zo zx zr ztb zna zps zim zkp zf zs zk, wTol g ztb ztd dr pz sl tp, wMom g zna znp znq ((fX8_sets pz tp pl sp be ti PLP SPP BEP TIP nxP knP t w).2.1) sp be ti, wPas g zps zma zmo zmp zmq ((fX8_sets pz tp pl sp be ti PLP SPP BEP TIP nxP knP t w).2.2.1) ((fX8_sets pz tp pl sp be ti PLP SPP BEP TIP nxP knP t w).2.2.2.1) ((fX8_sets pz tp pl sp be ti PLP SPP BEP TIP nxP knP t w).2.2.2.2.1) ((fX8_sets pz tp pl sp be ti PLP SPP BEP TIP nxP knP t w).2.2.2.2.2.1) ((fX8_sets pz tp pl sp be ti PLP SPP BEP TIP nxP knP t w).2.2.2.2.2.2.1) ((fX8_sets pz tp pl sp be ti PLP SPP BEP TIP nxP knP t w).2.2.2.2.2.2.2)]) := mkI .int rfl rfl [(0, .ref zo), (1, .int t), (2, .int w)] (by decide) (Nat.le_of_ble_eq_true rfl) rfl (fun X C hR => bX8_sets C zo zx zr ztb zna zps zim zkp zf zs zk ztd znp znq zma zmo zmp zmq dr pz sl tp pl sp be ti PLP SPP BEP TIP nxP knP t w q0 q1 q2 hR)

def fX8_undo (pl : Nat → Int32) (sp : Nat → Int32) (be : Int32) (ti : Int32) (PLP : Nat → Nat → Int32) (SPP : Nat → Nat → Int32) (BEP : Nat → Int32) (TIP : Nat → Int32) (nxP : Nat) (knP : Nat) : (Int32) × (Nat → Int32) × (Nat → Int32) × (Int32) × (Int32) × (Nat) × (Nat) := (let r_1 : Int32 := (fX3_recall PLP SPP BEP TIP nxP knP pl sp be ti).1; let nx_2 : Nat := (fX3_recall PLP SPP BEP TIP nxP knP pl sp be ti).2.1; let kn_3 : Nat := (fX3_recall PLP SPP BEP TIP nxP knP pl sp be ti).2.2.1; let pl_4 : Nat → Int32 := (fX3_recall PLP SPP BEP TIP nxP knP pl sp be ti).2.2.2.1; let sp_5 : Nat → Int32 := (fX3_recall PLP SPP BEP TIP nxP knP pl sp be ti).2.2.2.2.1; let be_6 : Int32 := (fX3_recall PLP SPP BEP TIP nxP knP pl sp be ti).2.2.2.2.2.1; let ti_7 : Int32 := (fX3_recall PLP SPP BEP TIP nxP knP pl sp be ti).2.2.2.2.2.2; if r_1 = 0 then (((-2), pl_4, sp_5, be_6, ti_7, nx_2, kn_3)) else (((nI kn_3), pl_4, sp_5, be_6, ti_7, nx_2, kn_3)))
set_option maxHeartbeats 4000000 in
set_option maxRecDepth 100000 in
theorem bX8_undo {l : Launch} {g : Gl} {X : Cx} (C : Ok l g X RX8 cX8_undo 1 3) (zo : Nat) (zx : Nat) (zr : Nat) (ztb : Nat) (zna : Nat) (zps : Nat) (zim : Nat) (zkp : Nat) (zf : Nat) (zs : Nat) (zk : Nat) (znp : Nat) (znq : Nat) (zma : Nat) (zmo : Nat → Nat) (zmp : Nat → Nat) (zmq : Nat → Nat) (pl : Nat → Int32) (sp : Nat → Int32) (be : Int32) (ti : Int32) (PLP : Nat → Nat → Int32) (SPP : Nat → Nat → Int32) (BEP : Nat → Int32) (TIP : Nat → Int32) (nxP : Nat) (knP : Nat) (q0 : nxP < 10) (q1 : knP ≤ 10) (hR : RetI g X cX8_undo 1 0 0 ((fX8_undo pl sp be ti PLP SPP BEP TIP nxP knP).1) (fl [wSpn zo zx zr ztb zna zps zim zkp zf zs zk, wMom g zna znp znq ((fX8_undo pl sp be ti PLP SPP BEP TIP nxP knP).2.1) ((fX8_undo pl sp be ti PLP SPP BEP TIP nxP knP).2.2.1) ((fX8_undo pl sp be ti PLP SPP BEP TIP nxP knP).2.2.2.1) ((fX8_undo pl sp be ti PLP SPP BEP TIP nxP knP).2.2.2.2.1), wPas g zps zma zmo zmp zmq PLP SPP BEP TIP ((fX8_undo pl sp be ti PLP SPP BEP TIP nxP knP).2.2.2.2.2.1) ((fX8_undo pl sp be ti PLP SPP BEP TIP nxP knP).2.2.2.2.2.2)])) : Vw g X 1 0 0 (fl [wSpn zo zx zr ztb zna zps zim zkp zf zs zk, wMom g zna znp znq pl sp be ti, wPas g zps zma zmo zmp zmq PLP SPP BEP TIP nxP knP]) 0 [(0, .ref zo)] [] := by
  refine r_aload_n (pc := 0) C dX8_undo_0 0 rfl ?_
  refine r_get (pc := 1) C fl_X8_42 dX8_undo_1 0 rfl rfl ?_
  refine r_aload_n (pc := 4) C dX8_undo_4 0 rfl ?_
  refine r_get (pc := 5) C fl_X8_35 dX8_undo_5 0 rfl rfl ?_
  obtain ⟨r_1, e_r_1⟩ : ∃ z : Int32, z = (fX3_recall PLP SPP BEP TIP nxP knP pl sp be ti).1 := ⟨_, rfl⟩
  obtain ⟨nx_2, e_nx_2⟩ : ∃ z : Nat, z = (fX3_recall PLP SPP BEP TIP nxP knP pl sp be ti).2.1 := ⟨_, rfl⟩
  obtain ⟨kn_3, e_kn_3⟩ : ∃ z : Nat, z = (fX3_recall PLP SPP BEP TIP nxP knP pl sp be ti).2.2.1 := ⟨_, rfl⟩
  obtain ⟨pl_4, e_pl_4⟩ : ∃ z : Nat → Int32, z = (fX3_recall PLP SPP BEP TIP nxP knP pl sp be ti).2.2.2.1 := ⟨_, rfl⟩
  obtain ⟨sp_5, e_sp_5⟩ : ∃ z : Nat → Int32, z = (fX3_recall PLP SPP BEP TIP nxP knP pl sp be ti).2.2.2.2.1 := ⟨_, rfl⟩
  obtain ⟨be_6, e_be_6⟩ : ∃ z : Int32, z = (fX3_recall PLP SPP BEP TIP nxP knP pl sp be ti).2.2.2.2.2.1 := ⟨_, rfl⟩
  obtain ⟨ti_7, e_ti_7⟩ : ∃ z : Int32, z = (fX3_recall PLP SPP BEP TIP nxP knP pl sp be ti).2.2.2.2.2.2 := ⟨_, rfl⟩
  have K_8 := ctX3_recall l g zps zma zmo zmp zmq zna znp znq PLP SPP BEP TIP nxP knP pl sp be ti  (by omega) (by omega)
  rw [← e_r_1, ← e_nx_2, ← e_kn_3, ← e_pl_4, ← e_sp_5, ← e_be_6, ← e_ti_7] at K_8
  refine w_cI (pc := 8) [wSpn zo zx zr ztb zna zps zim zkp zf zs zk, wMom g zna znp znq pl_4 sp_5 be_6 ti_7, wPas g zps zma zmo zmp zmq PLP SPP BEP TIP nx_2 kn_3] C mv_X8_165 K_8 dX8_undo_8 (by decide) [2, 1] rfl (by decide) (by simp only [List.map_cons, List.map_nil, adMom, adPas]) rfl 4 rfl rfl (Nat.le_of_ble_eq_true rfl) ⟨Nat.zero_le _, Nat.zero_le _⟩ ?_
  refine r_ifeq (pc := 11) 24 C dX8_undo_11 (by decide) (fun c_9 => ?_) (fun c_9 => ?_)
  · refine r_bipush (pc := 24) (-2) C dX8_undo_24 rfl ?_
    have hf : fX8_undo pl sp be ti PLP SPP BEP TIP nxP knP = ((-2), pl_4, sp_5, be_6, ti_7, nx_2, kn_3) := by first | (simp only [fX8_undo, ← e_r_1, ← e_nx_2, ← e_kn_3, ← e_pl_4, ← e_sp_5, ← e_be_6, ← e_ti_7, if_pos c_9]; done) | (subst e_r_1 e_nx_2 e_kn_3 e_pl_4 e_sp_5 e_be_6 e_ti_7; simp only [fX8_undo, if_pos c_9]; done) | (subst e_r_1 e_nx_2 e_kn_3 e_pl_4 e_sp_5 e_be_6 e_ti_7; rfl) | (subst e_r_1 e_nx_2 e_kn_3 e_pl_4 e_sp_5 e_be_6 e_ti_7; simp [fX8_undo, if_pos c_9]; done)
    rw [hf] at hR
    exact hR _ _ dX8_undo_26
  · refine r_aload_n (pc := 14) C dX8_undo_14 0 rfl ?_
    refine r_get (pc := 15) C fl_X8_42 dX8_undo_15 0 rfl rfl ?_
    refine r_get (pc := 18) C fl_X8_104 dX8_undo_18 4 rfl rfl ?_
    refine r_goto (pc := 21) 26 C dX8_undo_21 (by decide) ?_
    have hf : fX8_undo pl sp be ti PLP SPP BEP TIP nxP knP = ((nI kn_3), pl_4, sp_5, be_6, ti_7, nx_2, kn_3) := by first | (simp only [fX8_undo, ← e_r_1, ← e_nx_2, ← e_kn_3, ← e_pl_4, ← e_sp_5, ← e_be_6, ← e_ti_7, if_neg c_9]; done) | (subst e_r_1 e_nx_2 e_kn_3 e_pl_4 e_sp_5 e_be_6 e_ti_7; simp only [fX8_undo, if_neg c_9]; done) | (subst e_r_1 e_nx_2 e_kn_3 e_pl_4 e_sp_5 e_be_6 e_ti_7; rfl) | (subst e_r_1 e_nx_2 e_kn_3 e_pl_4 e_sp_5 e_be_6 e_ti_7; simp [fX8_undo, if_neg c_9]; done)
    rw [hf] at hR
    exact hR _ _ dX8_undo_26
theorem ctX8_undo (l : Launch) (g : Gl) (zo : Nat) (zx : Nat) (zr : Nat) (ztb : Nat) (zna : Nat) (zps : Nat) (zim : Nat) (zkp : Nat) (zf : Nat) (zs : Nat) (zk : Nat) (znp : Nat) (znq : Nat) (zma : Nat) (zmo : Nat → Nat) (zmp : Nat → Nat) (zmq : Nat → Nat) (pl : Nat → Int32) (sp : Nat → Int32) (be : Int32) (ti : Int32) (PLP : Nat → Nat → Int32) (SPP : Nat → Nat → Int32) (BEP : Nat → Int32) (TIP : Nat → Int32) (nxP : Nat) (knP : Nat) (q0 : nxP < 10) (q1 : knP ≤ 10) : CtI l g yX8_undo cX8_undo 1 (some .int) 3 [.ref zo] (fl [wSpn zo zx zr ztb zna zps zim zkp zf zs zk, wMom g zna znp znq pl sp be ti, wPas g zps zma zmo zmp zmq PLP SPP BEP TIP nxP knP]) ((fX8_undo pl sp be ti PLP SPP BEP TIP nxP knP).1) (fl [wSpn zo zx zr ztb zna zps zim zkp zf zs zk, wMom g zna znp znq ((fX8_undo pl sp be ti PLP SPP BEP TIP nxP knP).2.1) ((fX8_undo pl sp be ti PLP SPP BEP TIP nxP knP).2.2.1) ((fX8_undo pl sp be ti PLP SPP BEP TIP nxP knP).2.2.2.1) ((fX8_undo pl sp be ti PLP SPP BEP TIP nxP knP).2.2.2.2.1), wPas g zps zma zmo zmp zmq PLP SPP BEP TIP ((fX8_undo pl sp be ti PLP SPP BEP TIP nxP knP).2.2.2.2.2.1) ((fX8_undo pl sp be ti PLP SPP BEP TIP nxP knP).2.2.2.2.2.2)]) := mkI .int rfl rfl [(0, .ref zo)] (by decide) (Nat.le_of_ble_eq_true rfl) rfl (fun X C hR => bX8_undo C zo zx zr ztb zna zps zim zkp zf zs zk znp znq zma zmo zmp zmq pl sp be ti PLP SPP BEP TIP nxP knP q0 q1 hR)
