def fX0_standing (pl3 : Nat → Int32) (sp3 : Nat → Int32) (dr : Nat → Int32) (pz : Int32) (sl : Int32) (pl : Nat → Int32) (sp : Nat → Int32) (be : Int32) (ti : Int32) (m : Nat) : (Int32) × (Nat → Int32) × (Nat → Int32) × (Int32) × (Int32) := (let pl_1 : Nat → Int32 := (fX2_copy pl3 sp3 pl sp be ti).1; let sp_2 : Nat → Int32 := (fX2_copy pl3 sp3 pl sp be ti).2.1; let be_3 : Int32 := (fX2_copy pl3 sp3 pl sp be ti).2.2.1; let ti_4 : Int32 := (fX2_copy pl3 sp3 pl sp be ti).2.2.2; let r_6 : Int32 := (fX2_goBy pl_1 sp_2 be_3 ti_4 dr pz sl m).1; let pl_7 : Nat → Int32 := (fX2_goBy pl_1 sp_2 be_3 ti_4 dr pz sl m).2.1; let sp_8 : Nat → Int32 := (fX2_goBy pl_1 sp_2 be_3 ti_4 dr pz sl m).2.2.1; let be_9 : Int32 := (fX2_goBy pl_1 sp_2 be_3 ti_4 dr pz sl m).2.2.2; let r_11 : Int32 := fX2_standing sp_8; (r_11, pl_7, sp_8, be_9, ti_4))
set_option maxHeartbeats 4000000 in
set_option maxRecDepth 100000 in
theorem bX0_standing {l : Launch} {g : Gl} {X : Cx} (C : Ok l g X RX0 cX0_standing 4 4) (zf : Nat) (za3 : Nat) (zp3 : Nat) (zq3 : Nat) (zb : Nat) (zd : Nat) (za : Nat) (zp : Nat) (zq : Nat) (rs : Int32) (rb : Nat) (ou : Int32) (ol : Int32) (pl3 : Nat → Int32) (sp3 : Nat → Int32) (be3 : Int32) (ti3 : Int32) (dr : Nat → Int32) (pz : Int32) (sl : Int32) (tp : Nat) (pl : Nat → Int32) (sp : Nat → Int32) (be : Int32) (ti : Int32) (m : Nat) (q0 : m < 2 ^ 31) (hR : RetI g X cX0_standing 4 0 0 ((fX0_standing pl3 sp3 dr pz sl pl sp be ti m).1) (fl [wFut zf za3 rs rb ou ol, wMom g za3 zp3 zq3 ((fX0_standing pl3 sp3 dr pz sl pl sp be ti m).2.1) ((fX0_standing pl3 sp3 dr pz sl pl sp be ti m).2.2.1) ((fX0_standing pl3 sp3 dr pz sl pl sp be ti m).2.2.2.1) ((fX0_standing pl3 sp3 dr pz sl pl sp be ti m).2.2.2.2), wTol g zb zd dr pz sl tp, wMom g za zp zq pl sp be ti])) : Vw g X 4 0 0 (fl [wFut zf za3 rs rb ou ol, wMom g za3 zp3 zq3 pl3 sp3 be3 ti3, wTol g zb zd dr pz sl tp, wMom g za zp zq pl sp be ti]) 0 [(0, .ref zf), (1, .ref zb), (2, .ref za), (3, .int (nI m))] [] := by
  refine r_aload_n (pc := 0) C dX0_standing_0 0 rfl ?_
  refine r_get (pc := 1) C fl_X0_12 dX0_standing_1 0 rfl rfl ?_
  refine r_aload_n (pc := 4) C dX0_standing_4 2 rfl ?_
  obtain ⟨pl_1, e_pl_1⟩ : ∃ z : Nat → Int32, z = (fX2_copy pl3 sp3 pl sp be ti).1 := ⟨_, rfl⟩
  obtain ⟨sp_2, e_sp_2⟩ : ∃ z : Nat → Int32, z = (fX2_copy pl3 sp3 pl sp be ti).2.1 := ⟨_, rfl⟩
  obtain ⟨be_3, e_be_3⟩ : ∃ z : Int32, z = (fX2_copy pl3 sp3 pl sp be ti).2.2.1 := ⟨_, rfl⟩
  obtain ⟨ti_4, e_ti_4⟩ : ∃ z : Int32, z = (fX2_copy pl3 sp3 pl sp be ti).2.2.2 := ⟨_, rfl⟩
  have K_5 := ctX2_copy l g za3 zp3 zq3 za zp zq pl3 sp3 be3 ti3 pl sp be ti  
  rw [← e_pl_1, ← e_sp_2, ← e_be_3, ← e_ti_4] at K_5
  refine w_cV (pc := 5) [wFut zf za3 rs rb ou ol, wMom g za3 zp3 zq3 pl_1 sp_2 be_3 ti_4, wTol g zb zd dr pz sl tp, wMom g za zp zq pl sp be ti] C mv_X0_31 K_5 dX0_standing_5 (by decide) [1, 3] rfl (by decide) (by simp only [List.map_cons, List.map_nil, adMom]) rfl 1 rfl rfl (Nat.le_of_ble_eq_true rfl) ⟨Nat.zero_le _, Nat.zero_le _⟩ ?_
  refine r_aload_n (pc := 8) C dX0_standing_8 0 rfl ?_
  refine r_get (pc := 9) C fl_X0_12 dX0_standing_9 0 rfl rfl ?_
  refine r_aload_n (pc := 12) C dX0_standing_12 1 rfl ?_
  refine r_iload_n (pc := 13) C dX0_standing_13 3 rfl ?_
  obtain ⟨r_6, e_r_6⟩ : ∃ z : Int32, z = (fX2_goBy pl_1 sp_2 be_3 ti_4 dr pz sl m).1 := ⟨_, rfl⟩
  obtain ⟨pl_7, e_pl_7⟩ : ∃ z : Nat → Int32, z = (fX2_goBy pl_1 sp_2 be_3 ti_4 dr pz sl m).2.1 := ⟨_, rfl⟩
  obtain ⟨sp_8, e_sp_8⟩ : ∃ z : Nat → Int32, z = (fX2_goBy pl_1 sp_2 be_3 ti_4 dr pz sl m).2.2.1 := ⟨_, rfl⟩
  obtain ⟨be_9, e_be_9⟩ : ∃ z : Int32, z = (fX2_goBy pl_1 sp_2 be_3 ti_4 dr pz sl m).2.2.2 := ⟨_, rfl⟩
  have K_10 := ctX2_goBy l g za3 zp3 zq3 zb zd pl_1 sp_2 be_3 ti_4 dr pz sl tp m (by omega)
  rw [← e_r_6, ← e_pl_7, ← e_sp_8, ← e_be_9] at K_10
  refine w_cI (pc := 14) [wFut zf za3 rs rb ou ol, wMom g za3 zp3 zq3 pl_7 sp_8 be_9 ti_4, wTol g zb zd dr pz sl tp, wMom g za zp zq pl sp be ti] C mv_X0_35 K_10 dX0_standing_14 (by decide) [1, 2] rfl (by decide) (by simp only [List.map_cons, List.map_nil, adMom, adTol]) rfl 1 rfl rfl (Nat.le_of_ble_eq_true rfl) ⟨Nat.zero_le _, Nat.zero_le _⟩ ?_
  refine r_pop (pc := 17) C dX0_standing_17 rfl ?_
  refine r_aload_n (pc := 18) C dX0_standing_18 0 rfl ?_
  refine r_get (pc := 19) C fl_X0_12 dX0_standing_19 0 rfl rfl ?_
  obtain ⟨r_11, e_r_11⟩ : ∃ z : Int32, z = fX2_standing sp_8 := ⟨_, rfl⟩
  have K_12 := ctX2_standing l g za3 zp3 zq3 pl_7 sp_8 be_9 ti_4  
  rw [← e_r_11] at K_12
  refine w_pI (pc := 22) C mv_X0_39 K_12 dX0_standing_22 (by decide) [1] rfl (by decide) 1 rfl rfl (Nat.le_of_ble_eq_true rfl) ⟨Nat.zero_le _, Nat.zero_le _⟩ ?_
  have hf : fX0_standing pl3 sp3 dr pz sl pl sp be ti m = (r_11, pl_7, sp_8, be_9, ti_4) := by first | (simp only [fX0_standing, ← e_pl_1, ← e_sp_2, ← e_be_3, ← e_ti_4, ← e_r_6, ← e_pl_7, ← e_sp_8, ← e_be_9, ← e_r_11]; done) | (subst e_pl_1 e_sp_2 e_be_3 e_ti_4 e_r_6 e_pl_7 e_sp_8 e_be_9 e_r_11; rfl) | (subst e_pl_1 e_sp_2 e_be_3 e_ti_4 e_r_6 e_pl_7 e_sp_8 e_be_9 e_r_11; simp only [fX0_standing]; done)
  rw [hf] at hR
  exact hR _ _ dX0_standing_25
theorem ctX0_standing (l : Launch) (g : Gl) (zf : Nat) (za3 : Nat) (zp3 : Nat) (zq3 : Nat) (zb : Nat) (zd : Nat) (za : Nat) (zp : Nat) (zq : Nat) (rs : Int32) (rb : Nat) (ou : Int32) (ol : Int32) (pl3 : Nat → Int32) (sp3 : Nat → Int32) (be3 : Int32) (ti3 : Int32) (dr : Nat → Int32) (pz : Int32) (sl : Int32) (tp : Nat) (pl : Nat → Int32) (sp : Nat → Int32) (be : Int32) (ti : Int32) (m : Nat) (q0 : m < 2 ^ 31) : CtI l g yX0_standing cX0_standing 4 (some .int) 4 [.ref zf, .ref zb, .ref za, .int (nI m)] (fl [wFut zf za3 rs rb ou ol, wMom g za3 zp3 zq3 pl3 sp3 be3 ti3, wTol g zb zd dr pz sl tp, wMom g za zp zq pl sp be ti]) ((fX0_standing pl3 sp3 dr pz sl pl sp be ti m).1) (fl [wFut zf za3 rs rb ou ol, wMom g za3 zp3 zq3 ((fX0_standing pl3 sp3 dr pz sl pl sp be ti m).2.1) ((fX0_standing pl3 sp3 dr pz sl pl sp be ti m).2.2.1) ((fX0_standing pl3 sp3 dr pz sl pl sp be ti m).2.2.2.1) ((fX0_standing pl3 sp3 dr pz sl pl sp be ti m).2.2.2.2), wTol g zb zd dr pz sl tp, wMom g za zp zq pl sp be ti]) := mkI .int rfl rfl [(0, .ref zf), (1, .ref zb), (2, .ref za), (3, .int (nI m))] (by decide) (Nat.le_of_ble_eq_true rfl) rfl (fun X C hR => bX0_standing C zf za3 zp3 zq3 zb zd za zp zq rs rb ou ol pl3 sp3 be3 ti3 dr pz sl tp pl sp be ti m q0 hR)

def lX0_fall_11 (t : Nat) (ti_4 : Int32) (dr : Nat → Int32) (pz : Int32) (sl : Int32) : Nat → (Nat) → (Nat → Int32) → (Nat → Int32) → (Int32) → (Nat) × (Nat → Int32) × (Nat → Int32) × (Int32)
  | 0, x4_6, pl1_6, sp1_6, be1_6 => ((x4_6, pl1_6, sp1_6, be1_6))
  | n + 1, x4_6, pl1_6, sp1_6, be1_6 => (let r_9 : Int32 := fX2_stands sp1_6 t; if r_9 = 0 then ((x4_6, pl1_6, sp1_6, be1_6)) else (let r_12 : Int32 := (fX2_goBy pl1_6 sp1_6 be1_6 ti_4 dr pz sl 1).1; let pl_13 : Nat → Int32 := (fX2_goBy pl1_6 sp1_6 be1_6 ti_4 dr pz sl 1).2.1; let sp_14 : Nat → Int32 := (fX2_goBy pl1_6 sp1_6 be1_6 ti_4 dr pz sl 1).2.2.1; let be_15 : Int32 := (fX2_goBy pl1_6 sp1_6 be1_6 ti_4 dr pz sl 1).2.2.2; lX0_fall_11 t ti_4 dr pz sl n (x4_6 + 1) pl_13 sp_14 be_15))
def fX0_fall (pl3 : Nat → Int32) (sp3 : Nat → Int32) (dr : Nat → Int32) (pz : Int32) (sl : Int32) (pl : Nat → Int32) (sp : Nat → Int32) (be : Int32) (ti : Int32) (t : Nat) : (Int32) × (Nat → Int32) × (Nat → Int32) × (Int32) × (Int32) := (let pl_1 : Nat → Int32 := (fX2_copy pl3 sp3 pl sp be ti).1; let sp_2 : Nat → Int32 := (fX2_copy pl3 sp3 pl sp be ti).2.1; let be_3 : Int32 := (fX2_copy pl3 sp3 pl sp be ti).2.2.1; let ti_4 : Int32 := (fX2_copy pl3 sp3 pl sp be ti).2.2.2; let o6 := lX0_fall_11 t ti_4 dr pz sl 60 0 pl_1 sp_2 be_3; let x4_17 : Nat := o6.1; let pl1_18 : Nat → Int32 := o6.2.1; let sp1_19 : Nat → Int32 := o6.2.2.1; let be1_20 : Int32 := o6.2.2.2; ((nI x4_17), pl1_18, sp1_19, be1_20, ti_4))
set_option maxHeartbeats 4000000 in
set_option maxRecDepth 100000 in
theorem bX0_fall {l : Launch} {g : Gl} {X : Cx} (C : Ok l g X RX0 cX0_fall 5 4) (zf : Nat) (za3 : Nat) (zp3 : Nat) (zq3 : Nat) (zb : Nat) (zd : Nat) (za : Nat) (zp : Nat) (zq : Nat) (rs : Int32) (rb : Nat) (ou : Int32) (ol : Int32) (pl3 : Nat → Int32) (sp3 : Nat → Int32) (be3 : Int32) (ti3 : Int32) (dr : Nat → Int32) (pz : Int32) (sl : Int32) (tp : Nat) (pl : Nat → Int32) (sp : Nat → Int32) (be : Int32) (ti : Int32) (t : Nat) (q0 : t < 6) (hR : RetI g X cX0_fall 5 0 0 ((fX0_fall pl3 sp3 dr pz sl pl sp be ti t).1) (fl [wFut zf za3 rs rb ou ol, wMom g za3 zp3 zq3 ((fX0_fall pl3 sp3 dr pz sl pl sp be ti t).2.1) ((fX0_fall pl3 sp3 dr pz sl pl sp be ti t).2.2.1) ((fX0_fall pl3 sp3 dr pz sl pl sp be ti t).2.2.2.1) ((fX0_fall pl3 sp3 dr pz sl pl sp be ti t).2.2.2.2), wTol g zb zd dr pz sl tp, wMom g za zp zq pl sp be ti])) : Vw g X 5 0 0 (fl [wFut zf za3 rs rb ou ol, wMom g za3 zp3 zq3 pl3 sp3 be3 ti3, wTol g zb zd dr pz sl tp, wMom g za zp zq pl sp be ti]) 0 [(0, .ref zf), (1, .ref zb), (2, .ref za), (3, .int (nI t))] [] := by
  refine r_aload_n (pc := 0) C dX0_fall_0 0 rfl ?_
  refine r_get (pc := 1) C fl_X0_12 dX0_fall_1 0 rfl rfl ?_
  refine r_aload_n (pc := 4) C dX0_fall_4 2 rfl ?_
  obtain ⟨pl_1, e_pl_1⟩ : ∃ z : Nat → Int32, z = (fX2_copy pl3 sp3 pl sp be ti).1 := ⟨_, rfl⟩
  obtain ⟨sp_2, e_sp_2⟩ : ∃ z : Nat → Int32, z = (fX2_copy pl3 sp3 pl sp be ti).2.1 := ⟨_, rfl⟩
  obtain ⟨be_3, e_be_3⟩ : ∃ z : Int32, z = (fX2_copy pl3 sp3 pl sp be ti).2.2.1 := ⟨_, rfl⟩
  obtain ⟨ti_4, e_ti_4⟩ : ∃ z : Int32, z = (fX2_copy pl3 sp3 pl sp be ti).2.2.2 := ⟨_, rfl⟩
  have K_5 := ctX2_copy l g za3 zp3 zq3 za zp zq pl3 sp3 be3 ti3 pl sp be ti  
  rw [← e_pl_1, ← e_sp_2, ← e_be_3, ← e_ti_4] at K_5
  refine w_cV (pc := 5) [wFut zf za3 rs rb ou ol, wMom g za3 zp3 zq3 pl_1 sp_2 be_3 ti_4, wTol g zb zd dr pz sl tp, wMom g za zp zq pl sp be ti] C mv_X0_31 K_5 dX0_fall_5 (by decide) [1, 3] rfl (by decide) (by simp only [List.map_cons, List.map_nil, adMom]) rfl 1 rfl rfl (Nat.le_of_ble_eq_true rfl) ⟨Nat.zero_le _, Nat.zero_le _⟩ ?_
  refine r_iconst (pc := 8) 0 C dX0_fall_8 rfl ?_
  refine r_istore (pc := 9) [(4, .int 0), (0, .ref zf), (1, .ref zb), (2, .ref za), (3, .int (nI t))] C dX0_fall_9 (by decide) rfl ?_
  have hX6 : ∀ (x4_17 : Nat) (pl1_18 : Nat → Int32) (sp1_19 : Nat → Int32) (be1_20 : Int32) , (x4_17 = (lX0_fall_11 t ti_4 dr pz sl 60 0 pl_1 sp_2 be_3).1) → (pl1_18 = (lX0_fall_11 t ti_4 dr pz sl 60 0 pl_1 sp_2 be_3).2.1) → (sp1_19 = (lX0_fall_11 t ti_4 dr pz sl 60 0 pl_1 sp_2 be_3).2.2.1) → (be1_20 = (lX0_fall_11 t ti_4 dr pz sl 60 0 pl_1 sp_2 be_3).2.2.2) → Vw g X 5 0 0 (fl [wFut zf za3 rs rb ou ol, wMom g za3 zp3 zq3 pl1_18 sp1_19 be1_20 ti_4, wTol g zb zd dr pz sl tp, wMom g za zp zq pl sp be ti]) 45 [(4, .int (nI x4_17))] [] := by
    intro x4_17 pl1_18 sp1_19 be1_20 e_x4_17 e_pl1_18 e_sp1_19 e_be1_20 
    refine r_iload (pc := 45) C dX0_fall_45 0 rfl ?_
    have hf : fX0_fall pl3 sp3 dr pz sl pl sp be ti t = ((nI x4_17), pl1_18, sp1_19, be1_20, ti_4) := by first | (simp only [fX0_fall, ← e_pl_1, ← e_sp_2, ← e_be_3, ← e_ti_4, ← e_x4_17, ← e_pl1_18, ← e_sp1_19, ← e_be1_20]; done) | (subst e_pl_1 e_sp_2 e_be_3 e_ti_4 e_x4_17 e_pl1_18 e_sp1_19 e_be1_20; rfl) | (subst e_pl_1 e_sp_2 e_be_3 e_ti_4 e_x4_17 e_pl1_18 e_sp1_19 e_be1_20; simp only [fX0_fall]; done)
    rw [hf] at hR
    exact hR _ _ dX0_fall_47
  have hL6 : ∀ (n : Nat) (x4_6 : Nat) (pl1_6 : Nat → Int32) (sp1_6 : Nat → Int32) (be1_6 : Int32) , (x4_6 + n = 60) → lX0_fall_11 t ti_4 dr pz sl n x4_6 pl1_6 sp1_6 be1_6 = lX0_fall_11 t ti_4 dr pz sl 60 0 pl_1 sp_2 be_3 → Vw g X 5 0 0 (fl [wFut zf za3 rs rb ou ol, wMom g za3 zp3 zq3 pl1_6 sp1_6 be1_6 ti_4, wTol g zb zd dr pz sl tp, wMom g za zp zq pl sp be ti]) 11 [(0, .ref zf), (1, .ref zb), (3, .int (nI t)), (4, .int (nI x4_6))] [] := by
    intro n
    induction n with
    | zero =>
      intro x4_6 pl1_6 sp1_6 be1_6 hr6 hV6
      refine r_iload (pc := 11) C dX0_fall_11 3 rfl ?_
      refine r_bipush (pc := 13) 60 C dX0_fall_13 rfl ?_
      refine r_icmpgeN (pc := 15) x4_6 60 45 C dX0_fall_15 (by decide) rfl rfl (by omega) (by omega) (fun _ => ?_) (fun c_7 => absurd (by omega) c_7)
      refine u_lv [(4, .int (nI x4_6))] [3] rfl ?_
      exact hX6 _ _ _ _ (by rw [← hV6]; first | rfl | (simp only [lX0_fall_11]; done) | (simp [lX0_fall_11]; done)) (by rw [← hV6]; first | rfl | (simp only [lX0_fall_11]; done) | (simp [lX0_fall_11]; done)) (by rw [← hV6]; first | rfl | (simp only [lX0_fall_11]; done) | (simp [lX0_fall_11]; done)) (by rw [← hV6]; first | rfl | (simp only [lX0_fall_11]; done) | (simp [lX0_fall_11]; done))
    | succ n ih =>
      intro x4_6 pl1_6 sp1_6 be1_6 hr6 hV6
      refine r_iload (pc := 11) C dX0_fall_11 3 rfl ?_
      refine r_bipush (pc := 13) 60 C dX0_fall_13 rfl ?_
      refine r_icmpgeN (pc := 15) x4_6 60 45 C dX0_fall_15 (by decide) rfl rfl (by omega) (by omega) (fun c_8 => absurd c_8 (by omega)) (fun _ => ?_)
      refine r_aload_n (pc := 18) C dX0_fall_18 0 rfl ?_
      refine r_get (pc := 19) C fl_X0_12 dX0_fall_19 0 rfl rfl ?_
      refine r_iload_n (pc := 22) C dX0_fall_22 2 rfl ?_
      obtain ⟨r_9, e_r_9⟩ : ∃ z : Int32, z = fX2_stands sp1_6 t := ⟨_, rfl⟩
      have K_10 := ctX2_stands l g za3 zp3 zq3 pl1_6 sp1_6 be1_6 ti_4 t (by omega)
      rw [← e_r_9] at K_10
      refine w_pI (pc := 23) C mv_X0_43 K_10 dX0_fall_23 (by decide) [1] rfl (by decide) 1 rfl rfl (Nat.le_of_ble_eq_true rfl) ⟨Nat.zero_le _, Nat.zero_le _⟩ ?_
      refine r_ifeq (pc := 26) 45 C dX0_fall_26 (by decide) (fun c_11 => ?_) (fun c_11 => ?_)
      · refine u_lv [(4, .int (nI x4_6))] [3] rfl ?_
        exact hX6 _ _ _ _ (by rw [← hV6]; first | (simp only [lX0_fall_11, ← e_r_9, if_pos c_11]; done) | (subst e_r_9; simp only [lX0_fall_11, if_pos c_11]; done) | (subst e_r_9; rfl) | (subst e_r_9; simp [lX0_fall_11, if_pos c_11]; done)) (by rw [← hV6]; first | (simp only [lX0_fall_11, ← e_r_9, if_pos c_11]; done) | (subst e_r_9; simp only [lX0_fall_11, if_pos c_11]; done) | (subst e_r_9; rfl) | (subst e_r_9; simp [lX0_fall_11, if_pos c_11]; done)) (by rw [← hV6]; first | (simp only [lX0_fall_11, ← e_r_9, if_pos c_11]; done) | (subst e_r_9; simp only [lX0_fall_11, if_pos c_11]; done) | (subst e_r_9; rfl) | (subst e_r_9; simp [lX0_fall_11, if_pos c_11]; done)) (by rw [← hV6]; first | (simp only [lX0_fall_11, ← e_r_9, if_pos c_11]; done) | (subst e_r_9; simp only [lX0_fall_11, if_pos c_11]; done) | (subst e_r_9; rfl) | (subst e_r_9; simp [lX0_fall_11, if_pos c_11]; done))
      · refine r_aload_n (pc := 29) C dX0_fall_29 0 rfl ?_
        refine r_get (pc := 30) C fl_X0_12 dX0_fall_30 0 rfl rfl ?_
        refine r_aload_n (pc := 33) C dX0_fall_33 1 rfl ?_
        refine r_iconst (pc := 34) 1 C dX0_fall_34 rfl ?_
        obtain ⟨r_12, e_r_12⟩ : ∃ z : Int32, z = (fX2_goBy pl1_6 sp1_6 be1_6 ti_4 dr pz sl 1).1 := ⟨_, rfl⟩
        obtain ⟨pl_13, e_pl_13⟩ : ∃ z : Nat → Int32, z = (fX2_goBy pl1_6 sp1_6 be1_6 ti_4 dr pz sl 1).2.1 := ⟨_, rfl⟩
        obtain ⟨sp_14, e_sp_14⟩ : ∃ z : Nat → Int32, z = (fX2_goBy pl1_6 sp1_6 be1_6 ti_4 dr pz sl 1).2.2.1 := ⟨_, rfl⟩
        obtain ⟨be_15, e_be_15⟩ : ∃ z : Int32, z = (fX2_goBy pl1_6 sp1_6 be1_6 ti_4 dr pz sl 1).2.2.2 := ⟨_, rfl⟩
        have K_16 := ctX2_goBy l g za3 zp3 zq3 zb zd pl1_6 sp1_6 be1_6 ti_4 dr pz sl tp 1 (by omega)
        rw [← e_r_12, ← e_pl_13, ← e_sp_14, ← e_be_15] at K_16
        refine w_cI (pc := 35) [wFut zf za3 rs rb ou ol, wMom g za3 zp3 zq3 pl_13 sp_14 be_15 ti_4, wTol g zb zd dr pz sl tp, wMom g za zp zq pl sp be ti] C mv_X0_35 K_16 dX0_fall_35 (by decide) [1, 2] rfl (by decide) (by simp only [List.map_cons, List.map_nil, adMom, adTol]) rfl 1 rfl rfl (Nat.le_of_ble_eq_true rfl) ⟨Nat.zero_le _, Nat.zero_le _⟩ ?_
        refine r_pop (pc := 38) C dX0_fall_38 rfl ?_
        refine r_iinc (pc := 39) (nI (x4_6 + 1)) [(4, .int (nI (x4_6 + 1))), (0, .ref zf), (1, .ref zb), (3, .int (nI t))] C dX0_fall_39 3 rfl (inc1 _) (by decide) rfl ?_
        refine r_goto (pc := 42) 11 C dX0_fall_42 (by decide) ?_
        refine u_lv [(0, .ref zf), (1, .ref zb), (3, .int (nI t)), (4, .int (nI (x4_6 + 1)))] [1, 2, 3, 0] rfl ?_
        exact ih (x4_6 + 1) pl_13 sp_14 be_15 (by omega) (by rw [← hV6]; first | (simp only [lX0_fall_11, ← e_r_9, ← e_r_12, ← e_pl_13, ← e_sp_14, ← e_be_15, if_neg c_11]; done) | (subst e_r_9 e_r_12 e_pl_13 e_sp_14 e_be_15; simp only [lX0_fall_11, if_neg c_11]; done) | (subst e_r_9 e_r_12 e_pl_13 e_sp_14 e_be_15; rfl) | (subst e_r_9 e_r_12 e_pl_13 e_sp_14 e_be_15; simp [lX0_fall_11, if_neg c_11]; done))
  refine u_lv [(0, .ref zf), (1, .ref zb), (3, .int (nI t)), (4, .int 0)] [1, 2, 4, 0] rfl ?_
  exact hL6 60 0 pl_1 sp_2 be_3 (by omega) rfl
theorem ctX0_fall (l : Launch) (g : Gl) (zf : Nat) (za3 : Nat) (zp3 : Nat) (zq3 : Nat) (zb : Nat) (zd : Nat) (za : Nat) (zp : Nat) (zq : Nat) (rs : Int32) (rb : Nat) (ou : Int32) (ol : Int32) (pl3 : Nat → Int32) (sp3 : Nat → Int32) (be3 : Int32) (ti3 : Int32) (dr : Nat → Int32) (pz : Int32) (sl : Int32) (tp : Nat) (pl : Nat → Int32) (sp : Nat → Int32) (be : Int32) (ti : Int32) (t : Nat) (q0 : t < 6) : CtI l g yX0_fall cX0_fall 5 (some .int) 4 [.ref zf, .ref zb, .ref za, .int (nI t)] (fl [wFut zf za3 rs rb ou ol, wMom g za3 zp3 zq3 pl3 sp3 be3 ti3, wTol g zb zd dr pz sl tp, wMom g za zp zq pl sp be ti]) ((fX0_fall pl3 sp3 dr pz sl pl sp be ti t).1) (fl [wFut zf za3 rs rb ou ol, wMom g za3 zp3 zq3 ((fX0_fall pl3 sp3 dr pz sl pl sp be ti t).2.1) ((fX0_fall pl3 sp3 dr pz sl pl sp be ti t).2.2.1) ((fX0_fall pl3 sp3 dr pz sl pl sp be ti t).2.2.2.1) ((fX0_fall pl3 sp3 dr pz sl pl sp be ti t).2.2.2.2), wTol g zb zd dr pz sl tp, wMom g za zp zq pl sp be ti]) := mkI .int rfl rfl [(0, .ref zf), (1, .ref zb), (2, .ref za), (3, .int (nI t))] (by decide) (Nat.le_of_ble_eq_true rfl) rfl (fun X C hR => bX0_fall C zf za3 zp3 zq3 zb zd za zp zq rs rb ou ol pl3 sp3 be3 ti3 dr pz sl tp pl sp be ti t q0 hR)

def lX0_last_19 (ti_4 : Int32) (dr : Nat → Int32) (pz : Int32) (sl : Int32) : Nat → (Int32) → (Nat) → (Nat → Int32) → (Nat → Int32) → (Int32) → (Int32) × (Nat → Int32) × (Nat → Int32) × (Int32)
  | 0, x3_8, x4_8, pl1_8, sp1_8, be1_8 => ((x3_8, pl1_8, sp1_8, be1_8))
  | n + 1, x3_8, x4_8, pl1_8, sp1_8, be1_8 => (let r_11 : Int32 := fX2_lowest sp1_8; if r_11 = (-9) then ((x3_8, pl1_8, sp1_8, be1_8)) else (let r_15 : Int32 := (fX2_goBy pl1_8 sp1_8 be1_8 ti_4 dr pz sl 1).1; let pl_16 : Nat → Int32 := (fX2_goBy pl1_8 sp1_8 be1_8 ti_4 dr pz sl 1).2.1; let sp_17 : Nat → Int32 := (fX2_goBy pl1_8 sp1_8 be1_8 ti_4 dr pz sl 1).2.2.1; let be_18 : Int32 := (fX2_goBy pl1_8 sp1_8 be1_8 ti_4 dr pz sl 1).2.2.2; lX0_last_19 ti_4 dr pz sl n r_11 (x4_8 + 1) pl_16 sp_17 be_18))
def fX0_last (pl3 : Nat → Int32) (sp3 : Nat → Int32) (dr : Nat → Int32) (pz : Int32) (sl : Int32) (pl : Nat → Int32) (sp : Nat → Int32) (be : Int32) (ti : Int32) : (Int32) × (Nat → Int32) × (Nat → Int32) × (Int32) × (Int32) := (let pl_1 : Nat → Int32 := (fX2_copy pl3 sp3 pl sp be ti).1; let sp_2 : Nat → Int32 := (fX2_copy pl3 sp3 pl sp be ti).2.1; let be_3 : Int32 := (fX2_copy pl3 sp3 pl sp be ti).2.2.1; let ti_4 : Int32 := (fX2_copy pl3 sp3 pl sp be ti).2.2.2; let r_6 : Int32 := fX2_lowest sp_2; let o8 := lX0_last_19 ti_4 dr pz sl 60 r_6 0 pl_1 sp_2 be_3; let x3_20 : Int32 := o8.1; let pl1_21 : Nat → Int32 := o8.2.1; let sp1_22 : Nat → Int32 := o8.2.2.1; let be1_23 : Int32 := o8.2.2.2; (x3_20, pl1_21, sp1_22, be1_23, ti_4))
set_option maxHeartbeats 4000000 in
set_option maxRecDepth 100000 in
theorem bX0_last {l : Launch} {g : Gl} {X : Cx} (C : Ok l g X RX0 cX0_last 5 4) (zf : Nat) (za3 : Nat) (zp3 : Nat) (zq3 : Nat) (zb : Nat) (zd : Nat) (za : Nat) (zp : Nat) (zq : Nat) (rs : Int32) (rb : Nat) (ou : Int32) (ol : Int32) (pl3 : Nat → Int32) (sp3 : Nat → Int32) (be3 : Int32) (ti3 : Int32) (dr : Nat → Int32) (pz : Int32) (sl : Int32) (tp : Nat) (pl : Nat → Int32) (sp : Nat → Int32) (be : Int32) (ti : Int32) (hR : RetI g X cX0_last 5 0 0 ((fX0_last pl3 sp3 dr pz sl pl sp be ti).1) (fl [wFut zf za3 rs rb ou ol, wMom g za3 zp3 zq3 ((fX0_last pl3 sp3 dr pz sl pl sp be ti).2.1) ((fX0_last pl3 sp3 dr pz sl pl sp be ti).2.2.1) ((fX0_last pl3 sp3 dr pz sl pl sp be ti).2.2.2.1) ((fX0_last pl3 sp3 dr pz sl pl sp be ti).2.2.2.2), wTol g zb zd dr pz sl tp, wMom g za zp zq pl sp be ti])) : Vw g X 5 0 0 (fl [wFut zf za3 rs rb ou ol, wMom g za3 zp3 zq3 pl3 sp3 be3 ti3, wTol g zb zd dr pz sl tp, wMom g za zp zq pl sp be ti]) 0 [(0, .ref zf), (1, .ref zb), (2, .ref za)] [] := by
  refine r_aload_n (pc := 0) C dX0_last_0 0 rfl ?_
  refine r_get (pc := 1) C fl_X0_12 dX0_last_1 0 rfl rfl ?_
  refine r_aload_n (pc := 4) C dX0_last_4 2 rfl ?_
  obtain ⟨pl_1, e_pl_1⟩ : ∃ z : Nat → Int32, z = (fX2_copy pl3 sp3 pl sp be ti).1 := ⟨_, rfl⟩
  obtain ⟨sp_2, e_sp_2⟩ : ∃ z : Nat → Int32, z = (fX2_copy pl3 sp3 pl sp be ti).2.1 := ⟨_, rfl⟩
  obtain ⟨be_3, e_be_3⟩ : ∃ z : Int32, z = (fX2_copy pl3 sp3 pl sp be ti).2.2.1 := ⟨_, rfl⟩
  obtain ⟨ti_4, e_ti_4⟩ : ∃ z : Int32, z = (fX2_copy pl3 sp3 pl sp be ti).2.2.2 := ⟨_, rfl⟩
  have K_5 := ctX2_copy l g za3 zp3 zq3 za zp zq pl3 sp3 be3 ti3 pl sp be ti  
  rw [← e_pl_1, ← e_sp_2, ← e_be_3, ← e_ti_4] at K_5
  refine w_cV (pc := 5) [wFut zf za3 rs rb ou ol, wMom g za3 zp3 zq3 pl_1 sp_2 be_3 ti_4, wTol g zb zd dr pz sl tp, wMom g za zp zq pl sp be ti] C mv_X0_31 K_5 dX0_last_5 (by decide) [1, 3] rfl (by decide) (by simp only [List.map_cons, List.map_nil, adMom]) rfl 1 rfl rfl (Nat.le_of_ble_eq_true rfl) ⟨Nat.zero_le _, Nat.zero_le _⟩ ?_
  refine r_aload_n (pc := 8) C dX0_last_8 0 rfl ?_
  refine r_get (pc := 9) C fl_X0_12 dX0_last_9 0 rfl rfl ?_
  obtain ⟨r_6, e_r_6⟩ : ∃ z : Int32, z = fX2_lowest sp_2 := ⟨_, rfl⟩
  have K_7 := ctX2_lowest l g za3 zp3 zq3 pl_1 sp_2 be_3 ti_4  
  rw [← e_r_6] at K_7
  refine w_pI (pc := 12) C mv_X0_47 K_7 dX0_last_12 (by decide) [1] rfl (by decide) 1 rfl rfl (Nat.le_of_ble_eq_true rfl) ⟨Nat.zero_le _, Nat.zero_le _⟩ ?_
  refine r_istore_n (pc := 15) [(3, .int r_6), (0, .ref zf), (1, .ref zb), (2, .ref za)] C dX0_last_15 (by decide) rfl ?_
  refine r_iconst (pc := 16) 0 C dX0_last_16 rfl ?_
  refine r_istore (pc := 17) [(4, .int 0), (3, .int r_6), (0, .ref zf), (1, .ref zb), (2, .ref za)] C dX0_last_17 (by decide) rfl ?_
  have hX8 : ∀ (x3_20 : Int32) (pl1_21 : Nat → Int32) (sp1_22 : Nat → Int32) (be1_23 : Int32) , (x3_20 = (lX0_last_19 ti_4 dr pz sl 60 r_6 0 pl_1 sp_2 be_3).1) → (pl1_21 = (lX0_last_19 ti_4 dr pz sl 60 r_6 0 pl_1 sp_2 be_3).2.1) → (sp1_22 = (lX0_last_19 ti_4 dr pz sl 60 r_6 0 pl_1 sp_2 be_3).2.2.1) → (be1_23 = (lX0_last_19 ti_4 dr pz sl 60 r_6 0 pl_1 sp_2 be_3).2.2.2) → Vw g X 5 0 0 (fl [wFut zf za3 rs rb ou ol, wMom g za3 zp3 zq3 pl1_21 sp1_22 be1_23 ti_4, wTol g zb zd dr pz sl tp, wMom g za zp zq pl sp be ti]) 62 [(3, .int x3_20)] [] := by
    intro x3_20 pl1_21 sp1_22 be1_23 e_x3_20 e_pl1_21 e_sp1_22 e_be1_23 
    refine r_iload_n (pc := 62) C dX0_last_62 0 rfl ?_
    have hf : fX0_last pl3 sp3 dr pz sl pl sp be ti = (x3_20, pl1_21, sp1_22, be1_23, ti_4) := by first | (simp only [fX0_last, ← e_pl_1, ← e_sp_2, ← e_be_3, ← e_ti_4, ← e_r_6, ← e_x3_20, ← e_pl1_21, ← e_sp1_22, ← e_be1_23]; done) | (subst e_pl_1 e_sp_2 e_be_3 e_ti_4 e_r_6 e_x3_20 e_pl1_21 e_sp1_22 e_be1_23; rfl) | (subst e_pl_1 e_sp_2 e_be_3 e_ti_4 e_r_6 e_x3_20 e_pl1_21 e_sp1_22 e_be1_23; simp only [fX0_last]; done)
    rw [hf] at hR
    exact hR _ _ dX0_last_63
  have hL8 : ∀ (n : Nat) (x3_8 : Int32) (x4_8 : Nat) (pl1_8 : Nat → Int32) (sp1_8 : Nat → Int32) (be1_8 : Int32) , (x4_8 + n = 60) → lX0_last_19 ti_4 dr pz sl n x3_8 x4_8 pl1_8 sp1_8 be1_8 = lX0_last_19 ti_4 dr pz sl 60 r_6 0 pl_1 sp_2 be_3 → Vw g X 5 0 0 (fl [wFut zf za3 rs rb ou ol, wMom g za3 zp3 zq3 pl1_8 sp1_8 be1_8 ti_4, wTol g zb zd dr pz sl tp, wMom g za zp zq pl sp be ti]) 19 [(0, .ref zf), (1, .ref zb), (3, .int x3_8), (4, .int (nI x4_8))] [] := by
    intro n
    induction n with
    | zero =>
      intro x3_8 x4_8 pl1_8 sp1_8 be1_8 hr8 hV8
      refine r_iload (pc := 19) C dX0_last_19 3 rfl ?_
      refine r_bipush (pc := 21) 60 C dX0_last_21 rfl ?_
      refine r_icmpgeN (pc := 23) x4_8 60 62 C dX0_last_23 (by decide) rfl rfl (by omega) (by omega) (fun _ => ?_) (fun c_9 => absurd (by omega) c_9)
      refine u_lv [(3, .int x3_8)] [2] rfl ?_
      exact hX8 _ _ _ _ (by rw [← hV8]; first | rfl | (simp only [lX0_last_19]; done) | (simp [lX0_last_19]; done)) (by rw [← hV8]; first | rfl | (simp only [lX0_last_19]; done) | (simp [lX0_last_19]; done)) (by rw [← hV8]; first | rfl | (simp only [lX0_last_19]; done) | (simp [lX0_last_19]; done)) (by rw [← hV8]; first | rfl | (simp only [lX0_last_19]; done) | (simp [lX0_last_19]; done))
    | succ n ih =>
      intro x3_8 x4_8 pl1_8 sp1_8 be1_8 hr8 hV8
      refine r_iload (pc := 19) C dX0_last_19 3 rfl ?_
      refine r_bipush (pc := 21) 60 C dX0_last_21 rfl ?_
      refine r_icmpgeN (pc := 23) x4_8 60 62 C dX0_last_23 (by decide) rfl rfl (by omega) (by omega) (fun c_10 => absurd c_10 (by omega)) (fun _ => ?_)
      refine r_aload_n (pc := 26) C dX0_last_26 0 rfl ?_
      refine r_get (pc := 27) C fl_X0_12 dX0_last_27 0 rfl rfl ?_
      obtain ⟨r_11, e_r_11⟩ : ∃ z : Int32, z = fX2_lowest sp1_8 := ⟨_, rfl⟩
      have K_12 := ctX2_lowest l g za3 zp3 zq3 pl1_8 sp1_8 be1_8 ti_4  
      rw [← e_r_11] at K_12
      refine w_pI (pc := 30) C mv_X0_47 K_12 dX0_last_30 (by decide) [1] rfl (by decide) 1 rfl rfl (Nat.le_of_ble_eq_true rfl) ⟨Nat.zero_le _, Nat.zero_le _⟩ ?_
      refine r_bipush (pc := 33) (-9) C dX0_last_33 rfl ?_
      refine r_icmpeq (pc := 35) 62 C dX0_last_35 (by decide) (fun c_13 => ?_) (fun c_13 => ?_)
      · refine u_lv [(3, .int x3_8)] [2] rfl ?_
        exact hX8 _ _ _ _ (by rw [← hV8]; first | (simp only [lX0_last_19, ← e_r_11, if_pos c_13]; done) | (subst e_r_11; simp only [lX0_last_19, if_pos c_13]; done) | (subst e_r_11; rfl) | (subst e_r_11; simp [lX0_last_19, if_pos c_13]; done)) (by rw [← hV8]; first | (simp only [lX0_last_19, ← e_r_11, if_pos c_13]; done) | (subst e_r_11; simp only [lX0_last_19, if_pos c_13]; done) | (subst e_r_11; rfl) | (subst e_r_11; simp [lX0_last_19, if_pos c_13]; done)) (by rw [← hV8]; first | (simp only [lX0_last_19, ← e_r_11, if_pos c_13]; done) | (subst e_r_11; simp only [lX0_last_19, if_pos c_13]; done) | (subst e_r_11; rfl) | (subst e_r_11; simp [lX0_last_19, if_pos c_13]; done)) (by rw [← hV8]; first | (simp only [lX0_last_19, ← e_r_11, if_pos c_13]; done) | (subst e_r_11; simp only [lX0_last_19, if_pos c_13]; done) | (subst e_r_11; rfl) | (subst e_r_11; simp [lX0_last_19, if_pos c_13]; done))
      · refine r_aload_n (pc := 38) C dX0_last_38 0 rfl ?_
        refine r_get (pc := 39) C fl_X0_12 dX0_last_39 0 rfl rfl ?_
        have K_14 := ctX2_lowest l g za3 zp3 zq3 pl1_8 sp1_8 be1_8 ti_4  
        rw [← e_r_11] at K_14
        refine w_pI (pc := 42) C mv_X0_47 K_14 dX0_last_42 (by decide) [1] rfl (by decide) 1 rfl rfl (Nat.le_of_ble_eq_true rfl) ⟨Nat.zero_le _, Nat.zero_le _⟩ ?_
        refine r_istore_n (pc := 45) [(3, .int r_11), (0, .ref zf), (1, .ref zb), (4, .int (nI x4_8))] C dX0_last_45 (by decide) rfl ?_
        refine r_aload_n (pc := 46) C dX0_last_46 1 rfl ?_
        refine r_get (pc := 47) C fl_X0_12 dX0_last_47 0 rfl rfl ?_
        refine r_aload_n (pc := 50) C dX0_last_50 2 rfl ?_
        refine r_iconst (pc := 51) 1 C dX0_last_51 rfl ?_
        obtain ⟨r_15, e_r_15⟩ : ∃ z : Int32, z = (fX2_goBy pl1_8 sp1_8 be1_8 ti_4 dr pz sl 1).1 := ⟨_, rfl⟩
        obtain ⟨pl_16, e_pl_16⟩ : ∃ z : Nat → Int32, z = (fX2_goBy pl1_8 sp1_8 be1_8 ti_4 dr pz sl 1).2.1 := ⟨_, rfl⟩
        obtain ⟨sp_17, e_sp_17⟩ : ∃ z : Nat → Int32, z = (fX2_goBy pl1_8 sp1_8 be1_8 ti_4 dr pz sl 1).2.2.1 := ⟨_, rfl⟩
        obtain ⟨be_18, e_be_18⟩ : ∃ z : Int32, z = (fX2_goBy pl1_8 sp1_8 be1_8 ti_4 dr pz sl 1).2.2.2 := ⟨_, rfl⟩
        have K_19 := ctX2_goBy l g za3 zp3 zq3 zb zd pl1_8 sp1_8 be1_8 ti_4 dr pz sl tp 1 (by omega)
        rw [← e_r_15, ← e_pl_16, ← e_sp_17, ← e_be_18] at K_19
        refine w_cI (pc := 52) [wFut zf za3 rs rb ou ol, wMom g za3 zp3 zq3 pl_16 sp_17 be_18 ti_4, wTol g zb zd dr pz sl tp, wMom g za zp zq pl sp be ti] C mv_X0_35 K_19 dX0_last_52 (by decide) [1, 2] rfl (by decide) (by simp only [List.map_cons, List.map_nil, adMom, adTol]) rfl 1 rfl rfl (Nat.le_of_ble_eq_true rfl) ⟨Nat.zero_le _, Nat.zero_le _⟩ ?_
        refine r_pop (pc := 55) C dX0_last_55 rfl ?_
        refine r_iinc (pc := 56) (nI (x4_8 + 1)) [(4, .int (nI (x4_8 + 1))), (3, .int r_11), (0, .ref zf), (1, .ref zb)] C dX0_last_56 3 rfl (inc1 _) (by decide) rfl ?_
        refine r_goto (pc := 59) 19 C dX0_last_59 (by decide) ?_
        refine u_lv [(0, .ref zf), (1, .ref zb), (3, .int r_11), (4, .int (nI (x4_8 + 1)))] [2, 3, 1, 0] rfl ?_
        exact ih r_11 (x4_8 + 1) pl_16 sp_17 be_18 (by omega) (by rw [← hV8]; first | (simp only [lX0_last_19, ← e_r_11, ← e_r_15, ← e_pl_16, ← e_sp_17, ← e_be_18, if_neg c_13]; done) | (subst e_r_11 e_r_15 e_pl_16 e_sp_17 e_be_18; simp only [lX0_last_19, if_neg c_13]; done) | (subst e_r_11 e_r_15 e_pl_16 e_sp_17 e_be_18; rfl) | (subst e_r_11 e_r_15 e_pl_16 e_sp_17 e_be_18; simp [lX0_last_19, if_neg c_13]; done))
  refine u_lv [(0, .ref zf), (1, .ref zb), (3, .int r_6), (4, .int 0)] [2, 3, 1, 0] rfl ?_
  exact hL8 60 r_6 0 pl_1 sp_2 be_3 (by omega) rfl
theorem ctX0_last (l : Launch) (g : Gl) (zf : Nat) (za3 : Nat) (zp3 : Nat) (zq3 : Nat) (zb : Nat) (zd : Nat) (za : Nat) (zp : Nat) (zq : Nat) (rs : Int32) (rb : Nat) (ou : Int32) (ol : Int32) (pl3 : Nat → Int32) (sp3 : Nat → Int32) (be3 : Int32) (ti3 : Int32) (dr : Nat → Int32) (pz : Int32) (sl : Int32) (tp : Nat) (pl : Nat → Int32) (sp : Nat → Int32) (be : Int32) (ti : Int32) : CtI l g yX0_last cX0_last 5 (some .int) 4 [.ref zf, .ref zb, .ref za] (fl [wFut zf za3 rs rb ou ol, wMom g za3 zp3 zq3 pl3 sp3 be3 ti3, wTol g zb zd dr pz sl tp, wMom g za zp zq pl sp be ti]) ((fX0_last pl3 sp3 dr pz sl pl sp be ti).1) (fl [wFut zf za3 rs rb ou ol, wMom g za3 zp3 zq3 ((fX0_last pl3 sp3 dr pz sl pl sp be ti).2.1) ((fX0_last pl3 sp3 dr pz sl pl sp be ti).2.2.1) ((fX0_last pl3 sp3 dr pz sl pl sp be ti).2.2.2.1) ((fX0_last pl3 sp3 dr pz sl pl sp be ti).2.2.2.2), wTol g zb zd dr pz sl tp, wMom g za zp zq pl sp be ti]) := mkI .int rfl rfl [(0, .ref zf), (1, .ref zb), (2, .ref za)] (by decide) (Nat.le_of_ble_eq_true rfl) rfl (fun X C hR => bX0_last C zf za3 zp3 zq3 zb zd za zp zq rs rb ou ol pl3 sp3 be3 ti3 dr pz sl tp pl sp be ti hR)

def lX0_bestWhip_10 (sp : Nat → Int32) (pl : Nat → Int32) (be : Int32) (ti : Int32) (v : Int32) (dr : Nat → Int32) (pz : Int32) (sl : Int32) (m : Nat) : Nat → (Int32) → (Int32) → (Nat) → (Nat → Int32) → (Nat → Int32) → (Int32) → (Int32) → (Int32) × (Nat → Int32) × (Nat → Int32) × (Int32) × (Int32)
  | 0, x5_1, x6_1, x7_1, pl1_1, sp1_1, be1_1, ti1_1 => ((x5_1, pl1_1, sp1_1, be1_1, ti1_1))
  | n + 1, x5_1, x6_1, x7_1, pl1_1, sp1_1, be1_1, ti1_1 => (let r_4 : Int32 := fX2_stands sp x7_1; if r_4 = 0 then (lX0_bestWhip_10 sp pl be ti v dr pz sl m n x5_1 x6_1 (x7_1 + 1) pl1_1 sp1_1 be1_1 ti1_1) else (let pl_7 : Nat → Int32 := (fX2_copy pl1_1 sp1_1 pl sp be ti).1; let sp_8 : Nat → Int32 := (fX2_copy pl1_1 sp1_1 pl sp be ti).2.1; let be_9 : Int32 := (fX2_copy pl1_1 sp1_1 pl sp be ti).2.2.1; let ti_10 : Int32 := (fX2_copy pl1_1 sp1_1 pl sp be ti).2.2.2; let sp_12 : Nat → Int32 := fX2_whipped sp_8 x7_1 v; let r_14 : Int32 := (fX2_goBy pl_7 sp_12 be_9 ti_10 dr pz sl m).1; let pl_15 : Nat → Int32 := (fX2_goBy pl_7 sp_12 be_9 ti_10 dr pz sl m).2.1; let sp_16 : Nat → Int32 := (fX2_goBy pl_7 sp_12 be_9 ti_10 dr pz sl m).2.2.1; let be_17 : Int32 := (fX2_goBy pl_7 sp_12 be_9 ti_10 dr pz sl m).2.2.2; let r_19 : Int32 := fX2_howMany sp_16; if r_19 ≤ x6_1 then (lX0_bestWhip_10 sp pl be ti v dr pz sl m n x5_1 x6_1 (x7_1 + 1) pl_15 sp_16 be_17 ti_10) else (lX0_bestWhip_10 sp pl be ti v dr pz sl m n (nI x7_1) r_19 (x7_1 + 1) pl_15 sp_16 be_17 ti_10)))
def fX0_bestWhip (pl3 : Nat → Int32) (sp3 : Nat → Int32) (be3 : Int32) (ti3 : Int32) (dr : Nat → Int32) (pz : Int32) (sl : Int32) (tp : Nat) (pl : Nat → Int32) (sp : Nat → Int32) (be : Int32) (ti : Int32) (v : Int32) (m : Nat) : (Int32) × (Nat → Int32) × (Nat → Int32) × (Int32) × (Int32) := (let o1 := lX0_bestWhip_10 sp pl be ti v dr pz sl m tp (-9) (-1) 0 pl3 sp3 be3 ti3; let x5_23 : Int32 := o1.1; let pl1_24 : Nat → Int32 := o1.2.1; let sp1_25 : Nat → Int32 := o1.2.2.1; let be1_26 : Int32 := o1.2.2.2.1; let ti1_27 : Int32 := o1.2.2.2.2; (x5_23, pl1_24, sp1_25, be1_26, ti1_27))
set_option maxHeartbeats 4000000 in
set_option maxRecDepth 100000 in
theorem bX0_bestWhip {l : Launch} {g : Gl} {X : Cx} (C : Ok l g X RX0 cX0_bestWhip 8 4) (zf : Nat) (za3 : Nat) (zp3 : Nat) (zq3 : Nat) (zb : Nat) (zd : Nat) (za : Nat) (zp : Nat) (zq : Nat) (rs : Int32) (rb : Nat) (ou : Int32) (ol : Int32) (pl3 : Nat → Int32) (sp3 : Nat → Int32) (be3 : Int32) (ti3 : Int32) (dr : Nat → Int32) (pz : Int32) (sl : Int32) (tp : Nat) (pl : Nat → Int32) (sp : Nat → Int32) (be : Int32) (ti : Int32) (v : Int32) (m : Nat) (q0 : tp ≤ 6) (q1 : m < 2 ^ 31) (hR : RetI g X cX0_bestWhip 8 0 0 ((fX0_bestWhip pl3 sp3 be3 ti3 dr pz sl tp pl sp be ti v m).1) (fl [wFut zf za3 rs rb ou ol, wMom g za3 zp3 zq3 ((fX0_bestWhip pl3 sp3 be3 ti3 dr pz sl tp pl sp be ti v m).2.1) ((fX0_bestWhip pl3 sp3 be3 ti3 dr pz sl tp pl sp be ti v m).2.2.1) ((fX0_bestWhip pl3 sp3 be3 ti3 dr pz sl tp pl sp be ti v m).2.2.2.1) ((fX0_bestWhip pl3 sp3 be3 ti3 dr pz sl tp pl sp be ti v m).2.2.2.2), wTol g zb zd dr pz sl tp, wMom g za zp zq pl sp be ti])) : Vw g X 8 0 0 (fl [wFut zf za3 rs rb ou ol, wMom g za3 zp3 zq3 pl3 sp3 be3 ti3, wTol g zb zd dr pz sl tp, wMom g za zp zq pl sp be ti]) 0 [(0, .ref zf), (1, .ref zb), (2, .ref za), (3, .int v), (4, .int (nI m))] [] := by
  refine r_bipush (pc := 0) (-9) C dX0_bestWhip_0 rfl ?_
  refine r_istore (pc := 2) [(5, .int (-9)), (0, .ref zf), (1, .ref zb), (2, .ref za), (3, .int v), (4, .int (nI m))] C dX0_bestWhip_2 (by decide) rfl ?_
  refine r_iconst (pc := 4) (-1) C dX0_bestWhip_4 rfl ?_
  refine r_istore (pc := 5) [(6, .int (-1)), (5, .int (-9)), (0, .ref zf), (1, .ref zb), (2, .ref za), (3, .int v), (4, .int (nI m))] C dX0_bestWhip_5 (by decide) rfl ?_
  refine r_iconst (pc := 7) 0 C dX0_bestWhip_7 rfl ?_
  refine r_istore (pc := 8) [(7, .int 0), (6, .int (-1)), (5, .int (-9)), (0, .ref zf), (1, .ref zb), (2, .ref za), (3, .int v), (4, .int (nI m))] C dX0_bestWhip_8 (by decide) rfl ?_
  have hX1 : ∀ (x5_23 : Int32) (pl1_24 : Nat → Int32) (sp1_25 : Nat → Int32) (be1_26 : Int32) (ti1_27 : Int32) , (x5_23 = (lX0_bestWhip_10 sp pl be ti v dr pz sl m tp (-9) (-1) 0 pl3 sp3 be3 ti3).1) → (pl1_24 = (lX0_bestWhip_10 sp pl be ti v dr pz sl m tp (-9) (-1) 0 pl3 sp3 be3 ti3).2.1) → (sp1_25 = (lX0_bestWhip_10 sp pl be ti v dr pz sl m tp (-9) (-1) 0 pl3 sp3 be3 ti3).2.2.1) → (be1_26 = (lX0_bestWhip_10 sp pl be ti v dr pz sl m tp (-9) (-1) 0 pl3 sp3 be3 ti3).2.2.2.1) → (ti1_27 = (lX0_bestWhip_10 sp pl be ti v dr pz sl m tp (-9) (-1) 0 pl3 sp3 be3 ti3).2.2.2.2) → Vw g X 8 0 0 (fl [wFut zf za3 rs rb ou ol, wMom g za3 zp3 zq3 pl1_24 sp1_25 be1_26 ti1_27, wTol g zb zd dr pz sl tp, wMom g za zp zq pl sp be ti]) 91 [(5, .int x5_23)] [] := by
    intro x5_23 pl1_24 sp1_25 be1_26 ti1_27 e_x5_23 e_pl1_24 e_sp1_25 e_be1_26 e_ti1_27 
    refine r_iload (pc := 91) C dX0_bestWhip_91 0 rfl ?_
    have hf : fX0_bestWhip pl3 sp3 be3 ti3 dr pz sl tp pl sp be ti v m = (x5_23, pl1_24, sp1_25, be1_26, ti1_27) := by first | (simp only [fX0_bestWhip, ← e_x5_23, ← e_pl1_24, ← e_sp1_25, ← e_be1_26, ← e_ti1_27]; done) | (subst e_x5_23 e_pl1_24 e_sp1_25 e_be1_26 e_ti1_27; rfl) | (subst e_x5_23 e_pl1_24 e_sp1_25 e_be1_26 e_ti1_27; simp only [fX0_bestWhip]; done)
    rw [hf] at hR
    exact hR _ _ dX0_bestWhip_93
  have hL1 : ∀ (n : Nat) (x5_1 : Int32) (x6_1 : Int32) (x7_1 : Nat) (pl1_1 : Nat → Int32) (sp1_1 : Nat → Int32) (be1_1 : Int32) (ti1_1 : Int32) , (x7_1 + n = tp) → lX0_bestWhip_10 sp pl be ti v dr pz sl m n x5_1 x6_1 x7_1 pl1_1 sp1_1 be1_1 ti1_1 = lX0_bestWhip_10 sp pl be ti v dr pz sl m tp (-9) (-1) 0 pl3 sp3 be3 ti3 → Vw g X 8 0 0 (fl [wFut zf za3 rs rb ou ol, wMom g za3 zp3 zq3 pl1_1 sp1_1 be1_1 ti1_1, wTol g zb zd dr pz sl tp, wMom g za zp zq pl sp be ti]) 10 [(0, .ref zf), (1, .ref zb), (2, .ref za), (3, .int v), (4, .int (nI m)), (5, .int x5_1), (6, .int x6_1), (7, .int (nI x7_1))] [] := by
    intro n
    induction n with
    | zero =>
      intro x5_1 x6_1 x7_1 pl1_1 sp1_1 be1_1 ti1_1 hr1 hV1
      refine r_iload (pc := 10) C dX0_bestWhip_10 7 rfl ?_
      refine r_aload_n (pc := 12) C dX0_bestWhip_12 1 rfl ?_
      refine r_get (pc := 13) C fl_X0_50 dX0_bestWhip_13 4 rfl rfl ?_
      refine r_icmpgeN (pc := 16) x7_1 tp 91 C dX0_bestWhip_16 (by decide) rfl rfl (by omega) (by omega) (fun _ => ?_) (fun c_2 => absurd (by omega) c_2)
      refine u_lv [(5, .int x5_1)] [5] rfl ?_
      exact hX1 _ _ _ _ _ (by rw [← hV1]; first | rfl | (simp only [lX0_bestWhip_10]; done) | (simp [lX0_bestWhip_10]; done)) (by rw [← hV1]; first | rfl | (simp only [lX0_bestWhip_10]; done) | (simp [lX0_bestWhip_10]; done)) (by rw [← hV1]; first | rfl | (simp only [lX0_bestWhip_10]; done) | (simp [lX0_bestWhip_10]; done)) (by rw [← hV1]; first | rfl | (simp only [lX0_bestWhip_10]; done) | (simp [lX0_bestWhip_10]; done)) (by rw [← hV1]; first | rfl | (simp only [lX0_bestWhip_10]; done) | (simp [lX0_bestWhip_10]; done))
    | succ n ih =>
      intro x5_1 x6_1 x7_1 pl1_1 sp1_1 be1_1 ti1_1 hr1 hV1
      refine r_iload (pc := 10) C dX0_bestWhip_10 7 rfl ?_
      refine r_aload_n (pc := 12) C dX0_bestWhip_12 1 rfl ?_
      refine r_get (pc := 13) C fl_X0_50 dX0_bestWhip_13 4 rfl rfl ?_
      refine r_icmpgeN (pc := 16) x7_1 tp 91 C dX0_bestWhip_16 (by decide) rfl rfl (by omega) (by omega) (fun c_3 => absurd c_3 (by omega)) (fun _ => ?_)
      refine r_aload_n (pc := 19) C dX0_bestWhip_19 2 rfl ?_
      refine r_iload (pc := 20) C dX0_bestWhip_20 7 rfl ?_
      obtain ⟨r_4, e_r_4⟩ : ∃ z : Int32, z = fX2_stands sp x7_1 := ⟨_, rfl⟩
      have K_5 := ctX2_stands l g za zp zq pl sp be ti x7_1 (by omega)
      rw [← e_r_4] at K_5
      refine w_pI (pc := 22) C mv_X0_43 K_5 dX0_bestWhip_22 (by decide) [3] rfl (by decide) 6 rfl rfl (Nat.le_of_ble_eq_true rfl) ⟨Nat.zero_le _, Nat.zero_le _⟩ ?_
      refine r_ifne (pc := 25) 31 C dX0_bestWhip_25 (by decide) (fun c_6 => ?_) (fun c_6 => ?_)
      · refine r_aload_n (pc := 31) C dX0_bestWhip_31 0 rfl ?_
        refine r_get (pc := 32) C fl_X0_12 dX0_bestWhip_32 0 rfl rfl ?_
        refine r_aload_n (pc := 35) C dX0_bestWhip_35 2 rfl ?_
        obtain ⟨pl_7, e_pl_7⟩ : ∃ z : Nat → Int32, z = (fX2_copy pl1_1 sp1_1 pl sp be ti).1 := ⟨_, rfl⟩
        obtain ⟨sp_8, e_sp_8⟩ : ∃ z : Nat → Int32, z = (fX2_copy pl1_1 sp1_1 pl sp be ti).2.1 := ⟨_, rfl⟩
        obtain ⟨be_9, e_be_9⟩ : ∃ z : Int32, z = (fX2_copy pl1_1 sp1_1 pl sp be ti).2.2.1 := ⟨_, rfl⟩
        obtain ⟨ti_10, e_ti_10⟩ : ∃ z : Int32, z = (fX2_copy pl1_1 sp1_1 pl sp be ti).2.2.2 := ⟨_, rfl⟩
        have K_11 := ctX2_copy l g za3 zp3 zq3 za zp zq pl1_1 sp1_1 be1_1 ti1_1 pl sp be ti  
        rw [← e_pl_7, ← e_sp_8, ← e_be_9, ← e_ti_10] at K_11
        refine w_cV (pc := 36) [wFut zf za3 rs rb ou ol, wMom g za3 zp3 zq3 pl_7 sp_8 be_9 ti_10, wTol g zb zd dr pz sl tp, wMom g za zp zq pl sp be ti] C mv_X0_31 K_11 dX0_bestWhip_36 (by decide) [1, 3] rfl (by decide) (by simp only [List.map_cons, List.map_nil, adMom]) rfl 1 rfl rfl (Nat.le_of_ble_eq_true rfl) ⟨Nat.zero_le _, Nat.zero_le _⟩ ?_
        refine r_aload_n (pc := 39) C dX0_bestWhip_39 0 rfl ?_
        refine r_get (pc := 40) C fl_X0_12 dX0_bestWhip_40 0 rfl rfl ?_
        refine r_iload (pc := 43) C dX0_bestWhip_43 7 rfl ?_
        refine r_iload_n (pc := 45) C dX0_bestWhip_45 3 rfl ?_
        obtain ⟨sp_12, e_sp_12⟩ : ∃ z : Nat → Int32, z = fX2_whipped sp_8 x7_1 v := ⟨_, rfl⟩
        have K_13 := ctX2_whipped l g za3 zp3 zq3 pl_7 sp_8 be_9 ti_10 x7_1 v (by omega)
        rw [← e_sp_12] at K_13
        refine w_cV (pc := 46) [wFut zf za3 rs rb ou ol, wMom g za3 zp3 zq3 pl_7 sp_12 be_9 ti_10, wTol g zb zd dr pz sl tp, wMom g za zp zq pl sp be ti] C mv_X0_55 K_13 dX0_bestWhip_46 (by decide) [1] rfl (by decide) (by simp only [List.map_cons, List.map_nil, adMom]) rfl 1 rfl rfl (Nat.le_of_ble_eq_true rfl) ⟨Nat.zero_le _, Nat.zero_le _⟩ ?_
        refine r_aload_n (pc := 49) C dX0_bestWhip_49 0 rfl ?_
        refine r_get (pc := 50) C fl_X0_12 dX0_bestWhip_50 0 rfl rfl ?_
        refine r_aload_n (pc := 53) C dX0_bestWhip_53 1 rfl ?_
        refine r_iload (pc := 54) C dX0_bestWhip_54 4 rfl ?_
        obtain ⟨r_14, e_r_14⟩ : ∃ z : Int32, z = (fX2_goBy pl_7 sp_12 be_9 ti_10 dr pz sl m).1 := ⟨_, rfl⟩
        obtain ⟨pl_15, e_pl_15⟩ : ∃ z : Nat → Int32, z = (fX2_goBy pl_7 sp_12 be_9 ti_10 dr pz sl m).2.1 := ⟨_, rfl⟩
        obtain ⟨sp_16, e_sp_16⟩ : ∃ z : Nat → Int32, z = (fX2_goBy pl_7 sp_12 be_9 ti_10 dr pz sl m).2.2.1 := ⟨_, rfl⟩
        obtain ⟨be_17, e_be_17⟩ : ∃ z : Int32, z = (fX2_goBy pl_7 sp_12 be_9 ti_10 dr pz sl m).2.2.2 := ⟨_, rfl⟩
        have K_18 := ctX2_goBy l g za3 zp3 zq3 zb zd pl_7 sp_12 be_9 ti_10 dr pz sl tp m (by omega)
        rw [← e_r_14, ← e_pl_15, ← e_sp_16, ← e_be_17] at K_18
        refine w_cI (pc := 56) [wFut zf za3 rs rb ou ol, wMom g za3 zp3 zq3 pl_15 sp_16 be_17 ti_10, wTol g zb zd dr pz sl tp, wMom g za zp zq pl sp be ti] C mv_X0_35 K_18 dX0_bestWhip_56 (by decide) [1, 2] rfl (by decide) (by simp only [List.map_cons, List.map_nil, adMom, adTol]) rfl 1 rfl rfl (Nat.le_of_ble_eq_true rfl) ⟨Nat.zero_le _, Nat.zero_le _⟩ ?_
        refine r_pop (pc := 59) C dX0_bestWhip_59 rfl ?_
        refine r_aload_n (pc := 60) C dX0_bestWhip_60 0 rfl ?_
        refine r_get (pc := 61) C fl_X0_12 dX0_bestWhip_61 0 rfl rfl ?_
        obtain ⟨r_19, e_r_19⟩ : ∃ z : Int32, z = fX2_howMany sp_16 := ⟨_, rfl⟩
        have K_20 := ctX2_howMany l g za3 zp3 zq3 pl_15 sp_16 be_17 ti_10  
        rw [← e_r_19] at K_20
        refine w_pI (pc := 64) C mv_X0_59 K_20 dX0_bestWhip_64 (by decide) [1] rfl (by decide) 1 rfl rfl (Nat.le_of_ble_eq_true rfl) ⟨Nat.zero_le _, Nat.zero_le _⟩ ?_
        refine r_iload (pc := 67) C dX0_bestWhip_67 6 rfl ?_
        refine r_icmple (pc := 69) 85 C dX0_bestWhip_69 (by decide) (fun c_21 => ?_) (fun c_21 => ?_)
        · refine r_iinc (pc := 85) (nI (x7_1 + 1)) [(7, .int (nI (x7_1 + 1))), (0, .ref zf), (1, .ref zb), (2, .ref za), (3, .int v), (4, .int (nI m)), (5, .int x5_1), (6, .int x6_1)] C dX0_bestWhip_85 7 rfl (inc1 _) (by decide) rfl ?_
          refine r_goto (pc := 88) 10 C dX0_bestWhip_88 (by decide) ?_
          refine u_lv [(0, .ref zf), (1, .ref zb), (2, .ref za), (3, .int v), (4, .int (nI m)), (5, .int x5_1), (6, .int x6_1), (7, .int (nI (x7_1 + 1)))] [1, 2, 3, 4, 5, 6, 7, 0] rfl ?_
          exact ih x5_1 x6_1 (x7_1 + 1) pl_15 sp_16 be_17 ti_10 (by omega) (by rw [← hV1]; first | (simp only [lX0_bestWhip_10, ← e_r_4, ← e_pl_7, ← e_sp_8, ← e_be_9, ← e_ti_10, ← e_sp_12, ← e_r_14, ← e_pl_15, ← e_sp_16, ← e_be_17, ← e_r_19, if_neg c_6, if_pos c_21]; done) | (subst e_r_4 e_pl_7 e_sp_8 e_be_9 e_ti_10 e_sp_12 e_r_14 e_pl_15 e_sp_16 e_be_17 e_r_19; simp only [lX0_bestWhip_10, if_neg c_6, if_pos c_21]; done) | (subst e_r_4 e_pl_7 e_sp_8 e_be_9 e_ti_10 e_sp_12 e_r_14 e_pl_15 e_sp_16 e_be_17 e_r_19; rfl) | (subst e_r_4 e_pl_7 e_sp_8 e_be_9 e_ti_10 e_sp_12 e_r_14 e_pl_15 e_sp_16 e_be_17 e_r_19; simp [lX0_bestWhip_10, if_neg c_6, if_pos c_21]; done))
        · refine r_aload_n (pc := 72) C dX0_bestWhip_72 0 rfl ?_
          refine r_get (pc := 73) C fl_X0_12 dX0_bestWhip_73 0 rfl rfl ?_
          have K_22 := ctX2_howMany l g za3 zp3 zq3 pl_15 sp_16 be_17 ti_10  
          rw [← e_r_19] at K_22
          refine w_pI (pc := 76) C mv_X0_59 K_22 dX0_bestWhip_76 (by decide) [1] rfl (by decide) 1 rfl rfl (Nat.le_of_ble_eq_true rfl) ⟨Nat.zero_le _, Nat.zero_le _⟩ ?_
          refine r_istore (pc := 79) [(6, .int r_19), (0, .ref zf), (1, .ref zb), (2, .ref za), (3, .int v), (4, .int (nI m)), (5, .int x5_1), (7, .int (nI x7_1))] C dX0_bestWhip_79 (by decide) rfl ?_
          refine r_iload (pc := 81) C dX0_bestWhip_81 7 rfl ?_
          refine r_istore (pc := 83) [(5, .int (nI x7_1)), (6, .int r_19), (0, .ref zf), (1, .ref zb), (2, .ref za), (3, .int v), (4, .int (nI m)), (7, .int (nI x7_1))] C dX0_bestWhip_83 (by decide) rfl ?_
          refine r_iinc (pc := 85) (nI (x7_1 + 1)) [(7, .int (nI (x7_1 + 1))), (5, .int (nI x7_1)), (6, .int r_19), (0, .ref zf), (1, .ref zb), (2, .ref za), (3, .int v), (4, .int (nI m))] C dX0_bestWhip_85 7 rfl (inc1 _) (by decide) rfl ?_
          refine r_goto (pc := 88) 10 C dX0_bestWhip_88 (by decide) ?_
          refine u_lv [(0, .ref zf), (1, .ref zb), (2, .ref za), (3, .int v), (4, .int (nI m)), (5, .int (nI x7_1)), (6, .int r_19), (7, .int (nI (x7_1 + 1)))] [3, 4, 5, 6, 7, 1, 2, 0] rfl ?_
          exact ih (nI x7_1) r_19 (x7_1 + 1) pl_15 sp_16 be_17 ti_10 (by omega) (by rw [← hV1]; first | (simp only [lX0_bestWhip_10, ← e_r_4, ← e_pl_7, ← e_sp_8, ← e_be_9, ← e_ti_10, ← e_sp_12, ← e_r_14, ← e_pl_15, ← e_sp_16, ← e_be_17, ← e_r_19, if_neg c_6, if_neg c_21]; done) | (subst e_r_4 e_pl_7 e_sp_8 e_be_9 e_ti_10 e_sp_12 e_r_14 e_pl_15 e_sp_16 e_be_17 e_r_19; simp only [lX0_bestWhip_10, if_neg c_6, if_neg c_21]; done) | (subst e_r_4 e_pl_7 e_sp_8 e_be_9 e_ti_10 e_sp_12 e_r_14 e_pl_15 e_sp_16 e_be_17 e_r_19; rfl) | (subst e_r_4 e_pl_7 e_sp_8 e_be_9 e_ti_10 e_sp_12 e_r_14 e_pl_15 e_sp_16 e_be_17 e_r_19; simp [lX0_bestWhip_10, if_neg c_6, if_neg c_21]; done))
      · refine r_goto (pc := 28) 85 C dX0_bestWhip_28 (by decide) ?_
        refine r_iinc (pc := 85) (nI (x7_1 + 1)) [(7, .int (nI (x7_1 + 1))), (0, .ref zf), (1, .ref zb), (2, .ref za), (3, .int v), (4, .int (nI m)), (5, .int x5_1), (6, .int x6_1)] C dX0_bestWhip_85 7 rfl (inc1 _) (by decide) rfl ?_
        refine r_goto (pc := 88) 10 C dX0_bestWhip_88 (by decide) ?_
        refine u_lv [(0, .ref zf), (1, .ref zb), (2, .ref za), (3, .int v), (4, .int (nI m)), (5, .int x5_1), (6, .int x6_1), (7, .int (nI (x7_1 + 1)))] [1, 2, 3, 4, 5, 6, 7, 0] rfl ?_
        exact ih x5_1 x6_1 (x7_1 + 1) pl1_1 sp1_1 be1_1 ti1_1 (by omega) (by rw [← hV1]; first | (simp only [lX0_bestWhip_10, ← e_r_4, if_pos c_6]; done) | (subst e_r_4; simp only [lX0_bestWhip_10, if_pos c_6]; done) | (subst e_r_4; rfl) | (subst e_r_4; simp [lX0_bestWhip_10, if_pos c_6]; done))
  refine u_lv [(0, .ref zf), (1, .ref zb), (2, .ref za), (3, .int v), (4, .int (nI m)), (5, .int (-9)), (6, .int (-1)), (7, .int 0)] [3, 4, 5, 6, 7, 2, 1, 0] rfl ?_
  exact hL1 tp (-9) (-1) 0 pl3 sp3 be3 ti3 (by omega) rfl
theorem ctX0_bestWhip (l : Launch) (g : Gl) (zf : Nat) (za3 : Nat) (zp3 : Nat) (zq3 : Nat) (zb : Nat) (zd : Nat) (za : Nat) (zp : Nat) (zq : Nat) (rs : Int32) (rb : Nat) (ou : Int32) (ol : Int32) (pl3 : Nat → Int32) (sp3 : Nat → Int32) (be3 : Int32) (ti3 : Int32) (dr : Nat → Int32) (pz : Int32) (sl : Int32) (tp : Nat) (pl : Nat → Int32) (sp : Nat → Int32) (be : Int32) (ti : Int32) (v : Int32) (m : Nat) (q0 : tp ≤ 6) (q1 : m < 2 ^ 31) : CtI l g yX0_bestWhip cX0_bestWhip 8 (some .int) 4 [.ref zf, .ref zb, .ref za, .int v, .int (nI m)] (fl [wFut zf za3 rs rb ou ol, wMom g za3 zp3 zq3 pl3 sp3 be3 ti3, wTol g zb zd dr pz sl tp, wMom g za zp zq pl sp be ti]) ((fX0_bestWhip pl3 sp3 be3 ti3 dr pz sl tp pl sp be ti v m).1) (fl [wFut zf za3 rs rb ou ol, wMom g za3 zp3 zq3 ((fX0_bestWhip pl3 sp3 be3 ti3 dr pz sl tp pl sp be ti v m).2.1) ((fX0_bestWhip pl3 sp3 be3 ti3 dr pz sl tp pl sp be ti v m).2.2.1) ((fX0_bestWhip pl3 sp3 be3 ti3 dr pz sl tp pl sp be ti v m).2.2.2.1) ((fX0_bestWhip pl3 sp3 be3 ti3 dr pz sl tp pl sp be ti v m).2.2.2.2), wTol g zb zd dr pz sl tp, wMom g za zp zq pl sp be ti]) := mkI .int rfl rfl [(0, .ref zf), (1, .ref zb), (2, .ref za), (3, .int v), (4, .int (nI m))] (by decide) (Nat.le_of_ble_eq_true rfl) rfl (fun X C hR => bX0_bestWhip C zf za3 zp3 zq3 zb zd za zp zq rs rb ou ol pl3 sp3 be3 ti3 dr pz sl tp pl sp be ti v m q0 q1 hR)

def lX0_tiltOf_8  : Nat → (Nat) → (Nat) → (Nat)
  | 0, x4_1, x5_1 => (x4_1)
  | n + 1, x4_1, x5_1 => (lX0_tiltOf_8 n (x4_1 / 3) (x5_1 - 1))
def fX0_tiltOf (w : Nat) (m : Nat) (t : Nat) : (Int32) := (let x4_4 : Nat := lX0_tiltOf_8 (m - 1 - t) w (m - 1); (nI (x4_4 % 3)))
set_option maxHeartbeats 4000000 in
set_option maxRecDepth 100000 in
theorem bX0_tiltOf {l : Launch} {g : Gl} {X : Cx} (C : Ok l g X RX0 cX0_tiltOf 6 0) (zf : Nat) (za3 : Nat) (rs : Int32) (rb : Nat) (ou : Int32) (ol : Int32) (w : Nat) (m : Nat) (t : Nat) (q0 : w < 2 ^ 31) (q1 : t < m) (q2 : m < 2 ^ 31) (hR : RetI g X cX0_tiltOf 6 0 0 (fX0_tiltOf w m t) (fl [wFut zf za3 rs rb ou ol])) : Vw g X 6 0 0 (fl [wFut zf za3 rs rb ou ol]) 0 [(0, .ref zf), (1, .int (nI w)), (2, .int (nI m)), (3, .int (nI t))] [] := by
  refine r_iload_n (pc := 0) C dX0_tiltOf_0 1 rfl ?_
  refine r_istore (pc := 1) [(4, .int (nI w)), (0, .ref zf), (1, .int (nI w)), (2, .int (nI m)), (3, .int (nI t))] C dX0_tiltOf_1 (by decide) rfl ?_
  refine r_iload_n (pc := 3) C dX0_tiltOf_3 3 rfl ?_
  refine r_iconst (pc := 4) 1 C dX0_tiltOf_4 rfl ?_
  refine r_isubN (pc := 5) m 1 C dX0_tiltOf_5 rfl rfl (by omega) ?_
  refine r_istore (pc := 6) [(5, .int (nI (m - 1))), (4, .int (nI w)), (0, .ref zf), (1, .int (nI w)), (2, .int (nI m)), (3, .int (nI t))] C dX0_tiltOf_6 (by decide) rfl ?_
  have hX1 : ∀ (x4_4 : Nat) , (x4_4 = lX0_tiltOf_8 (m - 1 - t) w (m - 1)) → (x4_4 < 2 ^ 31) → Vw g X 6 0 0 (fl [wFut zf za3 rs rb ou ol]) 26 [(4, .int (nI x4_4))] [] := by
    intro x4_4 e_x4_4 hp1_0
    refine r_iload (pc := 26) C dX0_tiltOf_26 0 rfl ?_
    refine r_iconst (pc := 28) 3 C dX0_tiltOf_28 rfl ?_
    refine r_iremN (pc := 29) x4_4 3 C dX0_tiltOf_29 rfl rfl (by omega) (by omega) (by omega) ?_
    have hf : fX0_tiltOf w m t = (nI (x4_4 % 3)) := by first | (simp only [fX0_tiltOf, ← e_x4_4]; done) | (subst e_x4_4; rfl) | (subst e_x4_4; simp only [fX0_tiltOf]; done)
    rw [hf] at hR
    exact hR _ _ dX0_tiltOf_30
  have hL1 : ∀ (n : Nat) (x4_1 : Nat) (x5_1 : Nat) , (x5_1 = t + n) → (x4_1 < 2 ^ 31) → (x5_1 < 2 ^ 31) → lX0_tiltOf_8 n x4_1 x5_1 = lX0_tiltOf_8 (m - 1 - t) w (m - 1) → Vw g X 6 0 0 (fl [wFut zf za3 rs rb ou ol]) 8 [(3, .int (nI t)), (4, .int (nI x4_1)), (5, .int (nI x5_1))] [] := by
    intro n
    induction n with
    | zero =>
      intro x4_1 x5_1 hr1 hi1_0 hi1_1 hV1
      refine r_iload (pc := 8) C dX0_tiltOf_8 2 rfl ?_
      refine r_iload_n (pc := 10) C dX0_tiltOf_10 0 rfl ?_
      refine r_icmpleN (pc := 11) x5_1 t 26 C dX0_tiltOf_11 (by decide) rfl rfl (by omega) (by omega) (fun _ => ?_) (fun c_2 => absurd (by omega) c_2)
      refine u_lv [(4, .int (nI x4_1))] [1] rfl ?_
      exact hX1 _ (by rw [← hV1]; first | rfl | (simp only [lX0_tiltOf_8]; done) | (simp [lX0_tiltOf_8]; done)) (by omega)
    | succ n ih =>
      intro x4_1 x5_1 hr1 hi1_0 hi1_1 hV1
      refine r_iload (pc := 8) C dX0_tiltOf_8 2 rfl ?_
      refine r_iload_n (pc := 10) C dX0_tiltOf_10 0 rfl ?_
      refine r_icmpleN (pc := 11) x5_1 t 26 C dX0_tiltOf_11 (by decide) rfl rfl (by omega) (by omega) (fun c_3 => absurd c_3 (by omega)) (fun _ => ?_)
      refine r_iload (pc := 14) C dX0_tiltOf_14 1 rfl ?_
      refine r_iconst (pc := 16) 3 C dX0_tiltOf_16 rfl ?_
      refine r_idivN (pc := 17) x4_1 3 C dX0_tiltOf_17 rfl rfl (by omega) (by omega) (by omega) ?_
      refine r_istore (pc := 18) [(4, .int (nI (x4_1 / 3))), (3, .int (nI t)), (5, .int (nI x5_1))] C dX0_tiltOf_18 (by decide) rfl ?_
      refine r_iinc (pc := 20) (nI (x5_1 - 1)) [(5, .int (nI (x5_1 - 1))), (4, .int (nI (x4_1 / 3))), (3, .int (nI t))] C dX0_tiltOf_20 2 rfl (dec1 (by omega)) (by decide) rfl ?_
      refine r_goto (pc := 23) 8 C dX0_tiltOf_23 (by decide) ?_
      refine u_lv [(3, .int (nI t)), (4, .int (nI (x4_1 / 3))), (5, .int (nI (x5_1 - 1)))] [2, 1, 0] rfl ?_
      exact ih (x4_1 / 3) (x5_1 - 1) (by omega) (by omega) (by omega) (by rw [← hV1]; first | rfl | (simp only [lX0_tiltOf_8]; done) | (simp [lX0_tiltOf_8]; done))
  refine u_lv [(3, .int (nI t)), (4, .int (nI w)), (5, .int (nI (m - 1)))] [5, 1, 0] rfl ?_
  exact hL1 (m - 1 - t) w (m - 1) (by omega) (by omega) (by omega) rfl
theorem ctX0_tiltOf (l : Launch) (g : Gl) (zf : Nat) (za3 : Nat) (rs : Int32) (rb : Nat) (ou : Int32) (ol : Int32) (w : Nat) (m : Nat) (t : Nat) (q0 : w < 2 ^ 31) (q1 : t < m) (q2 : m < 2 ^ 31) : CtI l g yX0_tiltOf cX0_tiltOf 6 (some .int) 0 [.ref zf, .int (nI w), .int (nI m), .int (nI t)] (fl [wFut zf za3 rs rb ou ol]) (fX0_tiltOf w m t) (fl [wFut zf za3 rs rb ou ol]) := mkI .int rfl rfl [(0, .ref zf), (1, .int (nI w)), (2, .int (nI m)), (3, .int (nI t))] (by decide) (Nat.le_of_ble_eq_true rfl) rfl (fun X C hR => bX0_tiltOf C zf za3 rs rb ou ol w m t q0 q1 q2 hR)

def lX0_findRow_38 (x5_3 : Nat) (m : Nat) (dr : Nat → Int32) (pz : Int32) (sl : Int32) : Nat → (Nat) → (Nat → Int32) → (Nat → Int32) → (Int32) → (Int32) → (Nat → Int32) × (Nat → Int32) × (Int32) × (Int32)
  | 0, x6_11, pl1_11, sp1_11, be1_11, ti1_11 => ((pl1_11, sp1_11, be1_11, ti1_11))
  | n + 1, x6_11, pl1_11, sp1_11, be1_11, ti1_11 => (let r_14 : Int32 := fX0_tiltOf x5_3 m x6_11; let r_16 : Int32 := (fX2_goBy pl1_11 sp1_11 be1_11 r_14 dr pz sl 1).1; let pl_17 : Nat → Int32 := (fX2_goBy pl1_11 sp1_11 be1_11 r_14 dr pz sl 1).2.1; let sp_18 : Nat → Int32 := (fX2_goBy pl1_11 sp1_11 be1_11 r_14 dr pz sl 1).2.2.1; let be_19 : Int32 := (fX2_goBy pl1_11 sp1_11 be1_11 r_14 dr pz sl 1).2.2.2; lX0_findRow_38 x5_3 m dr pz sl n (x6_11 + 1) pl_17 sp_18 be_19 r_14)
def lX0_findRow_20 (pl : Nat → Int32) (sp : Nat → Int32) (be : Int32) (ti : Int32) (m : Nat) (dr : Nat → Int32) (pz : Int32) (sl : Int32) : Nat → (Nat) → (Int32) → (Nat) → (Nat → Int32) → (Nat → Int32) → (Int32) → (Int32) → (Int32) × (Nat) × (Nat → Int32) × (Nat → Int32) × (Int32) × (Int32)
  | 0, x5_3, rs0_3, rb0_3, pl1_3, sp1_3, be1_3, ti1_3 => ((rs0_3, rb0_3, pl1_3, sp1_3, be1_3, ti1_3))
  | n + 1, x5_3, rs0_3, rb0_3, pl1_3, sp1_3, be1_3, ti1_3 => (let pl_6 : Nat → Int32 := (fX2_copy pl1_3 sp1_3 pl sp be ti).1; let sp_7 : Nat → Int32 := (fX2_copy pl1_3 sp1_3 pl sp be ti).2.1; let be_8 : Int32 := (fX2_copy pl1_3 sp1_3 pl sp be ti).2.2.1; let ti_9 : Int32 := (fX2_copy pl1_3 sp1_3 pl sp be ti).2.2.2; let o11 := lX0_findRow_38 x5_3 m dr pz sl m 0 pl_6 sp_7 be_8 ti_9; let pl1_21 : Nat → Int32 := o11.1; let sp1_22 : Nat → Int32 := o11.2.1; let be1_23 : Int32 := o11.2.2.1; let ti1_24 : Int32 := o11.2.2.2; let r_25 : Int32 := fX2_howMany sp1_22; if r_25 ≤ rs0_3 then (lX0_findRow_20 pl sp be ti m dr pz sl n (x5_3 + 1) rs0_3 rb0_3 pl1_21 sp1_22 be1_23 ti1_24) else (lX0_findRow_20 pl sp be ti m dr pz sl n (x5_3 + 1) r_25 x5_3 pl1_21 sp1_22 be1_23 ti1_24))
def fX0_findRow (pl3 : Nat → Int32) (sp3 : Nat → Int32) (be3 : Int32) (ti3 : Int32) (dr : Nat → Int32) (pz : Int32) (sl : Int32) (pl : Nat → Int32) (sp : Nat → Int32) (be : Int32) (ti : Int32) (m : Nat) : (Int32) × (Nat) × (Nat → Int32) × (Nat → Int32) × (Int32) × (Int32) := (let r_1 : Int32 := fX8_power 3 (nI m); let o3 := lX0_findRow_20 pl sp be ti m dr pz sl r_1.toNatClampNeg 0 (-1) 0 pl3 sp3 be3 ti3; let rs0_29 : Int32 := o3.1; let rb0_30 : Nat := o3.2.1; let pl1_31 : Nat → Int32 := o3.2.2.1; let sp1_32 : Nat → Int32 := o3.2.2.2.1; let be1_33 : Int32 := o3.2.2.2.2.1; let ti1_34 : Int32 := o3.2.2.2.2.2; (rs0_29, rb0_30, pl1_31, sp1_32, be1_33, ti1_34))
set_option maxHeartbeats 4000000 in
set_option maxRecDepth 100000 in
theorem bX0_findRow {l : Launch} {g : Gl} {X : Cx} (C : Ok l g X RX0 cX0_findRow 7 4) (zf : Nat) (za3 : Nat) (zp3 : Nat) (zq3 : Nat) (zb : Nat) (zd : Nat) (za : Nat) (zp : Nat) (zq : Nat) (rs : Int32) (rb : Nat) (ou : Int32) (ol : Int32) (pl3 : Nat → Int32) (sp3 : Nat → Int32) (be3 : Int32) (ti3 : Int32) (dr : Nat → Int32) (pz : Int32) (sl : Int32) (tp : Nat) (pl : Nat → Int32) (sp : Nat → Int32) (be : Int32) (ti : Int32) (m : Nat) (q0 : m ≤ 5) (hR : RetV g X cX0_findRow 7 0 0 (fl [wFut zf za3 ((fX0_findRow pl3 sp3 be3 ti3 dr pz sl pl sp be ti m).1) ((fX0_findRow pl3 sp3 be3 ti3 dr pz sl pl sp be ti m).2.1) ou ol, wMom g za3 zp3 zq3 ((fX0_findRow pl3 sp3 be3 ti3 dr pz sl pl sp be ti m).2.2.1) ((fX0_findRow pl3 sp3 be3 ti3 dr pz sl pl sp be ti m).2.2.2.1) ((fX0_findRow pl3 sp3 be3 ti3 dr pz sl pl sp be ti m).2.2.2.2.1) ((fX0_findRow pl3 sp3 be3 ti3 dr pz sl pl sp be ti m).2.2.2.2.2), wTol g zb zd dr pz sl tp, wMom g za zp zq pl sp be ti])) : Vw g X 7 0 0 (fl [wFut zf za3 rs rb ou ol, wMom g za3 zp3 zq3 pl3 sp3 be3 ti3, wTol g zb zd dr pz sl tp, wMom g za zp zq pl sp be ti]) 0 [(0, .ref zf), (1, .ref zb), (2, .ref za), (3, .int (nI m))] [] := by
  refine r_aload_n (pc := 0) C dX0_findRow_0 0 rfl ?_
  refine r_iconst (pc := 1) (-1) C dX0_findRow_1 rfl ?_
  refine r_put (pc := 2) (fl [wFut zf za3 (-1) rb ou ol, wMom g za3 zp3 zq3 pl3 sp3 be3 ti3, wTol g zb zd dr pz sl tp, wMom g za zp zq pl sp be ti]) C fp_X0_18 dX0_findRow_2 0 rfl (Nat.le_of_ble_eq_true rfl) rfl rfl rfl ?_
  refine r_aload_n (pc := 5) C dX0_findRow_5 0 rfl ?_
  refine r_iconst (pc := 6) 0 C dX0_findRow_6 rfl ?_
  refine r_put (pc := 7) (fl [wFut zf za3 (-1) 0 ou ol, wMom g za3 zp3 zq3 pl3 sp3 be3 ti3, wTol g zb zd dr pz sl tp, wMom g za zp zq pl sp be ti]) C fp_X0_22 dX0_findRow_7 0 rfl (Nat.le_of_ble_eq_true rfl) rfl rfl rfl ?_
  refine r_iconst (pc := 10) 3 C dX0_findRow_10 rfl ?_
  refine r_iload_n (pc := 11) C dX0_findRow_11 3 rfl ?_
  obtain ⟨r_1, e_r_1⟩ : ∃ z : Int32, z = fX8_power 3 (nI m) := ⟨_, rfl⟩
  have K_2 := ctX8_power l g   3 (nI m) 
  rw [← e_r_1] at K_2
  refine x_pI (pc := 12) C ms_X0_62 K_2 dX0_findRow_12 (by decide) [] rfl (by decide) rfl (Nat.le_of_ble_eq_true rfl) ⟨Nat.zero_le _, Nat.zero_le _⟩ ?_
  refine r_istore (pc := 15) [(4, .int r_1), (0, .ref zf), (1, .ref zb), (2, .ref za), (3, .int (nI m))] C dX0_findRow_15 (by decide) rfl ?_
  refine r_iconst (pc := 17) 0 C dX0_findRow_17 rfl ?_
  refine r_istore (pc := 18) [(5, .int 0), (4, .int r_1), (0, .ref zf), (1, .ref zb), (2, .ref za), (3, .int (nI m))] C dX0_findRow_18 (by decide) rfl ?_
  have hX3 : ∀ (rs0_29 : Int32) (rb0_30 : Nat) (pl1_31 : Nat → Int32) (sp1_32 : Nat → Int32) (be1_33 : Int32) (ti1_34 : Int32) , (rs0_29 = (lX0_findRow_20 pl sp be ti m dr pz sl r_1.toNatClampNeg 0 (-1) 0 pl3 sp3 be3 ti3).1) → (rb0_30 = (lX0_findRow_20 pl sp be ti m dr pz sl r_1.toNatClampNeg 0 (-1) 0 pl3 sp3 be3 ti3).2.1) → (pl1_31 = (lX0_findRow_20 pl sp be ti m dr pz sl r_1.toNatClampNeg 0 (-1) 0 pl3 sp3 be3 ti3).2.2.1) → (sp1_32 = (lX0_findRow_20 pl sp be ti m dr pz sl r_1.toNatClampNeg 0 (-1) 0 pl3 sp3 be3 ti3).2.2.2.1) → (be1_33 = (lX0_findRow_20 pl sp be ti m dr pz sl r_1.toNatClampNeg 0 (-1) 0 pl3 sp3 be3 ti3).2.2.2.2.1) → (ti1_34 = (lX0_findRow_20 pl sp be ti m dr pz sl r_1.toNatClampNeg 0 (-1) 0 pl3 sp3 be3 ti3).2.2.2.2.2) → Vw g X 7 0 0 (fl [wFut zf za3 rs0_29 rb0_30 ou ol, wMom g za3 zp3 zq3 pl1_31 sp1_32 be1_33 ti1_34, wTol g zb zd dr pz sl tp, wMom g za zp zq pl sp be ti]) 113 [] [] := by
    intro rs0_29 rb0_30 pl1_31 sp1_32 be1_33 ti1_34 e_rs0_29 e_rb0_30 e_pl1_31 e_sp1_32 e_be1_33 e_ti1_34 
    have hf : fX0_findRow pl3 sp3 be3 ti3 dr pz sl pl sp be ti m = (rs0_29, rb0_30, pl1_31, sp1_32, be1_33, ti1_34) := by first | (simp only [fX0_findRow, ← e_r_1, ← e_rs0_29, ← e_rb0_30, ← e_pl1_31, ← e_sp1_32, ← e_be1_33, ← e_ti1_34]; done) | (subst e_r_1 e_rs0_29 e_rb0_30 e_pl1_31 e_sp1_32 e_be1_33 e_ti1_34; rfl) | (subst e_r_1 e_rs0_29 e_rb0_30 e_pl1_31 e_sp1_32 e_be1_33 e_ti1_34; simp only [fX0_findRow]; done)
    rw [hf] at hR
    exact hR _ _ dX0_findRow_113
  have hL3 : ∀ (n : Nat) (x5_3 : Nat) (rs0_3 : Int32) (rb0_3 : Nat) (pl1_3 : Nat → Int32) (sp1_3 : Nat → Int32) (be1_3 : Int32) (ti1_3 : Int32) , (x5_3 + n = r_1.toNatClampNeg) → lX0_findRow_20 pl sp be ti m dr pz sl n x5_3 rs0_3 rb0_3 pl1_3 sp1_3 be1_3 ti1_3 = lX0_findRow_20 pl sp be ti m dr pz sl r_1.toNatClampNeg 0 (-1) 0 pl3 sp3 be3 ti3 → Vw g X 7 0 0 (fl [wFut zf za3 rs0_3 rb0_3 ou ol, wMom g za3 zp3 zq3 pl1_3 sp1_3 be1_3 ti1_3, wTol g zb zd dr pz sl tp, wMom g za zp zq pl sp be ti]) 20 [(0, .ref zf), (1, .ref zb), (2, .ref za), (3, .int (nI m)), (4, .int r_1), (5, .int (nI x5_3))] [] := by
    intro n
    induction n with
    | zero =>
      intro x5_3 rs0_3 rb0_3 pl1_3 sp1_3 be1_3 ti1_3 hr3 hV3
      have hclb := clb r_1
      refine r_iload (pc := 20) C dX0_findRow_20 5 rfl ?_
      refine r_iload (pc := 22) C dX0_findRow_22 4 rfl ?_
      refine r_icmpge (pc := 24) 113 C dX0_findRow_24 (by decide) (fun _ => ?_) (fun c_4 => absurd (cl_ge (by omega) (by have := clb r_1; omega)) c_4)
      refine u_lv [] [] rfl ?_
      exact hX3 _ _ _ _ _ _ (by rw [← hV3]; first | rfl | (simp only [lX0_findRow_20]; done) | (simp [lX0_findRow_20]; done)) (by rw [← hV3]; first | rfl | (simp only [lX0_findRow_20]; done) | (simp [lX0_findRow_20]; done)) (by rw [← hV3]; first | rfl | (simp only [lX0_findRow_20]; done) | (simp [lX0_findRow_20]; done)) (by rw [← hV3]; first | rfl | (simp only [lX0_findRow_20]; done) | (simp [lX0_findRow_20]; done)) (by rw [← hV3]; first | rfl | (simp only [lX0_findRow_20]; done) | (simp [lX0_findRow_20]; done)) (by rw [← hV3]; first | rfl | (simp only [lX0_findRow_20]; done) | (simp [lX0_findRow_20]; done))
    | succ n ih =>
      intro x5_3 rs0_3 rb0_3 pl1_3 sp1_3 be1_3 ti1_3 hr3 hV3
      have hclb := clb r_1
      refine r_iload (pc := 20) C dX0_findRow_20 5 rfl ?_
      refine r_iload (pc := 22) C dX0_findRow_22 4 rfl ?_
      refine r_icmpge (pc := 24) 113 C dX0_findRow_24 (by decide) (fun c_5 => absurd c_5 (cl_lt (by omega))) (fun _ => ?_)
      refine r_aload_n (pc := 27) C dX0_findRow_27 0 rfl ?_
      refine r_get (pc := 28) C fl_X0_12 dX0_findRow_28 0 rfl rfl ?_
      refine r_aload_n (pc := 31) C dX0_findRow_31 2 rfl ?_
      obtain ⟨pl_6, e_pl_6⟩ : ∃ z : Nat → Int32, z = (fX2_copy pl1_3 sp1_3 pl sp be ti).1 := ⟨_, rfl⟩
      obtain ⟨sp_7, e_sp_7⟩ : ∃ z : Nat → Int32, z = (fX2_copy pl1_3 sp1_3 pl sp be ti).2.1 := ⟨_, rfl⟩
      obtain ⟨be_8, e_be_8⟩ : ∃ z : Int32, z = (fX2_copy pl1_3 sp1_3 pl sp be ti).2.2.1 := ⟨_, rfl⟩
      obtain ⟨ti_9, e_ti_9⟩ : ∃ z : Int32, z = (fX2_copy pl1_3 sp1_3 pl sp be ti).2.2.2 := ⟨_, rfl⟩
      have K_10 := ctX2_copy l g za3 zp3 zq3 za zp zq pl1_3 sp1_3 be1_3 ti1_3 pl sp be ti  
      rw [← e_pl_6, ← e_sp_7, ← e_be_8, ← e_ti_9] at K_10
      refine w_cV (pc := 32) [wFut zf za3 rs0_3 rb0_3 ou ol, wMom g za3 zp3 zq3 pl_6 sp_7 be_8 ti_9, wTol g zb zd dr pz sl tp, wMom g za zp zq pl sp be ti] C mv_X0_31 K_10 dX0_findRow_32 (by decide) [1, 3] rfl (by decide) (by simp only [List.map_cons, List.map_nil, adMom]) rfl 1 rfl rfl (Nat.le_of_ble_eq_true rfl) ⟨Nat.zero_le _, Nat.zero_le _⟩ ?_
      refine r_iconst (pc := 35) 0 C dX0_findRow_35 rfl ?_
      refine r_istore (pc := 36) [(6, .int 0), (0, .ref zf), (1, .ref zb), (2, .ref za), (3, .int (nI m)), (4, .int r_1), (5, .int (nI x5_3))] C dX0_findRow_36 (by decide) rfl ?_
      have hX11 : ∀ (pl1_21 : Nat → Int32) (sp1_22 : Nat → Int32) (be1_23 : Int32) (ti1_24 : Int32) , (pl1_21 = (lX0_findRow_38 x5_3 m dr pz sl m 0 pl_6 sp_7 be_8 ti_9).1) → (sp1_22 = (lX0_findRow_38 x5_3 m dr pz sl m 0 pl_6 sp_7 be_8 ti_9).2.1) → (be1_23 = (lX0_findRow_38 x5_3 m dr pz sl m 0 pl_6 sp_7 be_8 ti_9).2.2.1) → (ti1_24 = (lX0_findRow_38 x5_3 m dr pz sl m 0 pl_6 sp_7 be_8 ti_9).2.2.2) → Vw g X 7 0 0 (fl [wFut zf za3 rs0_3 rb0_3 ou ol, wMom g za3 zp3 zq3 pl1_21 sp1_22 be1_23 ti1_24, wTol g zb zd dr pz sl tp, wMom g za zp zq pl sp be ti]) 76 [(0, .ref zf), (1, .ref zb), (2, .ref za), (3, .int (nI m)), (4, .int r_1), (5, .int (nI x5_3))] [] := by
        intro pl1_21 sp1_22 be1_23 ti1_24 e_pl1_21 e_sp1_22 e_be1_23 e_ti1_24 
        refine r_aload_n (pc := 76) C dX0_findRow_76 0 rfl ?_
        refine r_get (pc := 77) C fl_X0_12 dX0_findRow_77 0 rfl rfl ?_
        obtain ⟨r_25, e_r_25⟩ : ∃ z : Int32, z = fX2_howMany sp1_22 := ⟨_, rfl⟩
        have K_26 := ctX2_howMany l g za3 zp3 zq3 pl1_21 sp1_22 be1_23 ti1_24  
        rw [← e_r_25] at K_26
        refine w_pI (pc := 80) C mv_X0_59 K_26 dX0_findRow_80 (by decide) [1] rfl (by decide) 1 rfl rfl (Nat.le_of_ble_eq_true rfl) ⟨Nat.zero_le _, Nat.zero_le _⟩ ?_
        refine r_aload_n (pc := 83) C dX0_findRow_83 0 rfl ?_
        refine r_get (pc := 84) C fl_X0_18 dX0_findRow_84 0 rfl rfl ?_
        refine r_icmple (pc := 87) 107 C dX0_findRow_87 (by decide) (fun c_27 => ?_) (fun c_27 => ?_)
        · refine r_iinc (pc := 107) (nI (x5_3 + 1)) [(5, .int (nI (x5_3 + 1))), (0, .ref zf), (1, .ref zb), (2, .ref za), (3, .int (nI m)), (4, .int r_1)] C dX0_findRow_107 5 rfl (inc1 _) (by decide) rfl ?_
          refine r_goto (pc := 110) 20 C dX0_findRow_110 (by decide) ?_
          refine u_lv [(0, .ref zf), (1, .ref zb), (2, .ref za), (3, .int (nI m)), (4, .int r_1), (5, .int (nI (x5_3 + 1)))] [1, 2, 3, 4, 5, 0] rfl ?_
          exact ih (x5_3 + 1) rs0_3 rb0_3 pl1_21 sp1_22 be1_23 ti1_24 (by omega) (by rw [← hV3]; first | (simp only [lX0_findRow_20, ← e_pl_6, ← e_sp_7, ← e_be_8, ← e_ti_9, ← e_pl1_21, ← e_sp1_22, ← e_be1_23, ← e_ti1_24, ← e_r_25, if_pos c_27]; done) | (subst e_pl_6 e_sp_7 e_be_8 e_ti_9 e_pl1_21 e_sp1_22 e_be1_23 e_ti1_24 e_r_25; simp only [lX0_findRow_20, if_pos c_27]; done) | (subst e_pl_6 e_sp_7 e_be_8 e_ti_9 e_pl1_21 e_sp1_22 e_be1_23 e_ti1_24 e_r_25; rfl) | (subst e_pl_6 e_sp_7 e_be_8 e_ti_9 e_pl1_21 e_sp1_22 e_be1_23 e_ti1_24 e_r_25; simp [lX0_findRow_20, if_pos c_27]; done))
        · refine r_aload_n (pc := 90) C dX0_findRow_90 0 rfl ?_
          refine r_aload_n (pc := 91) C dX0_findRow_91 0 rfl ?_
          refine r_get (pc := 92) C fl_X0_12 dX0_findRow_92 0 rfl rfl ?_
          have K_28 := ctX2_howMany l g za3 zp3 zq3 pl1_21 sp1_22 be1_23 ti1_24  
          rw [← e_r_25] at K_28
          refine w_pI (pc := 95) C mv_X0_59 K_28 dX0_findRow_95 (by decide) [1] rfl (by decide) 1 rfl rfl (Nat.le_of_ble_eq_true rfl) ⟨Nat.zero_le _, Nat.zero_le _⟩ ?_
          refine r_put (pc := 98) (fl [wFut zf za3 r_25 rb0_3 ou ol, wMom g za3 zp3 zq3 pl1_21 sp1_22 be1_23 ti1_24, wTol g zb zd dr pz sl tp, wMom g za zp zq pl sp be ti]) C fp_X0_18 dX0_findRow_98 0 rfl (Nat.le_of_ble_eq_true rfl) rfl rfl rfl ?_
          refine r_aload_n (pc := 101) C dX0_findRow_101 0 rfl ?_
          refine r_iload (pc := 102) C dX0_findRow_102 5 rfl ?_
          refine r_put (pc := 104) (fl [wFut zf za3 r_25 x5_3 ou ol, wMom g za3 zp3 zq3 pl1_21 sp1_22 be1_23 ti1_24, wTol g zb zd dr pz sl tp, wMom g za zp zq pl sp be ti]) C fp_X0_22 dX0_findRow_104 0 rfl (Nat.le_of_ble_eq_true rfl) rfl rfl rfl ?_
          refine r_iinc (pc := 107) (nI (x5_3 + 1)) [(5, .int (nI (x5_3 + 1))), (0, .ref zf), (1, .ref zb), (2, .ref za), (3, .int (nI m)), (4, .int r_1)] C dX0_findRow_107 5 rfl (inc1 _) (by decide) rfl ?_
          refine r_goto (pc := 110) 20 C dX0_findRow_110 (by decide) ?_
          refine u_lv [(0, .ref zf), (1, .ref zb), (2, .ref za), (3, .int (nI m)), (4, .int r_1), (5, .int (nI (x5_3 + 1)))] [1, 2, 3, 4, 5, 0] rfl ?_
          exact ih (x5_3 + 1) r_25 x5_3 pl1_21 sp1_22 be1_23 ti1_24 (by omega) (by rw [← hV3]; first | (simp only [lX0_findRow_20, ← e_pl_6, ← e_sp_7, ← e_be_8, ← e_ti_9, ← e_pl1_21, ← e_sp1_22, ← e_be1_23, ← e_ti1_24, ← e_r_25, if_neg c_27]; done) | (subst e_pl_6 e_sp_7 e_be_8 e_ti_9 e_pl1_21 e_sp1_22 e_be1_23 e_ti1_24 e_r_25; simp only [lX0_findRow_20, if_neg c_27]; done) | (subst e_pl_6 e_sp_7 e_be_8 e_ti_9 e_pl1_21 e_sp1_22 e_be1_23 e_ti1_24 e_r_25; rfl) | (subst e_pl_6 e_sp_7 e_be_8 e_ti_9 e_pl1_21 e_sp1_22 e_be1_23 e_ti1_24 e_r_25; simp [lX0_findRow_20, if_neg c_27]; done))
      have hL11 : ∀ (n : Nat) (x6_11 : Nat) (pl1_11 : Nat → Int32) (sp1_11 : Nat → Int32) (be1_11 : Int32) (ti1_11 : Int32) , (x6_11 + n = m) → lX0_findRow_38 x5_3 m dr pz sl n x6_11 pl1_11 sp1_11 be1_11 ti1_11 = lX0_findRow_38 x5_3 m dr pz sl m 0 pl_6 sp_7 be_8 ti_9 → Vw g X 7 0 0 (fl [wFut zf za3 rs0_3 rb0_3 ou ol, wMom g za3 zp3 zq3 pl1_11 sp1_11 be1_11 ti1_11, wTol g zb zd dr pz sl tp, wMom g za zp zq pl sp be ti]) 38 [(0, .ref zf), (1, .ref zb), (2, .ref za), (3, .int (nI m)), (4, .int r_1), (5, .int (nI x5_3)), (6, .int (nI x6_11))] [] := by
        intro n
        induction n with
        | zero =>
          intro x6_11 pl1_11 sp1_11 be1_11 ti1_11 hr11 hV11
          refine r_iload (pc := 38) C dX0_findRow_38 6 rfl ?_
          refine r_iload_n (pc := 40) C dX0_findRow_40 3 rfl ?_
          refine r_icmpgeN (pc := 41) x6_11 m 76 C dX0_findRow_41 (by decide) rfl rfl (by omega) (by omega) (fun _ => ?_) (fun c_12 => absurd (by omega) c_12)
          refine u_lv [(0, .ref zf), (1, .ref zb), (2, .ref za), (3, .int (nI m)), (4, .int r_1), (5, .int (nI x5_3))] [0, 1, 2, 3, 4, 5] rfl ?_
          exact hX11 _ _ _ _ (by rw [← hV11]; first | rfl | (simp only [lX0_findRow_38]; done) | (simp [lX0_findRow_38]; done)) (by rw [← hV11]; first | rfl | (simp only [lX0_findRow_38]; done) | (simp [lX0_findRow_38]; done)) (by rw [← hV11]; first | rfl | (simp only [lX0_findRow_38]; done) | (simp [lX0_findRow_38]; done)) (by rw [← hV11]; first | rfl | (simp only [lX0_findRow_38]; done) | (simp [lX0_findRow_38]; done))
        | succ n ih =>
          intro x6_11 pl1_11 sp1_11 be1_11 ti1_11 hr11 hV11
          refine r_iload (pc := 38) C dX0_findRow_38 6 rfl ?_
          refine r_iload_n (pc := 40) C dX0_findRow_40 3 rfl ?_
          refine r_icmpgeN (pc := 41) x6_11 m 76 C dX0_findRow_41 (by decide) rfl rfl (by omega) (by omega) (fun c_13 => absurd c_13 (by omega)) (fun _ => ?_)
          refine r_aload_n (pc := 44) C dX0_findRow_44 0 rfl ?_
          refine r_get (pc := 45) C fl_X0_12 dX0_findRow_45 0 rfl rfl ?_
          refine r_aload_n (pc := 48) C dX0_findRow_48 0 rfl ?_
          refine r_iload (pc := 49) C dX0_findRow_49 5 rfl ?_
          refine r_iload_n (pc := 51) C dX0_findRow_51 3 rfl ?_
          refine r_iload (pc := 52) C dX0_findRow_52 6 rfl ?_
          obtain ⟨r_14, e_r_14⟩ : ∃ z : Int32, z = fX0_tiltOf x5_3 m x6_11 := ⟨_, rfl⟩
          have K_15 := ctX0_tiltOf l g zf za3 rs0_3 rb0_3 ou ol x5_3 m x6_11 (by omega) (by omega) (by omega)
          rw [← e_r_14] at K_15
          refine w_pI (pc := 54) C mv_X0_66 K_15 dX0_findRow_54 (by decide) [0] rfl (by decide) 0 rfl rfl (Nat.le_of_ble_eq_true rfl) ⟨Nat.zero_le _, Nat.zero_le _⟩ ?_
          refine r_put (pc := 57) (fl [wFut zf za3 rs0_3 rb0_3 ou ol, wMom g za3 zp3 zq3 pl1_11 sp1_11 be1_11 r_14, wTol g zb zd dr pz sl tp, wMom g za zp zq pl sp be ti]) C fp_X0_70 dX0_findRow_57 1 rfl (Nat.le_of_ble_eq_true rfl) rfl rfl rfl ?_
          refine r_aload_n (pc := 60) C dX0_findRow_60 0 rfl ?_
          refine r_get (pc := 61) C fl_X0_12 dX0_findRow_61 0 rfl rfl ?_
          refine r_aload_n (pc := 64) C dX0_findRow_64 1 rfl ?_
          refine r_iconst (pc := 65) 1 C dX0_findRow_65 rfl ?_
          obtain ⟨r_16, e_r_16⟩ : ∃ z : Int32, z = (fX2_goBy pl1_11 sp1_11 be1_11 r_14 dr pz sl 1).1 := ⟨_, rfl⟩
          obtain ⟨pl_17, e_pl_17⟩ : ∃ z : Nat → Int32, z = (fX2_goBy pl1_11 sp1_11 be1_11 r_14 dr pz sl 1).2.1 := ⟨_, rfl⟩
          obtain ⟨sp_18, e_sp_18⟩ : ∃ z : Nat → Int32, z = (fX2_goBy pl1_11 sp1_11 be1_11 r_14 dr pz sl 1).2.2.1 := ⟨_, rfl⟩
          obtain ⟨be_19, e_be_19⟩ : ∃ z : Int32, z = (fX2_goBy pl1_11 sp1_11 be1_11 r_14 dr pz sl 1).2.2.2 := ⟨_, rfl⟩
          have K_20 := ctX2_goBy l g za3 zp3 zq3 zb zd pl1_11 sp1_11 be1_11 r_14 dr pz sl tp 1 (by omega)
          rw [← e_r_16, ← e_pl_17, ← e_sp_18, ← e_be_19] at K_20
          refine w_cI (pc := 66) [wFut zf za3 rs0_3 rb0_3 ou ol, wMom g za3 zp3 zq3 pl_17 sp_18 be_19 r_14, wTol g zb zd dr pz sl tp, wMom g za zp zq pl sp be ti] C mv_X0_35 K_20 dX0_findRow_66 (by decide) [1, 2] rfl (by decide) (by simp only [List.map_cons, List.map_nil, adMom, adTol]) rfl 1 rfl rfl (Nat.le_of_ble_eq_true rfl) ⟨Nat.zero_le _, Nat.zero_le _⟩ ?_
          refine r_pop (pc := 69) C dX0_findRow_69 rfl ?_
          refine r_iinc (pc := 70) (nI (x6_11 + 1)) [(6, .int (nI (x6_11 + 1))), (0, .ref zf), (1, .ref zb), (2, .ref za), (3, .int (nI m)), (4, .int r_1), (5, .int (nI x5_3))] C dX0_findRow_70 6 rfl (inc1 _) (by decide) rfl ?_
          refine r_goto (pc := 73) 38 C dX0_findRow_73 (by decide) ?_
          refine u_lv [(0, .ref zf), (1, .ref zb), (2, .ref za), (3, .int (nI m)), (4, .int r_1), (5, .int (nI x5_3)), (6, .int (nI (x6_11 + 1)))] [1, 2, 3, 4, 5, 6, 0] rfl ?_
          exact ih (x6_11 + 1) pl_17 sp_18 be_19 r_14 (by omega) (by rw [← hV11]; first | (simp only [lX0_findRow_38, ← e_r_14, ← e_r_16, ← e_pl_17, ← e_sp_18, ← e_be_19]; done) | (subst e_r_14 e_r_16 e_pl_17 e_sp_18 e_be_19; rfl) | (subst e_r_14 e_r_16 e_pl_17 e_sp_18 e_be_19; simp only [lX0_findRow_38]; done))
      refine u_lv [(0, .ref zf), (1, .ref zb), (2, .ref za), (3, .int (nI m)), (4, .int r_1), (5, .int (nI x5_3)), (6, .int 0)] [1, 2, 3, 4, 5, 6, 0] rfl ?_
      exact hL11 m 0 pl_6 sp_7 be_8 ti_9 (by omega) rfl
  refine u_lv [(0, .ref zf), (1, .ref zb), (2, .ref za), (3, .int (nI m)), (4, .int r_1), (5, .int 0)] [2, 3, 4, 5, 1, 0] rfl ?_
  exact hL3 r_1.toNatClampNeg 0 (-1) 0 pl3 sp3 be3 ti3 (by omega) rfl
theorem ctX0_findRow (l : Launch) (g : Gl) (zf : Nat) (za3 : Nat) (zp3 : Nat) (zq3 : Nat) (zb : Nat) (zd : Nat) (za : Nat) (zp : Nat) (zq : Nat) (rs : Int32) (rb : Nat) (ou : Int32) (ol : Int32) (pl3 : Nat → Int32) (sp3 : Nat → Int32) (be3 : Int32) (ti3 : Int32) (dr : Nat → Int32) (pz : Int32) (sl : Int32) (tp : Nat) (pl : Nat → Int32) (sp : Nat → Int32) (be : Int32) (ti : Int32) (m : Nat) (q0 : m ≤ 5) : CtV l g yX0_findRow cX0_findRow 7 4 [.ref zf, .ref zb, .ref za, .int (nI m)] (fl [wFut zf za3 rs rb ou ol, wMom g za3 zp3 zq3 pl3 sp3 be3 ti3, wTol g zb zd dr pz sl tp, wMom g za zp zq pl sp be ti]) (fl [wFut zf za3 ((fX0_findRow pl3 sp3 be3 ti3 dr pz sl pl sp be ti m).1) ((fX0_findRow pl3 sp3 be3 ti3 dr pz sl pl sp be ti m).2.1) ou ol, wMom g za3 zp3 zq3 ((fX0_findRow pl3 sp3 be3 ti3 dr pz sl pl sp be ti m).2.2.1) ((fX0_findRow pl3 sp3 be3 ti3 dr pz sl pl sp be ti m).2.2.2.1) ((fX0_findRow pl3 sp3 be3 ti3 dr pz sl pl sp be ti m).2.2.2.2.1) ((fX0_findRow pl3 sp3 be3 ti3 dr pz sl pl sp be ti m).2.2.2.2.2), wTol g zb zd dr pz sl tp, wMom g za zp zq pl sp be ti]) := mkV [(0, .ref zf), (1, .ref zb), (2, .ref za), (3, .int (nI m))] (by decide) (Nat.le_of_ble_eq_true rfl) rfl (fun X C hR => bX0_findRow C zf za3 zp3 zq3 zb zd za zp zq rs rb ou ol pl3 sp3 be3 ti3 dr pz sl tp pl sp be ti m q0 hR)
theorem findRow_rb0 (pl sp : Nat → Int32) (be ti : Int32) (m : Nat) (dr : Nat → Int32) (pz sl : Int32) : ∀ (n x : Nat) (rs : Int32) (rb : Nat) (p s : Nat → Int32) (b t : Int32), x + n < 2 ^ 31 → rb < 2 ^ 31 → (lX0_findRow_20 pl sp be ti m dr pz sl n x rs rb p s b t).2.1 < 2 ^ 31
  | 0, x, rs, rb, p, s, b, t, h1, h2 => h2
  | n + 1, x, rs, rb, p, s, b, t, h1, h2 => by
    simp only [lX0_findRow_20]
    split
    · exact findRow_rb0 pl sp be ti m dr pz sl n _ _ _ _ _ _ _ (by omega) (by omega)
    · exact findRow_rb0 pl sp be ti m dr pz sl n _ _ _ _ _ _ _ (by omega) (by omega)
theorem findRow_rb (pl3 sp3 : Nat → Int32) (be3 ti3 : Int32) (dr : Nat → Int32) (pz sl : Int32) (pl sp : Nat → Int32) (be ti : Int32) (m : Nat) : (fX0_findRow pl3 sp3 be3 ti3 dr pz sl pl sp be ti m).2.1 < 2 ^ 31 := by
  have h := clb (fX8_power 3 (nI m))
  exact findRow_rb0 pl sp be ti m dr pz sl _ 0 (-1) 0 pl3 sp3 be3 ti3 (by omega) (by decide)

def fX0_divideOddsBy2 (ou : Int32) (ol : Int32) : (Int32) × (Int32) := (if (ou - ou / 2 * 2) = 0 then (if (ol - ol / 2 * 2) = 0 then (let ou_3 : Int32 := ou / 2; let ol_4 : Int32 := ol / 2; (ou_3, ol_4)) else ((ou, ol))) else ((ou, ol)))
set_option maxHeartbeats 4000000 in
set_option maxRecDepth 100000 in
theorem bX0_divideOddsBy2 {l : Launch} {g : Gl} {X : Cx} (C : Ok l g X RX0 cX0_divideOddsBy2 1 0) (zf : Nat) (za3 : Nat) (rs : Int32) (rb : Nat) (ou : Int32) (ol : Int32) (hR : RetV g X cX0_divideOddsBy2 1 0 0 (fl [wFut zf za3 rs rb ((fX0_divideOddsBy2 ou ol).1) ((fX0_divideOddsBy2 ou ol).2)])) : Vw g X 1 0 0 (fl [wFut zf za3 rs rb ou ol]) 0 [(0, .ref zf)] [] := by
  refine r_aload_n (pc := 0) C dX0_divideOddsBy2_0 0 rfl ?_
  refine r_get (pc := 1) C fl_X0_25 dX0_divideOddsBy2_1 0 rfl rfl ?_
  refine r_iconst (pc := 4) 2 C dX0_divideOddsBy2_4 rfl ?_
  refine r_irem (pc := 5) C dX0_divideOddsBy2_5 (by decide) ?_
  refine r_ifne (pc := 6) 38 C dX0_divideOddsBy2_6 (by decide) (fun c_1 => ?_) (fun c_1 => ?_)
  · have hf : fX0_divideOddsBy2 ou ol = (ou, ol) := by first | (simp only [fX0_divideOddsBy2, if_neg c_1]; done) | rfl | (simp [fX0_divideOddsBy2, if_neg c_1]; done)
    rw [hf] at hR
    exact hR _ _ dX0_divideOddsBy2_38
  · refine r_aload_n (pc := 9) C dX0_divideOddsBy2_9 0 rfl ?_
    refine r_get (pc := 10) C fl_X0_28 dX0_divideOddsBy2_10 0 rfl rfl ?_
    refine r_iconst (pc := 13) 2 C dX0_divideOddsBy2_13 rfl ?_
    refine r_irem (pc := 14) C dX0_divideOddsBy2_14 (by decide) ?_
    refine r_ifne (pc := 15) 38 C dX0_divideOddsBy2_15 (by decide) (fun c_2 => ?_) (fun c_2 => ?_)
    · have hf : fX0_divideOddsBy2 ou ol = (ou, ol) := by first | (simp only [fX0_divideOddsBy2, if_pos c_1, if_neg c_2]; done) | rfl | (simp [fX0_divideOddsBy2, if_pos c_1, if_neg c_2]; done)
      rw [hf] at hR
      exact hR _ _ dX0_divideOddsBy2_38
    · refine r_aload_n (pc := 18) C dX0_divideOddsBy2_18 0 rfl ?_
      refine r_dup (pc := 19) C dX0_divideOddsBy2_19 rfl ?_
      refine r_get (pc := 20) C fl_X0_25 dX0_divideOddsBy2_20 0 rfl rfl ?_
      refine r_iconst (pc := 23) 2 C dX0_divideOddsBy2_23 rfl ?_
      refine r_idiv (pc := 24) C dX0_divideOddsBy2_24 (by decide) ?_
      refine u_int (fun ou_3 e_ou_3 => ?_)
      refine r_put (pc := 25) (fl [wFut zf za3 rs rb ou_3 ol]) C fp_X0_25 dX0_divideOddsBy2_25 0 rfl (Nat.le_of_ble_eq_true rfl) rfl rfl rfl ?_
      refine r_aload_n (pc := 28) C dX0_divideOddsBy2_28 0 rfl ?_
      refine r_dup (pc := 29) C dX0_divideOddsBy2_29 rfl ?_
      refine r_get (pc := 30) C fl_X0_28 dX0_divideOddsBy2_30 0 rfl rfl ?_
      refine r_iconst (pc := 33) 2 C dX0_divideOddsBy2_33 rfl ?_
      refine r_idiv (pc := 34) C dX0_divideOddsBy2_34 (by decide) ?_
      refine u_int (fun ol_4 e_ol_4 => ?_)
      refine r_put (pc := 35) (fl [wFut zf za3 rs rb ou_3 ol_4]) C fp_X0_28 dX0_divideOddsBy2_35 0 rfl (Nat.le_of_ble_eq_true rfl) rfl rfl rfl ?_
      have hf : fX0_divideOddsBy2 ou ol = (ou_3, ol_4) := by first | (simp only [fX0_divideOddsBy2, ← e_ou_3, ← e_ol_4, if_pos c_1, if_pos c_2]; done) | (subst e_ou_3 e_ol_4; simp only [fX0_divideOddsBy2, if_pos c_1, if_pos c_2]; done) | (subst e_ou_3 e_ol_4; rfl) | (subst e_ou_3 e_ol_4; simp [fX0_divideOddsBy2, if_pos c_1, if_pos c_2]; done)
      rw [hf] at hR
      exact hR _ _ dX0_divideOddsBy2_38
theorem ctX0_divideOddsBy2 (l : Launch) (g : Gl) (zf : Nat) (za3 : Nat) (rs : Int32) (rb : Nat) (ou : Int32) (ol : Int32) : CtV l g yX0_divideOddsBy2 cX0_divideOddsBy2 1 0 [.ref zf] (fl [wFut zf za3 rs rb ou ol]) (fl [wFut zf za3 rs rb ((fX0_divideOddsBy2 ou ol).1) ((fX0_divideOddsBy2 ou ol).2)]) := mkV [(0, .ref zf)] (by decide) (Nat.le_of_ble_eq_true rfl) rfl (fun X C hR => bX0_divideOddsBy2 C zf za3 rs rb ou ol hR)

def fX0_divideOddsBy5 (ou : Int32) (ol : Int32) : (Int32) × (Int32) := (if (ou - ou / 5 * 5) = 0 then (if (ol - ol / 5 * 5) = 0 then (let ou_3 : Int32 := ou / 5; let ol_4 : Int32 := ol / 5; (ou_3, ol_4)) else ((ou, ol))) else ((ou, ol)))
set_option maxHeartbeats 4000000 in
set_option maxRecDepth 100000 in
theorem bX0_divideOddsBy5 {l : Launch} {g : Gl} {X : Cx} (C : Ok l g X RX0 cX0_divideOddsBy5 1 0) (zf : Nat) (za3 : Nat) (rs : Int32) (rb : Nat) (ou : Int32) (ol : Int32) (hR : RetV g X cX0_divideOddsBy5 1 0 0 (fl [wFut zf za3 rs rb ((fX0_divideOddsBy5 ou ol).1) ((fX0_divideOddsBy5 ou ol).2)])) : Vw g X 1 0 0 (fl [wFut zf za3 rs rb ou ol]) 0 [(0, .ref zf)] [] := by
  refine r_aload_n (pc := 0) C dX0_divideOddsBy5_0 0 rfl ?_
  refine r_get (pc := 1) C fl_X0_25 dX0_divideOddsBy5_1 0 rfl rfl ?_
  refine r_iconst (pc := 4) 5 C dX0_divideOddsBy5_4 rfl ?_
  refine r_irem (pc := 5) C dX0_divideOddsBy5_5 (by decide) ?_
  refine r_ifne (pc := 6) 38 C dX0_divideOddsBy5_6 (by decide) (fun c_1 => ?_) (fun c_1 => ?_)
  · have hf : fX0_divideOddsBy5 ou ol = (ou, ol) := by first | (simp only [fX0_divideOddsBy5, if_neg c_1]; done) | rfl | (simp [fX0_divideOddsBy5, if_neg c_1]; done)
    rw [hf] at hR
    exact hR _ _ dX0_divideOddsBy5_38
  · refine r_aload_n (pc := 9) C dX0_divideOddsBy5_9 0 rfl ?_
    refine r_get (pc := 10) C fl_X0_28 dX0_divideOddsBy5_10 0 rfl rfl ?_
    refine r_iconst (pc := 13) 5 C dX0_divideOddsBy5_13 rfl ?_
    refine r_irem (pc := 14) C dX0_divideOddsBy5_14 (by decide) ?_
    refine r_ifne (pc := 15) 38 C dX0_divideOddsBy5_15 (by decide) (fun c_2 => ?_) (fun c_2 => ?_)
    · have hf : fX0_divideOddsBy5 ou ol = (ou, ol) := by first | (simp only [fX0_divideOddsBy5, if_pos c_1, if_neg c_2]; done) | rfl | (simp [fX0_divideOddsBy5, if_pos c_1, if_neg c_2]; done)
      rw [hf] at hR
      exact hR _ _ dX0_divideOddsBy5_38
    · refine r_aload_n (pc := 18) C dX0_divideOddsBy5_18 0 rfl ?_
      refine r_dup (pc := 19) C dX0_divideOddsBy5_19 rfl ?_
      refine r_get (pc := 20) C fl_X0_25 dX0_divideOddsBy5_20 0 rfl rfl ?_
      refine r_iconst (pc := 23) 5 C dX0_divideOddsBy5_23 rfl ?_
      refine r_idiv (pc := 24) C dX0_divideOddsBy5_24 (by decide) ?_
      refine u_int (fun ou_3 e_ou_3 => ?_)
      refine r_put (pc := 25) (fl [wFut zf za3 rs rb ou_3 ol]) C fp_X0_25 dX0_divideOddsBy5_25 0 rfl (Nat.le_of_ble_eq_true rfl) rfl rfl rfl ?_
      refine r_aload_n (pc := 28) C dX0_divideOddsBy5_28 0 rfl ?_
      refine r_dup (pc := 29) C dX0_divideOddsBy5_29 rfl ?_
      refine r_get (pc := 30) C fl_X0_28 dX0_divideOddsBy5_30 0 rfl rfl ?_
      refine r_iconst (pc := 33) 5 C dX0_divideOddsBy5_33 rfl ?_
      refine r_idiv (pc := 34) C dX0_divideOddsBy5_34 (by decide) ?_
      refine u_int (fun ol_4 e_ol_4 => ?_)
      refine r_put (pc := 35) (fl [wFut zf za3 rs rb ou_3 ol_4]) C fp_X0_28 dX0_divideOddsBy5_35 0 rfl (Nat.le_of_ble_eq_true rfl) rfl rfl rfl ?_
      have hf : fX0_divideOddsBy5 ou ol = (ou_3, ol_4) := by first | (simp only [fX0_divideOddsBy5, ← e_ou_3, ← e_ol_4, if_pos c_1, if_pos c_2]; done) | (subst e_ou_3 e_ol_4; simp only [fX0_divideOddsBy5, if_pos c_1, if_pos c_2]; done) | (subst e_ou_3 e_ol_4; rfl) | (subst e_ou_3 e_ol_4; simp [fX0_divideOddsBy5, if_pos c_1, if_pos c_2]; done)
      rw [hf] at hR
      exact hR _ _ dX0_divideOddsBy5_38
theorem ctX0_divideOddsBy5 (l : Launch) (g : Gl) (zf : Nat) (za3 : Nat) (rs : Int32) (rb : Nat) (ou : Int32) (ol : Int32) : CtV l g yX0_divideOddsBy5 cX0_divideOddsBy5 1 0 [.ref zf] (fl [wFut zf za3 rs rb ou ol]) (fl [wFut zf za3 rs rb ((fX0_divideOddsBy5 ou ol).1) ((fX0_divideOddsBy5 ou ol).2)]) := mkV [(0, .ref zf)] (by decide) (Nat.le_of_ble_eq_true rfl) rfl (fun X C hR => bX0_divideOddsBy5 C zf za3 rs rb ou ol hR)

def lX0_standsIfHit_11 (v : Int32) : Nat → (Nat) → (Nat → Int32) → (Nat → Int32)
  | 0, x6_6, sp1_6 => (sp1_6)
  | n + 1, x6_6, sp1_6 => (if ((v >>> ((nI x6_6) &&& 31)) &&& 1) = 0 then (lX0_standsIfHit_11 v n (x6_6 + 1) sp1_6) else (let sp_10 : Nat → Int32 := fX2_whipped sp1_6 x6_6 5; lX0_standsIfHit_11 v n (x6_6 + 1) sp_10))
def fX0_standsIfHit (pl3 : Nat → Int32) (sp3 : Nat → Int32) (dr : Nat → Int32) (pz : Int32) (sl : Int32) (pl : Nat → Int32) (sp : Nat → Int32) (be : Int32) (ti : Int32) (t : Nat) (v : Int32) (m : Nat) : (Int32) × (Nat → Int32) × (Nat → Int32) × (Int32) × (Int32) := (let pl_1 : Nat → Int32 := (fX2_copy pl3 sp3 pl sp be ti).1; let sp_2 : Nat → Int32 := (fX2_copy pl3 sp3 pl sp be ti).2.1; let be_3 : Int32 := (fX2_copy pl3 sp3 pl sp be ti).2.2.1; let ti_4 : Int32 := (fX2_copy pl3 sp3 pl sp be ti).2.2.2; let sp1_12 : Nat → Int32 := lX0_standsIfHit_11 v 6 0 sp_2; let r_13 : Int32 := (fX2_goBy pl_1 sp1_12 be_3 ti_4 dr pz sl m).1; let pl_14 : Nat → Int32 := (fX2_goBy pl_1 sp1_12 be_3 ti_4 dr pz sl m).2.1; let sp_15 : Nat → Int32 := (fX2_goBy pl_1 sp1_12 be_3 ti_4 dr pz sl m).2.2.1; let be_16 : Int32 := (fX2_goBy pl_1 sp1_12 be_3 ti_4 dr pz sl m).2.2.2; let r_18 : Int32 := fX2_stands sp_15 t; (r_18, pl_14, sp_15, be_16, ti_4))
set_option maxHeartbeats 4000000 in
set_option maxRecDepth 100000 in
theorem bX0_standsIfHit {l : Launch} {g : Gl} {X : Cx} (C : Ok l g X RX0 cX0_standsIfHit 7 4) (zf : Nat) (za3 : Nat) (zp3 : Nat) (zq3 : Nat) (zb : Nat) (zd : Nat) (za : Nat) (zp : Nat) (zq : Nat) (rs : Int32) (rb : Nat) (ou : Int32) (ol : Int32) (pl3 : Nat → Int32) (sp3 : Nat → Int32) (be3 : Int32) (ti3 : Int32) (dr : Nat → Int32) (pz : Int32) (sl : Int32) (tp : Nat) (pl : Nat → Int32) (sp : Nat → Int32) (be : Int32) (ti : Int32) (t : Nat) (v : Int32) (m : Nat) (q0 : t < 6) (q1 : m < 2 ^ 31) (hR : RetI g X cX0_standsIfHit 7 0 0 ((fX0_standsIfHit pl3 sp3 dr pz sl pl sp be ti t v m).1) (fl [wFut zf za3 rs rb ou ol, wMom g za3 zp3 zq3 ((fX0_standsIfHit pl3 sp3 dr pz sl pl sp be ti t v m).2.1) ((fX0_standsIfHit pl3 sp3 dr pz sl pl sp be ti t v m).2.2.1) ((fX0_standsIfHit pl3 sp3 dr pz sl pl sp be ti t v m).2.2.2.1) ((fX0_standsIfHit pl3 sp3 dr pz sl pl sp be ti t v m).2.2.2.2), wTol g zb zd dr pz sl tp, wMom g za zp zq pl sp be ti])) : Vw g X 7 0 0 (fl [wFut zf za3 rs rb ou ol, wMom g za3 zp3 zq3 pl3 sp3 be3 ti3, wTol g zb zd dr pz sl tp, wMom g za zp zq pl sp be ti]) 0 [(0, .ref zf), (1, .ref zb), (2, .ref za), (3, .int (nI t)), (4, .int v), (5, .int (nI m))] [] := by
  refine r_aload_n (pc := 0) C dX0_standsIfHit_0 0 rfl ?_
  refine r_get (pc := 1) C fl_X0_12 dX0_standsIfHit_1 0 rfl rfl ?_
  refine r_aload_n (pc := 4) C dX0_standsIfHit_4 2 rfl ?_
  obtain ⟨pl_1, e_pl_1⟩ : ∃ z : Nat → Int32, z = (fX2_copy pl3 sp3 pl sp be ti).1 := ⟨_, rfl⟩
  obtain ⟨sp_2, e_sp_2⟩ : ∃ z : Nat → Int32, z = (fX2_copy pl3 sp3 pl sp be ti).2.1 := ⟨_, rfl⟩
  obtain ⟨be_3, e_be_3⟩ : ∃ z : Int32, z = (fX2_copy pl3 sp3 pl sp be ti).2.2.1 := ⟨_, rfl⟩
  obtain ⟨ti_4, e_ti_4⟩ : ∃ z : Int32, z = (fX2_copy pl3 sp3 pl sp be ti).2.2.2 := ⟨_, rfl⟩
  have K_5 := ctX2_copy l g za3 zp3 zq3 za zp zq pl3 sp3 be3 ti3 pl sp be ti  
  rw [← e_pl_1, ← e_sp_2, ← e_be_3, ← e_ti_4] at K_5
  refine w_cV (pc := 5) [wFut zf za3 rs rb ou ol, wMom g za3 zp3 zq3 pl_1 sp_2 be_3 ti_4, wTol g zb zd dr pz sl tp, wMom g za zp zq pl sp be ti] C mv_X0_31 K_5 dX0_standsIfHit_5 (by decide) [1, 3] rfl (by decide) (by simp only [List.map_cons, List.map_nil, adMom]) rfl 1 rfl rfl (Nat.le_of_ble_eq_true rfl) ⟨Nat.zero_le _, Nat.zero_le _⟩ ?_
  refine r_iconst (pc := 8) 0 C dX0_standsIfHit_8 rfl ?_
  refine r_istore (pc := 9) [(6, .int 0), (0, .ref zf), (1, .ref zb), (2, .ref za), (3, .int (nI t)), (4, .int v), (5, .int (nI m))] C dX0_standsIfHit_9 (by decide) rfl ?_
  have hX6 : ∀ (sp1_12 : Nat → Int32) , (sp1_12 = lX0_standsIfHit_11 v 6 0 sp_2) → Vw g X 7 0 0 (fl [wFut zf za3 rs rb ou ol, wMom g za3 zp3 zq3 pl_1 sp1_12 be_3 ti_4, wTol g zb zd dr pz sl tp, wMom g za zp zq pl sp be ti]) 44 [(0, .ref zf), (1, .ref zb), (3, .int (nI t)), (5, .int (nI m))] [] := by
    intro sp1_12 e_sp1_12 
    refine r_aload_n (pc := 44) C dX0_standsIfHit_44 0 rfl ?_
    refine r_get (pc := 45) C fl_X0_12 dX0_standsIfHit_45 0 rfl rfl ?_
    refine r_aload_n (pc := 48) C dX0_standsIfHit_48 1 rfl ?_
    refine r_iload (pc := 49) C dX0_standsIfHit_49 3 rfl ?_
    obtain ⟨r_13, e_r_13⟩ : ∃ z : Int32, z = (fX2_goBy pl_1 sp1_12 be_3 ti_4 dr pz sl m).1 := ⟨_, rfl⟩
    obtain ⟨pl_14, e_pl_14⟩ : ∃ z : Nat → Int32, z = (fX2_goBy pl_1 sp1_12 be_3 ti_4 dr pz sl m).2.1 := ⟨_, rfl⟩
    obtain ⟨sp_15, e_sp_15⟩ : ∃ z : Nat → Int32, z = (fX2_goBy pl_1 sp1_12 be_3 ti_4 dr pz sl m).2.2.1 := ⟨_, rfl⟩
    obtain ⟨be_16, e_be_16⟩ : ∃ z : Int32, z = (fX2_goBy pl_1 sp1_12 be_3 ti_4 dr pz sl m).2.2.2 := ⟨_, rfl⟩
    have K_17 := ctX2_goBy l g za3 zp3 zq3 zb zd pl_1 sp1_12 be_3 ti_4 dr pz sl tp m (by omega)
    rw [← e_r_13, ← e_pl_14, ← e_sp_15, ← e_be_16] at K_17
    refine w_cI (pc := 51) [wFut zf za3 rs rb ou ol, wMom g za3 zp3 zq3 pl_14 sp_15 be_16 ti_4, wTol g zb zd dr pz sl tp, wMom g za zp zq pl sp be ti] C mv_X0_35 K_17 dX0_standsIfHit_51 (by decide) [1, 2] rfl (by decide) (by simp only [List.map_cons, List.map_nil, adMom, adTol]) rfl 1 rfl rfl (Nat.le_of_ble_eq_true rfl) ⟨Nat.zero_le _, Nat.zero_le _⟩ ?_
    refine r_pop (pc := 54) C dX0_standsIfHit_54 rfl ?_
    refine r_aload_n (pc := 55) C dX0_standsIfHit_55 0 rfl ?_
    refine r_get (pc := 56) C fl_X0_12 dX0_standsIfHit_56 0 rfl rfl ?_
    refine r_iload_n (pc := 59) C dX0_standsIfHit_59 2 rfl ?_
    obtain ⟨r_18, e_r_18⟩ : ∃ z : Int32, z = fX2_stands sp_15 t := ⟨_, rfl⟩
    have K_19 := ctX2_stands l g za3 zp3 zq3 pl_14 sp_15 be_16 ti_4 t (by omega)
    rw [← e_r_18] at K_19
    refine w_pI (pc := 60) C mv_X0_43 K_19 dX0_standsIfHit_60 (by decide) [1] rfl (by decide) 1 rfl rfl (Nat.le_of_ble_eq_true rfl) ⟨Nat.zero_le _, Nat.zero_le _⟩ ?_
    have hf : fX0_standsIfHit pl3 sp3 dr pz sl pl sp be ti t v m = (r_18, pl_14, sp_15, be_16, ti_4) := by first | (simp only [fX0_standsIfHit, ← e_pl_1, ← e_sp_2, ← e_be_3, ← e_ti_4, ← e_sp1_12, ← e_r_13, ← e_pl_14, ← e_sp_15, ← e_be_16, ← e_r_18]; done) | (subst e_pl_1 e_sp_2 e_be_3 e_ti_4 e_sp1_12 e_r_13 e_pl_14 e_sp_15 e_be_16 e_r_18; rfl) | (subst e_pl_1 e_sp_2 e_be_3 e_ti_4 e_sp1_12 e_r_13 e_pl_14 e_sp_15 e_be_16 e_r_18; simp only [fX0_standsIfHit]; done)
    rw [hf] at hR
    exact hR _ _ dX0_standsIfHit_63
  have hL6 : ∀ (n : Nat) (x6_6 : Nat) (sp1_6 : Nat → Int32) , (x6_6 + n = 6) → lX0_standsIfHit_11 v n x6_6 sp1_6 = lX0_standsIfHit_11 v 6 0 sp_2 → Vw g X 7 0 0 (fl [wFut zf za3 rs rb ou ol, wMom g za3 zp3 zq3 pl_1 sp1_6 be_3 ti_4, wTol g zb zd dr pz sl tp, wMom g za zp zq pl sp be ti]) 11 [(0, .ref zf), (1, .ref zb), (3, .int (nI t)), (4, .int v), (5, .int (nI m)), (6, .int (nI x6_6))] [] := by
    intro n
    induction n with
    | zero =>
      intro x6_6 sp1_6 hr6 hV6
      refine r_iload (pc := 11) C dX0_standsIfHit_11 5 rfl ?_
      refine r_bipush (pc := 13) 6 C dX0_standsIfHit_13 rfl ?_
      refine r_icmpgeN (pc := 15) x6_6 6 44 C dX0_standsIfHit_15 (by decide) rfl rfl (by omega) (by omega) (fun _ => ?_) (fun c_7 => absurd (by omega) c_7)
      refine u_lv [(0, .ref zf), (1, .ref zb), (3, .int (nI t)), (5, .int (nI m))] [0, 1, 2, 4] rfl ?_
      exact hX6 _ (by rw [← hV6]; first | rfl | (simp only [lX0_standsIfHit_11]; done) | (simp [lX0_standsIfHit_11]; done))
    | succ n ih =>
      intro x6_6 sp1_6 hr6 hV6
      refine r_iload (pc := 11) C dX0_standsIfHit_11 5 rfl ?_
      refine r_bipush (pc := 13) 6 C dX0_standsIfHit_13 rfl ?_
      refine r_icmpgeN (pc := 15) x6_6 6 44 C dX0_standsIfHit_15 (by decide) rfl rfl (by omega) (by omega) (fun c_8 => absurd c_8 (by omega)) (fun _ => ?_)
      refine r_iload (pc := 18) C dX0_standsIfHit_18 3 rfl ?_
      refine r_iload (pc := 20) C dX0_standsIfHit_20 5 rfl ?_
      refine r_ishr (pc := 22) C dX0_standsIfHit_22 ?_
      refine r_iconst (pc := 23) 1 C dX0_standsIfHit_23 rfl ?_
      refine r_iand (pc := 24) C dX0_standsIfHit_24 ?_
      refine r_ifeq (pc := 25) 38 C dX0_standsIfHit_25 (by decide) (fun c_9 => ?_) (fun c_9 => ?_)
      · refine r_iinc (pc := 38) (nI (x6_6 + 1)) [(6, .int (nI (x6_6 + 1))), (0, .ref zf), (1, .ref zb), (3, .int (nI t)), (4, .int v), (5, .int (nI m))] C dX0_standsIfHit_38 5 rfl (inc1 _) (by decide) rfl ?_
        refine r_goto (pc := 41) 11 C dX0_standsIfHit_41 (by decide) ?_
        refine u_lv [(0, .ref zf), (1, .ref zb), (3, .int (nI t)), (4, .int v), (5, .int (nI m)), (6, .int (nI (x6_6 + 1)))] [1, 2, 3, 4, 5, 0] rfl ?_
        exact ih (x6_6 + 1) sp1_6 (by omega) (by rw [← hV6]; first | (simp only [lX0_standsIfHit_11, if_pos c_9]; done) | rfl | (simp [lX0_standsIfHit_11, if_pos c_9]; done))
      · refine r_aload_n (pc := 28) C dX0_standsIfHit_28 0 rfl ?_
        refine r_get (pc := 29) C fl_X0_12 dX0_standsIfHit_29 0 rfl rfl ?_
        refine r_iload (pc := 32) C dX0_standsIfHit_32 5 rfl ?_
        refine r_iconst (pc := 34) 5 C dX0_standsIfHit_34 rfl ?_
        obtain ⟨sp_10, e_sp_10⟩ : ∃ z : Nat → Int32, z = fX2_whipped sp1_6 x6_6 5 := ⟨_, rfl⟩
        have K_11 := ctX2_whipped l g za3 zp3 zq3 pl_1 sp1_6 be_3 ti_4 x6_6 5 (by omega)
        rw [← e_sp_10] at K_11
        refine w_cV (pc := 35) [wFut zf za3 rs rb ou ol, wMom g za3 zp3 zq3 pl_1 sp_10 be_3 ti_4, wTol g zb zd dr pz sl tp, wMom g za zp zq pl sp be ti] C mv_X0_55 K_11 dX0_standsIfHit_35 (by decide) [1] rfl (by decide) (by simp only [List.map_cons, List.map_nil, adMom]) rfl 1 rfl rfl (Nat.le_of_ble_eq_true rfl) ⟨Nat.zero_le _, Nat.zero_le _⟩ ?_
        refine r_iinc (pc := 38) (nI (x6_6 + 1)) [(6, .int (nI (x6_6 + 1))), (0, .ref zf), (1, .ref zb), (3, .int (nI t)), (4, .int v), (5, .int (nI m))] C dX0_standsIfHit_38 5 rfl (inc1 _) (by decide) rfl ?_
        refine r_goto (pc := 41) 11 C dX0_standsIfHit_41 (by decide) ?_
        refine u_lv [(0, .ref zf), (1, .ref zb), (3, .int (nI t)), (4, .int v), (5, .int (nI m)), (6, .int (nI (x6_6 + 1)))] [1, 2, 3, 4, 5, 0] rfl ?_
        exact ih (x6_6 + 1) sp_10 (by omega) (by rw [← hV6]; first | (simp only [lX0_standsIfHit_11, ← e_sp_10, if_neg c_9]; done) | (subst e_sp_10; simp only [lX0_standsIfHit_11, if_neg c_9]; done) | (subst e_sp_10; rfl) | (subst e_sp_10; simp [lX0_standsIfHit_11, if_neg c_9]; done))
  refine u_lv [(0, .ref zf), (1, .ref zb), (3, .int (nI t)), (4, .int v), (5, .int (nI m)), (6, .int 0)] [1, 2, 4, 5, 6, 0] rfl ?_
  exact hL6 6 0 sp_2 (by omega) rfl
theorem zX0_standsIfHit (pl3 : Nat → Int32) (sp3 : Nat → Int32) (dr : Nat → Int32) (pz : Int32) (sl : Int32) (pl : Nat → Int32) (sp : Nat → Int32) (be : Int32) (ti : Int32) (t : Nat) (v : Int32) (m : Nat) : (fX0_standsIfHit pl3 sp3 dr pz sl pl sp be ti t v m).1 = 0 ∨ (fX0_standsIfHit pl3 sp3 dr pz sl pl sp be ti t v m).1 = 1 := zX2_stands _ _
theorem ctX0_standsIfHit (l : Launch) (g : Gl) (zf : Nat) (za3 : Nat) (zp3 : Nat) (zq3 : Nat) (zb : Nat) (zd : Nat) (za : Nat) (zp : Nat) (zq : Nat) (rs : Int32) (rb : Nat) (ou : Int32) (ol : Int32) (pl3 : Nat → Int32) (sp3 : Nat → Int32) (be3 : Int32) (ti3 : Int32) (dr : Nat → Int32) (pz : Int32) (sl : Int32) (tp : Nat) (pl : Nat → Int32) (sp : Nat → Int32) (be : Int32) (ti : Int32) (t : Nat) (v : Int32) (m : Nat) (q0 : t < 6) (q1 : m < 2 ^ 31) : CtI l g yX0_standsIfHit cX0_standsIfHit 7 (some .boolean) 4 [.ref zf, .ref zb, .ref za, .int (nI t), .int v, .int (nI m)] (fl [wFut zf za3 rs rb ou ol, wMom g za3 zp3 zq3 pl3 sp3 be3 ti3, wTol g zb zd dr pz sl tp, wMom g za zp zq pl sp be ti]) ((fX0_standsIfHit pl3 sp3 dr pz sl pl sp be ti t v m).1) (fl [wFut zf za3 rs rb ou ol, wMom g za3 zp3 zq3 ((fX0_standsIfHit pl3 sp3 dr pz sl pl sp be ti t v m).2.1) ((fX0_standsIfHit pl3 sp3 dr pz sl pl sp be ti t v m).2.2.1) ((fX0_standsIfHit pl3 sp3 dr pz sl pl sp be ti t v m).2.2.2.1) ((fX0_standsIfHit pl3 sp3 dr pz sl pl sp be ti t v m).2.2.2.2), wTol g zb zd dr pz sl tp, wMom g za zp zq pl sp be ti]) := mkI .boolean rfl (nar_b (zX0_standsIfHit pl3 sp3 dr pz sl pl sp be ti t v m)) [(0, .ref zf), (1, .ref zb), (2, .ref za), (3, .int (nI t)), (4, .int v), (5, .int (nI m))] (by decide) (Nat.le_of_ble_eq_true rfl) rfl (fun X C hR => bX0_standsIfHit C zf za3 zp3 zq3 zb zd za zp zq rs rb ou ol pl3 sp3 be3 ti3 dr pz sl tp pl sp be ti t v m q0 q1 hR)

def lX0_findOdds_31 (r_1 : Int32) (v : Int32) (r_3 : Int32) (dr : Nat → Int32) (pz : Int32) (sl : Int32) (pl : Nat → Int32) (sp : Nat → Int32) (be : Int32) (ti : Int32) (t : Nat) (m : Nat) : Nat → (Nat) → (Int32) → (Nat → Int32) → (Nat → Int32) → (Int32) → (Int32) → (Int32) × (Nat → Int32) × (Nat → Int32) × (Int32) × (Int32)
  | 0, x8_7, ou0_7, pl1_7, sp1_7, be1_7, ti1_7 => ((ou0_7, pl1_7, sp1_7, be1_7, ti1_7))
  | n + 1, x8_7, ou0_7, pl1_7, sp1_7, be1_7, ti1_7 => (if ((nI x8_7) &&& (r_1 ^^^ (-1))) = 0 then (let r_11 : Int32 := fJ6_bitCount_0f7a4 (nI x8_7); let r_13 : Int32 := fX8_power v r_11; let r_15 : Int32 := fX8_power (10 - v) (r_3 - r_11); if (r_13 * r_15) ≤ 0 then (lX0_findOdds_31 r_1 v r_3 dr pz sl pl sp be ti t m n (x8_7 + 1) ou0_7 pl1_7 sp1_7 be1_7 ti1_7) else (let r_18 : Int32 := (fX0_standsIfHit pl1_7 sp1_7 dr pz sl pl sp be ti t (nI x8_7) m).1; let pl_19 : Nat → Int32 := (fX0_standsIfHit pl1_7 sp1_7 dr pz sl pl sp be ti t (nI x8_7) m).2.1; let sp_20 : Nat → Int32 := (fX0_standsIfHit pl1_7 sp1_7 dr pz sl pl sp be ti t (nI x8_7) m).2.2.1; let be_21 : Int32 := (fX0_standsIfHit pl1_7 sp1_7 dr pz sl pl sp be ti t (nI x8_7) m).2.2.2.1; let ti_22 : Int32 := (fX0_standsIfHit pl1_7 sp1_7 dr pz sl pl sp be ti t (nI x8_7) m).2.2.2.2; if r_18 = 0 then (lX0_findOdds_31 r_1 v r_3 dr pz sl pl sp be ti t m n (x8_7 + 1) ou0_7 pl_19 sp_20 be_21 ti_22) else (let ou_25 : Int32 := ou0_7 + (r_13 * r_15); lX0_findOdds_31 r_1 v r_3 dr pz sl pl sp be ti t m n (x8_7 + 1) ou_25 pl_19 sp_20 be_21 ti_22))) else (lX0_findOdds_31 r_1 v r_3 dr pz sl pl sp be ti t m n (x8_7 + 1) ou0_7 pl1_7 sp1_7 be1_7 ti1_7))
def lX0_findOdds_120  : Nat → (Nat) → (Int32) → (Int32) → (Int32) × (Int32)
  | 0, x8_31, ou0_31, ol0_31 => ((ou0_31, ol0_31))
  | n + 1, x8_31, ou0_31, ol0_31 => (let ou_34 : Int32 := (fX0_divideOddsBy2 ou0_31 ol0_31).1; let ol_35 : Int32 := (fX0_divideOddsBy2 ou0_31 ol0_31).2; let ou_37 : Int32 := (fX0_divideOddsBy5 ou_34 ol_35).1; let ol_38 : Int32 := (fX0_divideOddsBy5 ou_34 ol_35).2; lX0_findOdds_120 n (x8_31 + 1) ou_37 ol_38)
def fX0_findOdds (pl3 : Nat → Int32) (sp3 : Nat → Int32) (be3 : Int32) (ti3 : Int32) (dr : Nat → Int32) (pz : Int32) (sl : Int32) (pl : Nat → Int32) (sp : Nat → Int32) (be : Int32) (ti : Int32) (t : Nat) (v : Int32) (m : Nat) : (Int32) × (Int32) × (Nat → Int32) × (Nat → Int32) × (Int32) × (Int32) := (let r_1 : Int32 := fX2_standing sp; let r_3 : Int32 := fX2_howMany sp; let r_5 : Int32 := fX8_power 10 r_3; let o7 := lX0_findOdds_31 r_1 v r_3 dr pz sl pl sp be ti t m 64 0 0 pl3 sp3 be3 ti3; let ou0_26 : Int32 := o7.1; let pl1_27 : Nat → Int32 := o7.2.1; let sp1_28 : Nat → Int32 := o7.2.2.1; let be1_29 : Int32 := o7.2.2.2.1; let ti1_30 : Int32 := o7.2.2.2.2; let o31 := lX0_findOdds_120 r_3.toNatClampNeg 0 ou0_26 r_5; let ou0_40 : Int32 := o31.1; let ol0_41 : Int32 := o31.2; (ou0_40, ol0_41, pl1_27, sp1_28, be1_29, ti1_30))
set_option maxHeartbeats 4000000 in
set_option maxRecDepth 100000 in
theorem bX0_findOdds {l : Launch} {g : Gl} {X : Cx} (C : Ok l g X RX0 cX0_findOdds 11 5) (zf : Nat) (za3 : Nat) (zp3 : Nat) (zq3 : Nat) (zb : Nat) (zd : Nat) (za : Nat) (zp : Nat) (zq : Nat) (rs : Int32) (rb : Nat) (ou : Int32) (ol : Int32) (pl3 : Nat → Int32) (sp3 : Nat → Int32) (be3 : Int32) (ti3 : Int32) (dr : Nat → Int32) (pz : Int32) (sl : Int32) (tp : Nat) (pl : Nat → Int32) (sp : Nat → Int32) (be : Int32) (ti : Int32) (t : Nat) (v : Int32) (m : Nat) (q0 : t < 6) (q1 : m < 2 ^ 31) (hR : RetV g X cX0_findOdds 11 0 0 (fl [wFut zf za3 rs rb ((fX0_findOdds pl3 sp3 be3 ti3 dr pz sl pl sp be ti t v m).1) ((fX0_findOdds pl3 sp3 be3 ti3 dr pz sl pl sp be ti t v m).2.1), wMom g za3 zp3 zq3 ((fX0_findOdds pl3 sp3 be3 ti3 dr pz sl pl sp be ti t v m).2.2.1) ((fX0_findOdds pl3 sp3 be3 ti3 dr pz sl pl sp be ti t v m).2.2.2.1) ((fX0_findOdds pl3 sp3 be3 ti3 dr pz sl pl sp be ti t v m).2.2.2.2.1) ((fX0_findOdds pl3 sp3 be3 ti3 dr pz sl pl sp be ti t v m).2.2.2.2.2), wTol g zb zd dr pz sl tp, wMom g za zp zq pl sp be ti])) : Vw g X 11 0 0 (fl [wFut zf za3 rs rb ou ol, wMom g za3 zp3 zq3 pl3 sp3 be3 ti3, wTol g zb zd dr pz sl tp, wMom g za zp zq pl sp be ti]) 0 [(0, .ref zf), (1, .ref zb), (2, .ref za), (3, .int (nI t)), (4, .int v), (5, .int (nI m))] [] := by
  refine r_aload_n (pc := 0) C dX0_findOdds_0 2 rfl ?_
  obtain ⟨r_1, e_r_1⟩ : ∃ z : Int32, z = fX2_standing sp := ⟨_, rfl⟩
  have K_2 := ctX2_standing l g za zp zq pl sp be ti  
  rw [← e_r_1] at K_2
  refine w_pI (pc := 1) C mv_X0_39 K_2 dX0_findOdds_1 (by decide) [3] rfl (by decide) 6 rfl rfl (Nat.le_of_ble_eq_true rfl) ⟨Nat.zero_le _, Nat.zero_le _⟩ ?_
  refine r_istore (pc := 4) [(6, .int r_1), (0, .ref zf), (1, .ref zb), (2, .ref za), (3, .int (nI t)), (4, .int v), (5, .int (nI m))] C dX0_findOdds_4 (by decide) rfl ?_
  refine r_aload_n (pc := 6) C dX0_findOdds_6 3 rfl ?_
  obtain ⟨r_3, e_r_3⟩ : ∃ z : Int32, z = fX2_howMany sp := ⟨_, rfl⟩
  have K_4 := ctX2_howMany l g za zp zq pl sp be ti  
  rw [← e_r_3] at K_4
  refine w_pI (pc := 7) C mv_X0_59 K_4 dX0_findOdds_7 (by decide) [3] rfl (by decide) 6 rfl rfl (Nat.le_of_ble_eq_true rfl) ⟨Nat.zero_le _, Nat.zero_le _⟩ ?_
  refine r_istore (pc := 10) [(7, .int r_3), (6, .int r_1), (0, .ref zf), (1, .ref zb), (2, .ref za), (3, .int (nI t)), (4, .int v), (5, .int (nI m))] C dX0_findOdds_10 (by decide) rfl ?_
  refine r_aload_n (pc := 12) C dX0_findOdds_12 2 rfl ?_
  refine r_iconst (pc := 13) 0 C dX0_findOdds_13 rfl ?_
  refine r_put (pc := 14) (fl [wFut zf za3 rs rb 0 ol, wMom g za3 zp3 zq3 pl3 sp3 be3 ti3, wTol g zb zd dr pz sl tp, wMom g za zp zq pl sp be ti]) C fp_X0_25 dX0_findOdds_14 0 rfl (Nat.le_of_ble_eq_true rfl) rfl rfl rfl ?_
  refine r_aload_n (pc := 17) C dX0_findOdds_17 2 rfl ?_
  refine r_bipush (pc := 18) 10 C dX0_findOdds_18 rfl ?_
  refine r_iload (pc := 20) C dX0_findOdds_20 0 rfl ?_
  obtain ⟨r_5, e_r_5⟩ : ∃ z : Int32, z = fX8_power 10 r_3 := ⟨_, rfl⟩
  have K_6 := ctX8_power l g   10 r_3 
  rw [← e_r_5] at K_6
  refine x_pI (pc := 22) C ms_X0_62 K_6 dX0_findOdds_22 (by decide) [] rfl (by decide) rfl (Nat.le_of_ble_eq_true rfl) ⟨Nat.zero_le _, Nat.zero_le _⟩ ?_
  refine r_put (pc := 25) (fl [wFut zf za3 rs rb 0 r_5, wMom g za3 zp3 zq3 pl3 sp3 be3 ti3, wTol g zb zd dr pz sl tp, wMom g za zp zq pl sp be ti]) C fp_X0_28 dX0_findOdds_25 0 rfl (Nat.le_of_ble_eq_true rfl) rfl rfl rfl ?_
  refine r_iconst (pc := 28) 0 C dX0_findOdds_28 rfl ?_
  refine r_istore (pc := 29) [(8, .int 0), (7, .int r_3), (6, .int r_1), (0, .ref zf), (1, .ref zb), (2, .ref za), (3, .int (nI t)), (4, .int v), (5, .int (nI m))] C dX0_findOdds_29 (by decide) rfl ?_
  have hX7 : ∀ (ou0_26 : Int32) (pl1_27 : Nat → Int32) (sp1_28 : Nat → Int32) (be1_29 : Int32) (ti1_30 : Int32) , (ou0_26 = (lX0_findOdds_31 r_1 v r_3 dr pz sl pl sp be ti t m 64 0 0 pl3 sp3 be3 ti3).1) → (pl1_27 = (lX0_findOdds_31 r_1 v r_3 dr pz sl pl sp be ti t m 64 0 0 pl3 sp3 be3 ti3).2.1) → (sp1_28 = (lX0_findOdds_31 r_1 v r_3 dr pz sl pl sp be ti t m 64 0 0 pl3 sp3 be3 ti3).2.2.1) → (be1_29 = (lX0_findOdds_31 r_1 v r_3 dr pz sl pl sp be ti t m 64 0 0 pl3 sp3 be3 ti3).2.2.2.1) → (ti1_30 = (lX0_findOdds_31 r_1 v r_3 dr pz sl pl sp be ti t m 64 0 0 pl3 sp3 be3 ti3).2.2.2.2) → Vw g X 11 0 0 (fl [wFut zf za3 rs rb ou0_26 r_5, wMom g za3 zp3 zq3 pl1_27 sp1_28 be1_29 ti1_30, wTol g zb zd dr pz sl tp, wMom g za zp zq pl sp be ti]) 117 [(0, .ref zf), (7, .int r_3)] [] := by
    intro ou0_26 pl1_27 sp1_28 be1_29 ti1_30 e_ou0_26 e_pl1_27 e_sp1_28 e_be1_29 e_ti1_30 
    refine r_iconst (pc := 117) 0 C dX0_findOdds_117 rfl ?_
    refine r_istore (pc := 118) [(8, .int 0), (0, .ref zf), (7, .int r_3)] C dX0_findOdds_118 (by decide) rfl ?_
    have hX31 : ∀ (ou0_40 : Int32) (ol0_41 : Int32) , (ou0_40 = (lX0_findOdds_120 r_3.toNatClampNeg 0 ou0_26 r_5).1) → (ol0_41 = (lX0_findOdds_120 r_3.toNatClampNeg 0 ou0_26 r_5).2) → Vw g X 11 0 0 (fl [wFut zf za3 rs rb ou0_40 ol0_41, wMom g za3 zp3 zq3 pl1_27 sp1_28 be1_29 ti1_30, wTol g zb zd dr pz sl tp, wMom g za zp zq pl sp be ti]) 141 [] [] := by
      intro ou0_40 ol0_41 e_ou0_40 e_ol0_41 
      have hf : fX0_findOdds pl3 sp3 be3 ti3 dr pz sl pl sp be ti t v m = (ou0_40, ol0_41, pl1_27, sp1_28, be1_29, ti1_30) := by first | (simp only [fX0_findOdds, ← e_r_1, ← e_r_3, ← e_r_5, ← e_ou0_26, ← e_pl1_27, ← e_sp1_28, ← e_be1_29, ← e_ti1_30, ← e_ou0_40, ← e_ol0_41]; done) | (subst e_r_1 e_r_3 e_r_5 e_ou0_26 e_pl1_27 e_sp1_28 e_be1_29 e_ti1_30 e_ou0_40 e_ol0_41; rfl) | (subst e_r_1 e_r_3 e_r_5 e_ou0_26 e_pl1_27 e_sp1_28 e_be1_29 e_ti1_30 e_ou0_40 e_ol0_41; simp only [fX0_findOdds]; done)
      rw [hf] at hR
      exact hR _ _ dX0_findOdds_141
    have hL31 : ∀ (n : Nat) (x8_31 : Nat) (ou0_31 : Int32) (ol0_31 : Int32) , (x8_31 + n = r_3.toNatClampNeg) → lX0_findOdds_120 n x8_31 ou0_31 ol0_31 = lX0_findOdds_120 r_3.toNatClampNeg 0 ou0_26 r_5 → Vw g X 11 0 0 (fl [wFut zf za3 rs rb ou0_31 ol0_31, wMom g za3 zp3 zq3 pl1_27 sp1_28 be1_29 ti1_30, wTol g zb zd dr pz sl tp, wMom g za zp zq pl sp be ti]) 120 [(0, .ref zf), (7, .int r_3), (8, .int (nI x8_31))] [] := by
      intro n
      induction n with
      | zero =>
        intro x8_31 ou0_31 ol0_31 hr31 hV31
        refine r_iload (pc := 120) C dX0_findOdds_120 2 rfl ?_
        refine r_iload (pc := 122) C dX0_findOdds_122 1 rfl ?_
        refine r_icmpge (pc := 124) 141 C dX0_findOdds_124 (by decide) (fun _ => ?_) (fun c_32 => absurd (cl_ge (by omega) (by have := clb r_3; omega)) c_32)
        refine u_lv [] [] rfl ?_
        exact hX31 _ _ (by rw [← hV31]; first | rfl | (simp only [lX0_findOdds_120]; done) | (simp [lX0_findOdds_120]; done)) (by rw [← hV31]; first | rfl | (simp only [lX0_findOdds_120]; done) | (simp [lX0_findOdds_120]; done))
      | succ n ih =>
        intro x8_31 ou0_31 ol0_31 hr31 hV31
        refine r_iload (pc := 120) C dX0_findOdds_120 2 rfl ?_
        refine r_iload (pc := 122) C dX0_findOdds_122 1 rfl ?_
        refine r_icmpge (pc := 124) 141 C dX0_findOdds_124 (by decide) (fun c_33 => absurd c_33 (cl_lt (by omega))) (fun _ => ?_)
        refine r_aload_n (pc := 127) C dX0_findOdds_127 0 rfl ?_
        obtain ⟨ou_34, e_ou_34⟩ : ∃ z : Int32, z = (fX0_divideOddsBy2 ou0_31 ol0_31).1 := ⟨_, rfl⟩
        obtain ⟨ol_35, e_ol_35⟩ : ∃ z : Int32, z = (fX0_divideOddsBy2 ou0_31 ol0_31).2 := ⟨_, rfl⟩
        have K_36 := ctX0_divideOddsBy2 l g zf za3 rs rb ou0_31 ol0_31  
        rw [← e_ou_34, ← e_ol_35] at K_36
        refine w_cV (pc := 128) [wFut zf za3 rs rb ou_34 ol_35, wMom g za3 zp3 zq3 pl1_27 sp1_28 be1_29 ti1_30, wTol g zb zd dr pz sl tp, wMom g za zp zq pl sp be ti] C mv_X0_83 K_36 dX0_findOdds_128 (by decide) [0] rfl (by decide) (by simp only [List.map_cons, List.map_nil, adFut]) rfl 0 rfl rfl (Nat.le_of_ble_eq_true rfl) ⟨Nat.zero_le _, Nat.zero_le _⟩ ?_
        refine r_aload_n (pc := 131) C dX0_findOdds_131 0 rfl ?_
        obtain ⟨ou_37, e_ou_37⟩ : ∃ z : Int32, z = (fX0_divideOddsBy5 ou_34 ol_35).1 := ⟨_, rfl⟩
        obtain ⟨ol_38, e_ol_38⟩ : ∃ z : Int32, z = (fX0_divideOddsBy5 ou_34 ol_35).2 := ⟨_, rfl⟩
        have K_39 := ctX0_divideOddsBy5 l g zf za3 rs rb ou_34 ol_35  
        rw [← e_ou_37, ← e_ol_38] at K_39
        refine w_cV (pc := 132) [wFut zf za3 rs rb ou_37 ol_38, wMom g za3 zp3 zq3 pl1_27 sp1_28 be1_29 ti1_30, wTol g zb zd dr pz sl tp, wMom g za zp zq pl sp be ti] C mv_X0_86 K_39 dX0_findOdds_132 (by decide) [0] rfl (by decide) (by simp only [List.map_cons, List.map_nil, adFut]) rfl 0 rfl rfl (Nat.le_of_ble_eq_true rfl) ⟨Nat.zero_le _, Nat.zero_le _⟩ ?_
        refine r_iinc (pc := 135) (nI (x8_31 + 1)) [(8, .int (nI (x8_31 + 1))), (0, .ref zf), (7, .int r_3)] C dX0_findOdds_135 2 rfl (inc1 _) (by decide) rfl ?_
        refine r_goto (pc := 138) 120 C dX0_findOdds_138 (by decide) ?_
        refine u_lv [(0, .ref zf), (7, .int r_3), (8, .int (nI (x8_31 + 1)))] [1, 2, 0] rfl ?_
        exact ih (x8_31 + 1) ou_37 ol_38 (by omega) (by rw [← hV31]; first | (simp only [lX0_findOdds_120, ← e_ou_34, ← e_ol_35, ← e_ou_37, ← e_ol_38]; done) | (subst e_ou_34 e_ol_35 e_ou_37 e_ol_38; rfl) | (subst e_ou_34 e_ol_35 e_ou_37 e_ol_38; simp only [lX0_findOdds_120]; done))
    refine u_lv [(0, .ref zf), (7, .int r_3), (8, .int 0)] [1, 2, 0] rfl ?_
    exact hL31 r_3.toNatClampNeg 0 ou0_26 r_5 (by omega) rfl
  have hL7 : ∀ (n : Nat) (x8_7 : Nat) (ou0_7 : Int32) (pl1_7 : Nat → Int32) (sp1_7 : Nat → Int32) (be1_7 : Int32) (ti1_7 : Int32) , (x8_7 + n = 64) → lX0_findOdds_31 r_1 v r_3 dr pz sl pl sp be ti t m n x8_7 ou0_7 pl1_7 sp1_7 be1_7 ti1_7 = lX0_findOdds_31 r_1 v r_3 dr pz sl pl sp be ti t m 64 0 0 pl3 sp3 be3 ti3 → Vw g X 11 0 0 (fl [wFut zf za3 rs rb ou0_7 r_5, wMom g za3 zp3 zq3 pl1_7 sp1_7 be1_7 ti1_7, wTol g zb zd dr pz sl tp, wMom g za zp zq pl sp be ti]) 31 [(0, .ref zf), (1, .ref zb), (2, .ref za), (3, .int (nI t)), (4, .int v), (5, .int (nI m)), (6, .int r_1), (7, .int r_3), (8, .int (nI x8_7))] [] := by
    intro n
    induction n with
    | zero =>
      intro x8_7 ou0_7 pl1_7 sp1_7 be1_7 ti1_7 hr7 hV7
      refine r_iload (pc := 31) C dX0_findOdds_31 8 rfl ?_
      refine r_bipush (pc := 33) 64 C dX0_findOdds_33 rfl ?_
      refine r_icmpgeN (pc := 35) x8_7 64 117 C dX0_findOdds_35 (by decide) rfl rfl (by omega) (by omega) (fun _ => ?_) (fun c_8 => absurd (by omega) c_8)
      refine u_lv [(0, .ref zf), (7, .int r_3)] [0, 7] rfl ?_
      exact hX7 _ _ _ _ _ (by rw [← hV7]; first | rfl | (simp only [lX0_findOdds_31]; done) | (simp [lX0_findOdds_31]; done)) (by rw [← hV7]; first | rfl | (simp only [lX0_findOdds_31]; done) | (simp [lX0_findOdds_31]; done)) (by rw [← hV7]; first | rfl | (simp only [lX0_findOdds_31]; done) | (simp [lX0_findOdds_31]; done)) (by rw [← hV7]; first | rfl | (simp only [lX0_findOdds_31]; done) | (simp [lX0_findOdds_31]; done)) (by rw [← hV7]; first | rfl | (simp only [lX0_findOdds_31]; done) | (simp [lX0_findOdds_31]; done))
    | succ n ih =>
      intro x8_7 ou0_7 pl1_7 sp1_7 be1_7 ti1_7 hr7 hV7
      refine r_iload (pc := 31) C dX0_findOdds_31 8 rfl ?_
      refine r_bipush (pc := 33) 64 C dX0_findOdds_33 rfl ?_
      refine r_icmpgeN (pc := 35) x8_7 64 117 C dX0_findOdds_35 (by decide) rfl rfl (by omega) (by omega) (fun c_9 => absurd c_9 (by omega)) (fun _ => ?_)
      refine r_iload (pc := 38) C dX0_findOdds_38 8 rfl ?_
      refine r_iload (pc := 40) C dX0_findOdds_40 6 rfl ?_
      refine r_iconst (pc := 42) (-1) C dX0_findOdds_42 rfl ?_
      refine r_ixor (pc := 43) C dX0_findOdds_43 ?_
      refine r_iand (pc := 44) C dX0_findOdds_44 ?_
      refine r_ifeq (pc := 45) 51 C dX0_findOdds_45 (by decide) (fun c_10 => ?_) (fun c_10 => ?_)
      · refine r_iload (pc := 51) C dX0_findOdds_51 8 rfl ?_
        obtain ⟨r_11, e_r_11⟩ : ∃ z : Int32, z = fJ6_bitCount_0f7a4 (nI x8_7) := ⟨_, rfl⟩
        have K_12 := ctJ6_bitCount_0f7a4 l g   (nI x8_7) 
        rw [← e_r_11] at K_12
        refine x_pI (pc := 53) C ms_X0_73 K_12 dX0_findOdds_53 (by decide) [] rfl (by decide) rfl (Nat.le_of_ble_eq_true rfl) ⟨Nat.zero_le _, Nat.zero_le _⟩ ?_
        refine r_istore (pc := 56) [(9, .int r_11), (0, .ref zf), (1, .ref zb), (2, .ref za), (3, .int (nI t)), (4, .int v), (5, .int (nI m)), (6, .int r_1), (7, .int r_3), (8, .int (nI x8_7))] C dX0_findOdds_56 (by decide) rfl ?_
        refine r_iload (pc := 58) C dX0_findOdds_58 5 rfl ?_
        refine r_iload (pc := 60) C dX0_findOdds_60 0 rfl ?_
        obtain ⟨r_13, e_r_13⟩ : ∃ z : Int32, z = fX8_power v r_11 := ⟨_, rfl⟩
        have K_14 := ctX8_power l g   v r_11 
        rw [← e_r_13] at K_14
        refine x_pI (pc := 62) C ms_X0_62 K_14 dX0_findOdds_62 (by decide) [] rfl (by decide) rfl (Nat.le_of_ble_eq_true rfl) ⟨Nat.zero_le _, Nat.zero_le _⟩ ?_
        refine r_bipush (pc := 65) 10 C dX0_findOdds_65 rfl ?_
        refine r_iload (pc := 67) C dX0_findOdds_67 5 rfl ?_
        refine r_isub (pc := 69) C dX0_findOdds_69 ?_
        refine r_iload (pc := 70) C dX0_findOdds_70 8 rfl ?_
        refine r_iload (pc := 72) C dX0_findOdds_72 0 rfl ?_
        refine r_isub (pc := 74) C dX0_findOdds_74 ?_
        obtain ⟨r_15, e_r_15⟩ : ∃ z : Int32, z = fX8_power (10 - v) (r_3 - r_11) := ⟨_, rfl⟩
        have K_16 := ctX8_power l g   (10 - v) (r_3 - r_11) 
        rw [← e_r_15] at K_16
        refine x_pI (pc := 75) C ms_X0_62 K_16 dX0_findOdds_75 (by decide) [] rfl (by decide) rfl (Nat.le_of_ble_eq_true rfl) ⟨Nat.zero_le _, Nat.zero_le _⟩ ?_
        refine r_imul (pc := 78) C dX0_findOdds_78 ?_
        refine r_istore (pc := 79) [(10, .int (r_13 * r_15)), (9, .int r_11), (0, .ref zf), (1, .ref zb), (2, .ref za), (3, .int (nI t)), (4, .int v), (5, .int (nI m)), (6, .int r_1), (7, .int r_3), (8, .int (nI x8_7))] C dX0_findOdds_79 (by decide) rfl ?_
        refine r_iload (pc := 81) C dX0_findOdds_81 0 rfl ?_
        refine r_ifle (pc := 83) 111 C dX0_findOdds_83 (by decide) (fun c_17 => ?_) (fun c_17 => ?_)
        · refine r_iinc (pc := 111) (nI (x8_7 + 1)) [(8, .int (nI (x8_7 + 1))), (10, .int (r_13 * r_15)), (9, .int r_11), (0, .ref zf), (1, .ref zb), (2, .ref za), (3, .int (nI t)), (4, .int v), (5, .int (nI m)), (6, .int r_1), (7, .int r_3)] C dX0_findOdds_111 10 rfl (inc1 _) (by decide) rfl ?_
          refine r_goto (pc := 114) 31 C dX0_findOdds_114 (by decide) ?_
          refine u_lv [(0, .ref zf), (1, .ref zb), (2, .ref za), (3, .int (nI t)), (4, .int v), (5, .int (nI m)), (6, .int r_1), (7, .int r_3), (8, .int (nI (x8_7 + 1)))] [3, 4, 5, 6, 7, 8, 9, 10, 0] rfl ?_
          exact ih (x8_7 + 1) ou0_7 pl1_7 sp1_7 be1_7 ti1_7 (by omega) (by rw [← hV7]; first | (simp only [lX0_findOdds_31, ← e_r_11, ← e_r_13, ← e_r_15, if_pos c_10, if_pos c_17]; done) | (subst e_r_11 e_r_13 e_r_15; simp only [lX0_findOdds_31, if_pos c_10, if_pos c_17]; done) | (subst e_r_11 e_r_13 e_r_15; rfl) | (subst e_r_11 e_r_13 e_r_15; simp [lX0_findOdds_31, if_pos c_10, if_pos c_17]; done))
        · refine r_aload_n (pc := 86) C dX0_findOdds_86 2 rfl ?_
          refine r_aload_n (pc := 87) C dX0_findOdds_87 3 rfl ?_
          refine r_aload_n (pc := 88) C dX0_findOdds_88 4 rfl ?_
          refine r_iload_n (pc := 89) C dX0_findOdds_89 5 rfl ?_
          refine r_iload (pc := 90) C dX0_findOdds_90 10 rfl ?_
          refine r_iload (pc := 92) C dX0_findOdds_92 7 rfl ?_
          obtain ⟨r_18, e_r_18⟩ : ∃ z : Int32, z = (fX0_standsIfHit pl1_7 sp1_7 dr pz sl pl sp be ti t (nI x8_7) m).1 := ⟨_, rfl⟩
          obtain ⟨pl_19, e_pl_19⟩ : ∃ z : Nat → Int32, z = (fX0_standsIfHit pl1_7 sp1_7 dr pz sl pl sp be ti t (nI x8_7) m).2.1 := ⟨_, rfl⟩
          obtain ⟨sp_20, e_sp_20⟩ : ∃ z : Nat → Int32, z = (fX0_standsIfHit pl1_7 sp1_7 dr pz sl pl sp be ti t (nI x8_7) m).2.2.1 := ⟨_, rfl⟩
          obtain ⟨be_21, e_be_21⟩ : ∃ z : Int32, z = (fX0_standsIfHit pl1_7 sp1_7 dr pz sl pl sp be ti t (nI x8_7) m).2.2.2.1 := ⟨_, rfl⟩
          obtain ⟨ti_22, e_ti_22⟩ : ∃ z : Int32, z = (fX0_standsIfHit pl1_7 sp1_7 dr pz sl pl sp be ti t (nI x8_7) m).2.2.2.2 := ⟨_, rfl⟩
          have K_23 := ctX0_standsIfHit l g zf za3 zp3 zq3 zb zd za zp zq rs rb ou0_7 r_5 pl1_7 sp1_7 be1_7 ti1_7 dr pz sl tp pl sp be ti t (nI x8_7) m (by omega) (by omega)
          rw [← e_r_18, ← e_pl_19, ← e_sp_20, ← e_be_21, ← e_ti_22] at K_23
          refine w_cI (pc := 94) [wFut zf za3 rs rb ou0_7 r_5, wMom g za3 zp3 zq3 pl_19 sp_20 be_21 ti_22, wTol g zb zd dr pz sl tp, wMom g za zp zq pl sp be ti] C mv_X0_79 K_23 dX0_findOdds_94 (by decide) [0, 1, 2, 3] rfl (by decide) (by simp only [List.map_cons, List.map_nil, adFut, adMom, adTol]) rfl 0 rfl rfl (Nat.le_of_ble_eq_true rfl) ⟨Nat.zero_le _, Nat.zero_le _⟩ ?_
          refine r_ifeq (pc := 97) 111 C dX0_findOdds_97 (by decide) (fun c_24 => ?_) (fun c_24 => ?_)
          · refine r_iinc (pc := 111) (nI (x8_7 + 1)) [(8, .int (nI (x8_7 + 1))), (10, .int (r_13 * r_15)), (9, .int r_11), (0, .ref zf), (1, .ref zb), (2, .ref za), (3, .int (nI t)), (4, .int v), (5, .int (nI m)), (6, .int r_1), (7, .int r_3)] C dX0_findOdds_111 10 rfl (inc1 _) (by decide) rfl ?_
            refine r_goto (pc := 114) 31 C dX0_findOdds_114 (by decide) ?_
            refine u_lv [(0, .ref zf), (1, .ref zb), (2, .ref za), (3, .int (nI t)), (4, .int v), (5, .int (nI m)), (6, .int r_1), (7, .int r_3), (8, .int (nI (x8_7 + 1)))] [3, 4, 5, 6, 7, 8, 9, 10, 0] rfl ?_
            exact ih (x8_7 + 1) ou0_7 pl_19 sp_20 be_21 ti_22 (by omega) (by rw [← hV7]; first | (simp only [lX0_findOdds_31, ← e_r_11, ← e_r_13, ← e_r_15, ← e_r_18, ← e_pl_19, ← e_sp_20, ← e_be_21, ← e_ti_22, if_pos c_10, if_neg c_17, if_pos c_24]; done) | (subst e_r_11 e_r_13 e_r_15 e_r_18 e_pl_19 e_sp_20 e_be_21 e_ti_22; simp only [lX0_findOdds_31, if_pos c_10, if_neg c_17, if_pos c_24]; done) | (subst e_r_11 e_r_13 e_r_15 e_r_18 e_pl_19 e_sp_20 e_be_21 e_ti_22; rfl) | (subst e_r_11 e_r_13 e_r_15 e_r_18 e_pl_19 e_sp_20 e_be_21 e_ti_22; simp [lX0_findOdds_31, if_pos c_10, if_neg c_17, if_pos c_24]; done))
          · refine r_aload_n (pc := 100) C dX0_findOdds_100 2 rfl ?_
            refine r_dup (pc := 101) C dX0_findOdds_101 rfl ?_
            refine r_get (pc := 102) C fl_X0_25 dX0_findOdds_102 0 rfl rfl ?_
            refine r_iload (pc := 105) C dX0_findOdds_105 0 rfl ?_
            refine r_iadd (pc := 107) C dX0_findOdds_107 ?_
            refine u_int (fun ou_25 e_ou_25 => ?_)
            refine r_put (pc := 108) (fl [wFut zf za3 rs rb ou_25 r_5, wMom g za3 zp3 zq3 pl_19 sp_20 be_21 ti_22, wTol g zb zd dr pz sl tp, wMom g za zp zq pl sp be ti]) C fp_X0_25 dX0_findOdds_108 0 rfl (Nat.le_of_ble_eq_true rfl) rfl rfl rfl ?_
            refine r_iinc (pc := 111) (nI (x8_7 + 1)) [(8, .int (nI (x8_7 + 1))), (10, .int (r_13 * r_15)), (9, .int r_11), (0, .ref zf), (1, .ref zb), (2, .ref za), (3, .int (nI t)), (4, .int v), (5, .int (nI m)), (6, .int r_1), (7, .int r_3)] C dX0_findOdds_111 10 rfl (inc1 _) (by decide) rfl ?_
            refine r_goto (pc := 114) 31 C dX0_findOdds_114 (by decide) ?_
            refine u_lv [(0, .ref zf), (1, .ref zb), (2, .ref za), (3, .int (nI t)), (4, .int v), (5, .int (nI m)), (6, .int r_1), (7, .int r_3), (8, .int (nI (x8_7 + 1)))] [3, 4, 5, 6, 7, 8, 9, 10, 0] rfl ?_
            exact ih (x8_7 + 1) ou_25 pl_19 sp_20 be_21 ti_22 (by omega) (by rw [← hV7]; first | (simp only [lX0_findOdds_31, ← e_r_11, ← e_r_13, ← e_r_15, ← e_r_18, ← e_pl_19, ← e_sp_20, ← e_be_21, ← e_ti_22, ← e_ou_25, if_pos c_10, if_neg c_17, if_neg c_24]; done) | (subst e_r_11 e_r_13 e_r_15 e_r_18 e_pl_19 e_sp_20 e_be_21 e_ti_22 e_ou_25; simp only [lX0_findOdds_31, if_pos c_10, if_neg c_17, if_neg c_24]; done) | (subst e_r_11 e_r_13 e_r_15 e_r_18 e_pl_19 e_sp_20 e_be_21 e_ti_22 e_ou_25; rfl) | (subst e_r_11 e_r_13 e_r_15 e_r_18 e_pl_19 e_sp_20 e_be_21 e_ti_22 e_ou_25; simp [lX0_findOdds_31, if_pos c_10, if_neg c_17, if_neg c_24]; done))
      · refine r_goto (pc := 48) 111 C dX0_findOdds_48 (by decide) ?_
        refine r_iinc (pc := 111) (nI (x8_7 + 1)) [(8, .int (nI (x8_7 + 1))), (0, .ref zf), (1, .ref zb), (2, .ref za), (3, .int (nI t)), (4, .int v), (5, .int (nI m)), (6, .int r_1), (7, .int r_3)] C dX0_findOdds_111 8 rfl (inc1 _) (by decide) rfl ?_
        refine r_goto (pc := 114) 31 C dX0_findOdds_114 (by decide) ?_
        refine u_lv [(0, .ref zf), (1, .ref zb), (2, .ref za), (3, .int (nI t)), (4, .int v), (5, .int (nI m)), (6, .int r_1), (7, .int r_3), (8, .int (nI (x8_7 + 1)))] [1, 2, 3, 4, 5, 6, 7, 8, 0] rfl ?_
        exact ih (x8_7 + 1) ou0_7 pl1_7 sp1_7 be1_7 ti1_7 (by omega) (by rw [← hV7]; first | (simp only [lX0_findOdds_31, if_neg c_10]; done) | rfl | (simp [lX0_findOdds_31, if_neg c_10]; done))
  refine u_lv [(0, .ref zf), (1, .ref zb), (2, .ref za), (3, .int (nI t)), (4, .int v), (5, .int (nI m)), (6, .int r_1), (7, .int r_3), (8, .int 0)] [3, 4, 5, 6, 7, 8, 2, 1, 0] rfl ?_
  exact hL7 64 0 0 pl3 sp3 be3 ti3 (by omega) rfl
theorem ctX0_findOdds (l : Launch) (g : Gl) (zf : Nat) (za3 : Nat) (zp3 : Nat) (zq3 : Nat) (zb : Nat) (zd : Nat) (za : Nat) (zp : Nat) (zq : Nat) (rs : Int32) (rb : Nat) (ou : Int32) (ol : Int32) (pl3 : Nat → Int32) (sp3 : Nat → Int32) (be3 : Int32) (ti3 : Int32) (dr : Nat → Int32) (pz : Int32) (sl : Int32) (tp : Nat) (pl : Nat → Int32) (sp : Nat → Int32) (be : Int32) (ti : Int32) (t : Nat) (v : Int32) (m : Nat) (q0 : t < 6) (q1 : m < 2 ^ 31) : CtV l g yX0_findOdds cX0_findOdds 11 5 [.ref zf, .ref zb, .ref za, .int (nI t), .int v, .int (nI m)] (fl [wFut zf za3 rs rb ou ol, wMom g za3 zp3 zq3 pl3 sp3 be3 ti3, wTol g zb zd dr pz sl tp, wMom g za zp zq pl sp be ti]) (fl [wFut zf za3 rs rb ((fX0_findOdds pl3 sp3 be3 ti3 dr pz sl pl sp be ti t v m).1) ((fX0_findOdds pl3 sp3 be3 ti3 dr pz sl pl sp be ti t v m).2.1), wMom g za3 zp3 zq3 ((fX0_findOdds pl3 sp3 be3 ti3 dr pz sl pl sp be ti t v m).2.2.1) ((fX0_findOdds pl3 sp3 be3 ti3 dr pz sl pl sp be ti t v m).2.2.2.1) ((fX0_findOdds pl3 sp3 be3 ti3 dr pz sl pl sp be ti t v m).2.2.2.2.1) ((fX0_findOdds pl3 sp3 be3 ti3 dr pz sl pl sp be ti t v m).2.2.2.2.2), wTol g zb zd dr pz sl tp, wMom g za zp zq pl sp be ti]) := mkV [(0, .ref zf), (1, .ref zb), (2, .ref za), (3, .int (nI t)), (4, .int v), (5, .int (nI m))] (by decide) (Nat.le_of_ble_eq_true rfl) rfl (fun X C hR => bX0_findOdds C zf za3 zp3 zq3 zb zd za zp zq rs rb ou ol pl3 sp3 be3 ti3 dr pz sl tp pl sp be ti t v m q0 q1 hR)

def fX3_remember (PL : Nat → Nat → Int32) (SP : Nat → Nat → Int32) (BE : Nat → Int32) (TI : Nat → Int32) (nx : Nat) (kn : Nat) (pl : Nat → Int32) (sp : Nat → Int32) (be : Int32) (ti : Int32) : (Nat → Nat → Int32) × (Nat → Nat → Int32) × (Nat → Int32) × (Nat → Int32) × (Nat) × (Nat) := (let pl_1 : Nat → Int32 := (fX2_copy (PL nx) (SP nx) pl sp be ti).1; let sp_2 : Nat → Int32 := (fX2_copy (PL nx) (SP nx) pl sp be ti).2.1; let be_3 : Int32 := (fX2_copy (PL nx) (SP nx) pl sp be ti).2.2.1; let ti_4 : Int32 := (fX2_copy (PL nx) (SP nx) pl sp be ti).2.2.2; let PL_6 : Nat → Nat → Int32 := va_up PL nx pl_1; let SP_7 : Nat → Nat → Int32 := va_up SP nx sp_2; let BE_8 : Nat → Int32 := va_up BE nx be_3; let TI_9 : Nat → Int32 := va_up TI nx ti_4; let w_11 : Nat := (if 10 ≤ (nx + 1) then (0) else ((nx + 1))); (PL_6, SP_7, BE_8, TI_9, w_11, (min 10 (kn + 1))))
set_option maxHeartbeats 4000000 in
set_option maxRecDepth 100000 in
theorem bX3_remember {l : Launch} {g : Gl} {X : Cx} (C : Ok l g X RX3 cX3_remember 2 2) (zps : Nat) (zma : Nat) (zmo : Nat → Nat) (zmp : Nat → Nat) (zmq : Nat → Nat) (za : Nat) (zp : Nat) (zq : Nat) (PL : Nat → Nat → Int32) (SP : Nat → Nat → Int32) (BE : Nat → Int32) (TI : Nat → Int32) (nx : Nat) (kn : Nat) (pl : Nat → Int32) (sp : Nat → Int32) (be : Int32) (ti : Int32) (q0 : nx < 10) (q1 : kn ≤ 10) (hR : RetV g X cX3_remember 2 0 0 (fl [wPas g zps zma zmo zmp zmq ((fX3_remember PL SP BE TI nx kn pl sp be ti).1) ((fX3_remember PL SP BE TI nx kn pl sp be ti).2.1) ((fX3_remember PL SP BE TI nx kn pl sp be ti).2.2.1) ((fX3_remember PL SP BE TI nx kn pl sp be ti).2.2.2.1) ((fX3_remember PL SP BE TI nx kn pl sp be ti).2.2.2.2.1) ((fX3_remember PL SP BE TI nx kn pl sp be ti).2.2.2.2.2), wMom g za zp zq pl sp be ti])) : Vw g X 2 0 0 (fl [wPas g zps zma zmo zmp zmq PL SP BE TI nx kn, wMom g za zp zq pl sp be ti]) 0 [(0, .ref zps), (1, .ref za)] [] := by
  refine r_aload_n (pc := 0) C dX3_remember_0 0 rfl ?_
  refine r_get (pc := 1) C fl_X3_11 dX3_remember_1 0 rfl rfl ?_
  refine r_aload_n (pc := 4) C dX3_remember_4 0 rfl ?_
  refine r_get (pc := 5) C fl_X3_17 dX3_remember_5 0 rfl rfl ?_
  refine r_aald (pc := 8) nx C dX3_remember_8 1 rfl rfl (by omega) (by decide) rfl ?_
  refine u_perm (fl [wPa0 g zps zma zmo nx kn, wMom g (zmo nx) (zmp nx) (zmq nx) (PL nx) (SP nx) (BE nx) (TI nx), wMom g za zp zq pl sp be ti, wPax g zmo zmp zmq PL SP BE TI nx]) (pas_fl g _ _ _ _ _ _ _ _ _ _ _ (by omega) _) ?_
  refine r_aload_n (pc := 9) C dX3_remember_9 1 rfl ?_
  obtain ⟨pl_1, e_pl_1⟩ : ∃ z : Nat → Int32, z = (fX2_copy (PL nx) (SP nx) pl sp be ti).1 := ⟨_, rfl⟩
  obtain ⟨sp_2, e_sp_2⟩ : ∃ z : Nat → Int32, z = (fX2_copy (PL nx) (SP nx) pl sp be ti).2.1 := ⟨_, rfl⟩
  obtain ⟨be_3, e_be_3⟩ : ∃ z : Int32, z = (fX2_copy (PL nx) (SP nx) pl sp be ti).2.2.1 := ⟨_, rfl⟩
  obtain ⟨ti_4, e_ti_4⟩ : ∃ z : Int32, z = (fX2_copy (PL nx) (SP nx) pl sp be ti).2.2.2 := ⟨_, rfl⟩
  have K_5 := ctX2_copy l g (zmo nx) (zmp nx) (zmq nx) za zp zq (PL nx) (SP nx) (BE nx) (TI nx) pl sp be ti  
  rw [← e_pl_1, ← e_sp_2, ← e_be_3, ← e_ti_4] at K_5
  refine w_cV (pc := 10) [wPa0 g zps zma zmo nx kn, wMom g (zmo nx) (zmp nx) (zmq nx) pl_1 sp_2 be_3 ti_4, wMom g za zp zq pl sp be ti, wPax g zmo zmp zmq PL SP BE TI nx] C mv_X3_25 K_5 dX3_remember_10 (by decide) [1, 2] rfl (by decide) (by simp only [List.map_cons, List.map_nil, adMom]) rfl 2 rfl rfl (Nat.le_of_ble_eq_true rfl) ⟨Nat.zero_le _, Nat.zero_le _⟩ ?_
  obtain ⟨PL_6, e_PL_6⟩ : ∃ z : Nat → Nat → Int32, z = va_up PL nx pl_1 := ⟨_, rfl⟩
  obtain ⟨SP_7, e_SP_7⟩ : ∃ z : Nat → Nat → Int32, z = va_up SP nx sp_2 := ⟨_, rfl⟩
  obtain ⟨BE_8, e_BE_8⟩ : ∃ z : Nat → Int32, z = va_up BE nx be_3 := ⟨_, rfl⟩
  obtain ⟨TI_9, e_TI_9⟩ : ∃ z : Nat → Int32, z = va_up TI nx ti_4 := ⟨_, rfl⟩
  refine u_perm (fl [wPas g zps zma zmo zmp zmq PL_6 SP_7 BE_8 TI_9 nx kn, wMom g za zp zq pl sp be ti]) (by rw [e_PL_6, e_SP_7, e_BE_8, e_TI_9]; refine (List.Perm.symm ((pas_fl g _ _ _ _ _ _ _ _ _ _ _ (k := nx) (by omega) _).trans ?_)); rw [pax_up, va_up_self, va_up_self, va_up_self, va_up_self]) ?_
  refine r_aload_n (pc := 13) C dX3_remember_13 0 rfl ?_
  refine r_aload_n (pc := 14) C dX3_remember_14 0 rfl ?_
  refine r_get (pc := 15) C fl_X3_17 dX3_remember_15 0 rfl rfl ?_
  refine r_iconst (pc := 18) 1 C dX3_remember_18 rfl ?_
  refine r_iaddN (pc := 19) nx 1 C dX3_remember_19 rfl rfl ?_
  refine r_bipush (pc := 20) 10 C dX3_remember_20 rfl ?_
  have hJ_12 : ∀ (w_11 : Nat) , (w_11 = (if 10 ≤ (nx + 1) then (0) else ((nx + 1)))) → Vw g X 2 0 0 (fl [wPas g zps zma zmo zmp zmq PL_6 SP_7 BE_8 TI_9 nx kn, wMom g za zp zq pl sp be ti]) 35 [(0, .ref zps)] [.int (nI w_11), .ref zps] := by
    intro w_11 e_w_11
    have m_w_11 : w_11 = 0 ∨ w_11 = (nx + 1) := by rw [e_w_11]; (repeat' split) <;> simp
    refine r_put (pc := 35) (fl [wPas g zps zma zmo zmp zmq PL_6 SP_7 BE_8 TI_9 w_11 kn, wMom g za zp zq pl sp be ti]) C fp_X3_17 dX3_remember_35 0 rfl (Nat.le_of_ble_eq_true rfl) rfl rfl rfl ?_
    refine r_aload_n (pc := 38) C dX3_remember_38 0 rfl ?_
    refine r_bipush (pc := 39) 10 C dX3_remember_39 rfl ?_
    refine r_aload_n (pc := 41) C dX3_remember_41 0 rfl ?_
    refine r_get (pc := 42) C fl_X3_21 dX3_remember_42 0 rfl rfl ?_
    refine r_iconst (pc := 45) 1 C dX3_remember_45 rfl ?_
    refine r_iaddN (pc := 46) kn 1 C dX3_remember_46 rfl rfl ?_
    refine r_mminN (pc := 47) 10 (kn + 1) C dX3_remember_47 ma_X3_29 (by decide) (Nat.le_of_ble_eq_true rfl) ⟨Nat.zero_le _, Nat.zero_le _⟩ rfl rfl (by omega) (by omega) ?_
    refine r_put (pc := 50) (fl [wPas g zps zma zmo zmp zmq PL_6 SP_7 BE_8 TI_9 w_11 (min 10 (kn + 1)), wMom g za zp zq pl sp be ti]) C fp_X3_21 dX3_remember_50 0 rfl (Nat.le_of_ble_eq_true rfl) rfl rfl rfl ?_
    have hf : fX3_remember PL SP BE TI nx kn pl sp be ti = (PL_6, SP_7, BE_8, TI_9, w_11, (min 10 (kn + 1))) := by first | (simp only [fX3_remember, ← e_pl_1, ← e_sp_2, ← e_be_3, ← e_ti_4, ← e_PL_6, ← e_SP_7, ← e_BE_8, ← e_TI_9, ← e_w_11]; done) | (subst e_pl_1 e_sp_2 e_be_3 e_ti_4 e_PL_6 e_SP_7 e_BE_8 e_TI_9 e_w_11; rfl) | (subst e_pl_1 e_sp_2 e_be_3 e_ti_4 e_PL_6 e_SP_7 e_BE_8 e_TI_9 e_w_11; simp only [fX3_remember]; done)
    rw [hf] at hR
    exact hR _ _ dX3_remember_53
  refine r_icmpgeN (pc := 22) (nx + 1) 10 34 C dX3_remember_22 (by decide) rfl rfl (by omega) (by omega) (fun c_10 => ?_) (fun c_10 => ?_)
  · refine r_iconst (pc := 34) 0 C dX3_remember_34 rfl ?_
    refine u_lv [(0, .ref zps)] [0] rfl ?_
    exact hJ_12 _ (by first | (simp only [if_pos c_10]; done) | rfl | (simp [if_pos c_10]; done))
  · refine r_aload_n (pc := 25) C dX3_remember_25 0 rfl ?_
    refine r_get (pc := 26) C fl_X3_17 dX3_remember_26 0 rfl rfl ?_
    refine r_iconst (pc := 29) 1 C dX3_remember_29 rfl ?_
    refine r_iaddN (pc := 30) nx 1 C dX3_remember_30 rfl rfl ?_
    refine r_goto (pc := 31) 35 C dX3_remember_31 (by decide) ?_
    refine u_lv [(0, .ref zps)] [0] rfl ?_
    exact hJ_12 _ (by first | (simp only [if_neg c_10]; done) | rfl | (simp [if_neg c_10]; done))
theorem ctX3_remember (l : Launch) (g : Gl) (zps : Nat) (zma : Nat) (zmo : Nat → Nat) (zmp : Nat → Nat) (zmq : Nat → Nat) (za : Nat) (zp : Nat) (zq : Nat) (PL : Nat → Nat → Int32) (SP : Nat → Nat → Int32) (BE : Nat → Int32) (TI : Nat → Int32) (nx : Nat) (kn : Nat) (pl : Nat → Int32) (sp : Nat → Int32) (be : Int32) (ti : Int32) (q0 : nx < 10) (q1 : kn ≤ 10) : CtV l g yX3_remember cX3_remember 2 2 [.ref zps, .ref za] (fl [wPas g zps zma zmo zmp zmq PL SP BE TI nx kn, wMom g za zp zq pl sp be ti]) (fl [wPas g zps zma zmo zmp zmq ((fX3_remember PL SP BE TI nx kn pl sp be ti).1) ((fX3_remember PL SP BE TI nx kn pl sp be ti).2.1) ((fX3_remember PL SP BE TI nx kn pl sp be ti).2.2.1) ((fX3_remember PL SP BE TI nx kn pl sp be ti).2.2.2.1) ((fX3_remember PL SP BE TI nx kn pl sp be ti).2.2.2.2.1) ((fX3_remember PL SP BE TI nx kn pl sp be ti).2.2.2.2.2), wMom g za zp zq pl sp be ti]) := mkV [(0, .ref zps), (1, .ref za)] (by decide) (Nat.le_of_ble_eq_true rfl) rfl (fun X C hR => bX3_remember C zps zma zmo zmp zmq za zp zq PL SP BE TI nx kn pl sp be ti q0 q1 hR)

def fX3_recall (PL : Nat → Nat → Int32) (SP : Nat → Nat → Int32) (BE : Nat → Int32) (TI : Nat → Int32) (nx : Nat) (kn : Nat) (pl : Nat → Int32) (sp : Nat → Int32) (be : Int32) (ti : Int32) : (Int32) × (Nat) × (Nat) × (Nat → Int32) × (Nat → Int32) × (Int32) × (Int32) := (if kn = 0 then ((0, nx, kn, pl, sp, be, ti)) else (let w_3 : Nat := (if nx ≤ 0 then (9) else ((nx - 1))); let pl_5 : Nat → Int32 := (fX2_copy pl sp (PL w_3) (SP w_3) (BE w_3) (TI w_3)).1; let sp_6 : Nat → Int32 := (fX2_copy pl sp (PL w_3) (SP w_3) (BE w_3) (TI w_3)).2.1; let be_7 : Int32 := (fX2_copy pl sp (PL w_3) (SP w_3) (BE w_3) (TI w_3)).2.2.1; let ti_8 : Int32 := (fX2_copy pl sp (PL w_3) (SP w_3) (BE w_3) (TI w_3)).2.2.2; (1, w_3, (kn - 1), pl_5, sp_6, be_7, ti_8)))
set_option maxHeartbeats 4000000 in
set_option maxRecDepth 100000 in
theorem bX3_recall {l : Launch} {g : Gl} {X : Cx} (C : Ok l g X RX3 cX3_recall 2 2) (zps : Nat) (zma : Nat) (zmo : Nat → Nat) (zmp : Nat → Nat) (zmq : Nat → Nat) (za : Nat) (zp : Nat) (zq : Nat) (PL : Nat → Nat → Int32) (SP : Nat → Nat → Int32) (BE : Nat → Int32) (TI : Nat → Int32) (nx : Nat) (kn : Nat) (pl : Nat → Int32) (sp : Nat → Int32) (be : Int32) (ti : Int32) (q0 : nx < 10) (q1 : kn ≤ 10) (hR : RetI g X cX3_recall 2 0 0 ((fX3_recall PL SP BE TI nx kn pl sp be ti).1) (fl [wPas g zps zma zmo zmp zmq PL SP BE TI ((fX3_recall PL SP BE TI nx kn pl sp be ti).2.1) ((fX3_recall PL SP BE TI nx kn pl sp be ti).2.2.1), wMom g za zp zq ((fX3_recall PL SP BE TI nx kn pl sp be ti).2.2.2.1) ((fX3_recall PL SP BE TI nx kn pl sp be ti).2.2.2.2.1) ((fX3_recall PL SP BE TI nx kn pl sp be ti).2.2.2.2.2.1) ((fX3_recall PL SP BE TI nx kn pl sp be ti).2.2.2.2.2.2)])) : Vw g X 2 0 0 (fl [wPas g zps zma zmo zmp zmq PL SP BE TI nx kn, wMom g za zp zq pl sp be ti]) 0 [(0, .ref zps), (1, .ref za)] [] := by
  refine r_aload_n (pc := 0) C dX3_recall_0 0 rfl ?_
  refine r_get (pc := 1) C fl_X3_21 dX3_recall_1 0 rfl rfl ?_
  refine r_ifneN (pc := 4) kn 9 C dX3_recall_4 (by decide) rfl (by omega) (fun c_1 => ?_) (fun c_1 => ?_)
  · refine r_aload_n (pc := 9) C dX3_recall_9 0 rfl ?_
    refine r_aload_n (pc := 10) C dX3_recall_10 0 rfl ?_
    refine r_get (pc := 11) C fl_X3_17 dX3_recall_11 0 rfl rfl ?_
    have hJ_4 : ∀ (w_3 : Nat) , (w_3 = (if nx ≤ 0 then (9) else ((nx - 1)))) → Vw g X 2 0 0 (fl [wPas g zps zma zmo zmp zmq PL SP BE TI nx kn, wMom g za zp zq pl sp be ti]) 28 [(0, .ref zps), (1, .ref za)] [.int (nI w_3), .ref zps] := by
      intro w_3 e_w_3
      have m_w_3 : w_3 = 9 ∨ w_3 = (nx - 1) := by rw [e_w_3]; (repeat' split) <;> simp
      refine r_put (pc := 28) (fl [wPas g zps zma zmo zmp zmq PL SP BE TI w_3 kn, wMom g za zp zq pl sp be ti]) C fp_X3_17 dX3_recall_28 0 rfl (Nat.le_of_ble_eq_true rfl) rfl rfl rfl ?_
      refine r_aload_n (pc := 31) C dX3_recall_31 1 rfl ?_
      refine r_aload_n (pc := 32) C dX3_recall_32 0 rfl ?_
      refine r_get (pc := 33) C fl_X3_11 dX3_recall_33 0 rfl rfl ?_
      refine r_aload_n (pc := 36) C dX3_recall_36 0 rfl ?_
      refine r_get (pc := 37) C fl_X3_17 dX3_recall_37 0 rfl rfl ?_
      refine r_aald (pc := 40) w_3 C dX3_recall_40 1 rfl rfl (by omega) (by decide) rfl ?_
      refine u_perm (fl [wPa0 g zps zma zmo w_3 kn, wMom g (zmo w_3) (zmp w_3) (zmq w_3) (PL w_3) (SP w_3) (BE w_3) (TI w_3), wMom g za zp zq pl sp be ti, wPax g zmo zmp zmq PL SP BE TI w_3]) (pas_fl g _ _ _ _ _ _ _ _ _ _ _ (by omega) _) ?_
      obtain ⟨pl_5, e_pl_5⟩ : ∃ z : Nat → Int32, z = (fX2_copy pl sp (PL w_3) (SP w_3) (BE w_3) (TI w_3)).1 := ⟨_, rfl⟩
      obtain ⟨sp_6, e_sp_6⟩ : ∃ z : Nat → Int32, z = (fX2_copy pl sp (PL w_3) (SP w_3) (BE w_3) (TI w_3)).2.1 := ⟨_, rfl⟩
      obtain ⟨be_7, e_be_7⟩ : ∃ z : Int32, z = (fX2_copy pl sp (PL w_3) (SP w_3) (BE w_3) (TI w_3)).2.2.1 := ⟨_, rfl⟩
      obtain ⟨ti_8, e_ti_8⟩ : ∃ z : Int32, z = (fX2_copy pl sp (PL w_3) (SP w_3) (BE w_3) (TI w_3)).2.2.2 := ⟨_, rfl⟩
      have K_9 := ctX2_copy l g za zp zq (zmo w_3) (zmp w_3) (zmq w_3) pl sp be ti (PL w_3) (SP w_3) (BE w_3) (TI w_3)  
      rw [← e_pl_5, ← e_sp_6, ← e_be_7, ← e_ti_8] at K_9
      refine w_cV (pc := 41) [wPa0 g zps zma zmo w_3 kn, wMom g (zmo w_3) (zmp w_3) (zmq w_3) (PL w_3) (SP w_3) (BE w_3) (TI w_3), wMom g za zp zq pl_5 sp_6 be_7 ti_8, wPax g zmo zmp zmq PL SP BE TI w_3] C mv_X3_25 K_9 dX3_recall_41 (by decide) [2, 1] rfl (by decide) (by simp only [List.map_cons, List.map_nil, adMom]) rfl 5 rfl rfl (Nat.le_of_ble_eq_true rfl) ⟨Nat.zero_le _, Nat.zero_le _⟩ ?_
      refine u_perm (fl [wPas g zps zma zmo zmp zmq PL SP BE TI w_3 kn, wMom g za zp zq pl_5 sp_6 be_7 ti_8]) (List.Perm.symm (pas_fl g _ _ _ _ _ _ _ _ _ _ _ (k := w_3) (by omega) _)) ?_
      refine r_aload_n (pc := 44) C dX3_recall_44 0 rfl ?_
      refine r_dup (pc := 45) C dX3_recall_45 rfl ?_
      refine r_get (pc := 46) C fl_X3_21 dX3_recall_46 0 rfl rfl ?_
      refine r_iconst (pc := 49) 1 C dX3_recall_49 rfl ?_
      refine r_isubN (pc := 50) kn 1 C dX3_recall_50 rfl rfl (by omega) ?_
      refine r_put (pc := 51) (fl [wPas g zps zma zmo zmp zmq PL SP BE TI w_3 (kn - 1), wMom g za zp zq pl_5 sp_6 be_7 ti_8]) C fp_X3_21 dX3_recall_51 0 rfl (Nat.le_of_ble_eq_true rfl) rfl rfl rfl ?_
      refine r_iconst (pc := 54) 1 C dX3_recall_54 rfl ?_
      have hf : fX3_recall PL SP BE TI nx kn pl sp be ti = (1, w_3, (kn - 1), pl_5, sp_6, be_7, ti_8) := by first | (simp only [fX3_recall, ← e_w_3, ← e_pl_5, ← e_sp_6, ← e_be_7, ← e_ti_8, if_neg c_1]; done) | (subst e_w_3 e_pl_5 e_sp_6 e_be_7 e_ti_8; simp only [fX3_recall, if_neg c_1]; done) | (subst e_w_3 e_pl_5 e_sp_6 e_be_7 e_ti_8; rfl) | (subst e_w_3 e_pl_5 e_sp_6 e_be_7 e_ti_8; simp [fX3_recall, if_neg c_1]; done)
      rw [hf] at hR
      exact hR _ _ dX3_recall_55
    refine r_ifleN (pc := 14) nx 26 C dX3_recall_14 (by decide) rfl (by omega) (fun c_2 => ?_) (fun c_2 => ?_)
    · refine r_bipush (pc := 26) 9 C dX3_recall_26 rfl ?_
      exact hJ_4 _ (by first | (simp only [if_pos c_2]; done) | rfl | (simp [if_pos c_2]; done))
    · refine r_aload_n (pc := 17) C dX3_recall_17 0 rfl ?_
      refine r_get (pc := 18) C fl_X3_17 dX3_recall_18 0 rfl rfl ?_
      refine r_iconst (pc := 21) 1 C dX3_recall_21 rfl ?_
      refine r_isubN (pc := 22) nx 1 C dX3_recall_22 rfl rfl (by omega) ?_
      refine r_goto (pc := 23) 28 C dX3_recall_23 (by decide) ?_
      exact hJ_4 _ (by first | (simp only [if_neg c_2]; done) | rfl | (simp [if_neg c_2]; done))
  · refine r_iconst (pc := 7) 0 C dX3_recall_7 rfl ?_
    have hf : fX3_recall PL SP BE TI nx kn pl sp be ti = (0, nx, kn, pl, sp, be, ti) := by first | (simp only [fX3_recall, if_pos c_1]; done) | rfl | (simp [fX3_recall, if_pos c_1]; done)
    rw [hf] at hR
    exact hR _ _ dX3_recall_8
theorem zX3_recall (PL : Nat → Nat → Int32) (SP : Nat → Nat → Int32) (BE : Nat → Int32) (TI : Nat → Int32) (nx : Nat) (kn : Nat) (pl : Nat → Int32) (sp : Nat → Int32) (be : Int32) (ti : Int32) : (fX3_recall PL SP BE TI nx kn pl sp be ti).1 = 0 ∨ (fX3_recall PL SP BE TI nx kn pl sp be ti).1 = 1 := by unfold fX3_recall; repeat (first | split | simp)
theorem ctX3_recall (l : Launch) (g : Gl) (zps : Nat) (zma : Nat) (zmo : Nat → Nat) (zmp : Nat → Nat) (zmq : Nat → Nat) (za : Nat) (zp : Nat) (zq : Nat) (PL : Nat → Nat → Int32) (SP : Nat → Nat → Int32) (BE : Nat → Int32) (TI : Nat → Int32) (nx : Nat) (kn : Nat) (pl : Nat → Int32) (sp : Nat → Int32) (be : Int32) (ti : Int32) (q0 : nx < 10) (q1 : kn ≤ 10) : CtI l g yX3_recall cX3_recall 2 (some .boolean) 2 [.ref zps, .ref za] (fl [wPas g zps zma zmo zmp zmq PL SP BE TI nx kn, wMom g za zp zq pl sp be ti]) ((fX3_recall PL SP BE TI nx kn pl sp be ti).1) (fl [wPas g zps zma zmo zmp zmq PL SP BE TI ((fX3_recall PL SP BE TI nx kn pl sp be ti).2.1) ((fX3_recall PL SP BE TI nx kn pl sp be ti).2.2.1), wMom g za zp zq ((fX3_recall PL SP BE TI nx kn pl sp be ti).2.2.2.1) ((fX3_recall PL SP BE TI nx kn pl sp be ti).2.2.2.2.1) ((fX3_recall PL SP BE TI nx kn pl sp be ti).2.2.2.2.2.1) ((fX3_recall PL SP BE TI nx kn pl sp be ti).2.2.2.2.2.2)]) := mkI .boolean rfl (nar_b (zX3_recall PL SP BE TI nx kn pl sp be ti)) [(0, .ref zps), (1, .ref za)] (by decide) (Nat.le_of_ble_eq_true rfl) rfl (fun X C hR => bX3_recall C zps zma zmo zmp zmq za zp zq PL SP BE TI nx kn pl sp be ti q0 q1 hR)
