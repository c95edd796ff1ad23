def fX7_reset  : (Int32) × (Int32) × (Nat) := ((8, 10, 0))
set_option maxHeartbeats 4000000 in
set_option maxRecDepth 100000 in
theorem bX7_reset {l : Launch} {g : Gl} {X : Cx} (C : Ok l g X RX7 cX7_reset 1 0) (zb : Nat) (zd : Nat) (dr : Nat → Int32) (pz : Int32) (sl : Int32) (tp : Nat) (hR : RetV g X cX7_reset 1 0 0 (fl [wTol g zb zd dr ((fX7_reset).1) ((fX7_reset).2.1) ((fX7_reset).2.2)])) : Vw g X 1 0 0 (fl [wTol g zb zd dr pz sl tp]) 0 [(0, .ref zb)] [] := by
  refine r_aload_n (pc := 0) C dX7_reset_0 0 rfl ?_
  refine r_bipush (pc := 1) 8 C dX7_reset_1 rfl ?_
  refine r_put (pc := 3) (fl [wTol g zb zd dr 8 sl tp]) C fp_X7_15 dX7_reset_3 0 rfl (Nat.le_of_ble_eq_true rfl) rfl rfl rfl ?_
  refine r_aload_n (pc := 6) C dX7_reset_6 0 rfl ?_
  refine r_bipush (pc := 7) 10 C dX7_reset_7 rfl ?_
  refine r_put (pc := 9) (fl [wTol g zb zd dr 8 10 tp]) C fp_X7_19 dX7_reset_9 0 rfl (Nat.le_of_ble_eq_true rfl) rfl rfl rfl ?_
  refine r_aload_n (pc := 12) C dX7_reset_12 0 rfl ?_
  refine r_iconst (pc := 13) 0 C dX7_reset_13 rfl ?_
  refine r_put (pc := 14) (fl [wTol g zb zd dr 8 10 0]) C fp_X7_22 dX7_reset_14 0 rfl (Nat.le_of_ble_eq_true rfl) rfl rfl rfl ?_
  have hf : fX7_reset = (8, 10, 0) := by first | rfl | (simp only [fX7_reset]; done) | (simp [fX7_reset]; done)
  rw [hf] at hR
  exact hR _ _ dX7_reset_17
theorem ctX7_reset (l : Launch) (g : Gl) (zb : Nat) (zd : Nat) (dr : Nat → Int32) (pz : Int32) (sl : Int32) (tp : Nat) : CtV l g yX7_reset cX7_reset 1 0 [.ref zb] (fl [wTol g zb zd dr pz sl tp]) (fl [wTol g zb zd dr ((fX7_reset).1) ((fX7_reset).2.1) ((fX7_reset).2.2)]) := mkV [(0, .ref zb)] (by decide) (Nat.le_of_ble_eq_true rfl) rfl (fun X C hR => bX7_reset C zb zd dr pz sl tp hR)

def fX7_copy (dr : Nat → Int32) (dr2 : Nat → Int32) (pz2 : Int32) (sl2 : Int32) (tp2 : Nat) : (Nat → Int32) × (Int32) × (Int32) × (Nat) := (let dr_1 : Nat → Int32 := va_cpy dr2 dr 0 0 6; (dr_1, pz2, sl2, tp2))
set_option maxHeartbeats 4000000 in
set_option maxRecDepth 100000 in
theorem bX7_copy {l : Launch} {g : Gl} {X : Cx} (C : Ok l g X RX7 cX7_copy 2 1) (zb : Nat) (zd : Nat) (zb2 : Nat) (zd2 : Nat) (dr : Nat → Int32) (pz : Int32) (sl : Int32) (tp : Nat) (dr2 : Nat → Int32) (pz2 : Int32) (sl2 : Int32) (tp2 : Nat) (hR : RetV g X cX7_copy 2 0 0 (fl [wTol g zb zd ((fX7_copy dr dr2 pz2 sl2 tp2).1) ((fX7_copy dr dr2 pz2 sl2 tp2).2.1) ((fX7_copy dr dr2 pz2 sl2 tp2).2.2.1) ((fX7_copy dr dr2 pz2 sl2 tp2).2.2.2), wTol g zb2 zd2 dr2 pz2 sl2 tp2])) : Vw g X 2 0 0 (fl [wTol g zb zd dr pz sl tp, wTol g zb2 zd2 dr2 pz2 sl2 tp2]) 0 [(0, .ref zb), (1, .ref zb2)] [] := by
  refine r_aload_n (pc := 0) C dX7_copy_0 0 rfl ?_
  refine r_aload_n (pc := 1) C dX7_copy_1 1 rfl ?_
  refine r_get (pc := 2) C fl_X7_15 dX7_copy_2 2 rfl rfl ?_
  refine r_put (pc := 5) (fl [wTol g zb zd dr pz2 sl tp, wTol g zb2 zd2 dr2 pz2 sl2 tp2]) C fp_X7_15 dX7_copy_5 0 rfl (Nat.le_of_ble_eq_true rfl) rfl rfl rfl ?_
  refine r_aload_n (pc := 8) C dX7_copy_8 0 rfl ?_
  refine r_aload_n (pc := 9) C dX7_copy_9 1 rfl ?_
  refine r_get (pc := 10) C fl_X7_19 dX7_copy_10 2 rfl rfl ?_
  refine r_put (pc := 13) (fl [wTol g zb zd dr pz2 sl2 tp, wTol g zb2 zd2 dr2 pz2 sl2 tp2]) C fp_X7_19 dX7_copy_13 0 rfl (Nat.le_of_ble_eq_true rfl) rfl rfl rfl ?_
  refine r_aload_n (pc := 16) C dX7_copy_16 0 rfl ?_
  refine r_aload_n (pc := 17) C dX7_copy_17 1 rfl ?_
  refine r_get (pc := 18) C fl_X7_22 dX7_copy_18 2 rfl rfl ?_
  refine r_put (pc := 21) (fl [wTol g zb zd dr pz2 sl2 tp2, wTol g zb2 zd2 dr2 pz2 sl2 tp2]) C fp_X7_22 dX7_copy_21 0 rfl (Nat.le_of_ble_eq_true rfl) rfl rfl rfl ?_
  refine r_aload_n (pc := 24) C dX7_copy_24 1 rfl ?_
  refine r_get (pc := 25) C fl_X7_9 dX7_copy_25 2 rfl rfl ?_
  refine r_iconst (pc := 28) 0 C dX7_copy_28 rfl ?_
  refine r_aload_n (pc := 29) C dX7_copy_29 0 rfl ?_
  refine r_get (pc := 30) C fl_X7_9 dX7_copy_30 0 rfl rfl ?_
  refine r_iconst (pc := 33) 0 C dX7_copy_33 rfl ?_
  refine r_bipush (pc := 34) 6 C dX7_copy_34 rfl ?_
  obtain ⟨dr_1, e_dr_1⟩ : ∃ z : Nat → Int32, z = va_cpy dr2 dr 0 0 6 := ⟨_, rfl⟩
  refine r_copyi (pc := 36) 6 (fl [wTol g zb zd dr_1 pz2 sl2 tp2, wTol g zb2 zd2 dr2 pz2 sl2 tp2]) C dX7_copy_36 ac_X7_25 sna sst siz (by decide) 3 1 rfl rfl rfl rfl rfl (by decide) (by decide) (by decide) (Nat.le_of_ble_eq_true rfl) (by rw [← e_dr_1]; rfl) ?_
  have hf : fX7_copy dr dr2 pz2 sl2 tp2 = (dr_1, pz2, sl2, tp2) := by first | (simp only [fX7_copy, ← e_dr_1]; done) | (subst e_dr_1; rfl) | (subst e_dr_1; simp only [fX7_copy]; done)
  rw [hf] at hR
  exact hR _ _ dX7_copy_39
theorem ctX7_copy (l : Launch) (g : Gl) (zb : Nat) (zd : Nat) (zb2 : Nat) (zd2 : Nat) (dr : Nat → Int32) (pz : Int32) (sl : Int32) (tp : Nat) (dr2 : Nat → Int32) (pz2 : Int32) (sl2 : Int32) (tp2 : Nat) : CtV l g yX7_copy cX7_copy 2 1 [.ref zb, .ref zb2] (fl [wTol g zb zd dr pz sl tp, wTol g zb2 zd2 dr2 pz2 sl2 tp2]) (fl [wTol g zb zd ((fX7_copy dr dr2 pz2 sl2 tp2).1) ((fX7_copy dr dr2 pz2 sl2 tp2).2.1) ((fX7_copy dr dr2 pz2 sl2 tp2).2.2.1) ((fX7_copy dr dr2 pz2 sl2 tp2).2.2.2), wTol g zb2 zd2 dr2 pz2 sl2 tp2]) := mkV [(0, .ref zb), (1, .ref zb2)] (by decide) (Nat.le_of_ble_eq_true rfl) rfl (fun X C hR => bX7_copy C zb zd zb2 zd2 dr pz sl tp dr2 pz2 sl2 tp2 hR)

def fX6_add (le : Nat → Int32) (ln : Nat) (c : Int32) : (Int32) × (Nat → Int32) × (Nat) := (if ln < 120 then (let le_2 : Nat → Int32 := upd le ln c; (1, le_2, (ln + 1))) else ((0, le, ln)))
set_option maxHeartbeats 4000000 in
set_option maxRecDepth 100000 in
theorem bX6_add {l : Launch} {g : Gl} {X : Cx} (C : Ok l g X RX6 cX6_add 2 0) (zx : Nat) (zxa : Nat) (le : Nat → Int32) (ln : Nat) (c : Int32) (q0 : ln ≤ 120) (hR : RetI g X cX6_add 2 0 0 ((fX6_add le ln c).1) (fl [wTex g zx zxa ((fX6_add le ln c).2.1) ((fX6_add le ln c).2.2)])) : Vw g X 2 0 0 (fl [wTex g zx zxa le ln]) 0 [(0, .ref zx), (1, .int c)] [] := by
  refine r_aload_n (pc := 0) C dX6_add_0 0 rfl ?_
  refine r_get (pc := 1) C fl_X6_15 dX6_add_1 0 rfl rfl ?_
  refine r_bipush (pc := 4) 120 C dX6_add_4 rfl ?_
  refine r_icmpltN (pc := 6) ln 120 11 C dX6_add_6 (by decide) rfl rfl (by omega) (by omega) (fun c_1 => ?_) (fun c_1 => ?_)
  · refine r_aload_n (pc := 11) C dX6_add_11 0 rfl ?_
    refine r_get (pc := 12) C fl_X6_9 dX6_add_12 0 rfl rfl ?_
    refine r_aload_n (pc := 15) C dX6_add_15 0 rfl ?_
    refine r_get (pc := 16) C fl_X6_15 dX6_add_16 0 rfl rfl ?_
    refine r_iload_n (pc := 19) C dX6_add_19 1 rfl ?_
    obtain ⟨le_2, e_le_2⟩ : ∃ z : Nat → Int32, z = upd le ln c := ⟨_, rfl⟩
    refine r_iast (pc := 20) ln (fl [wTex g zx zxa le_2 ln]) C dX6_add_20 1 rfl rfl (by omega) (by decide) (by rw [← e_le_2]; rfl) ?_
    refine r_aload_n (pc := 21) C dX6_add_21 0 rfl ?_
    refine r_dup (pc := 22) C dX6_add_22 rfl ?_
    refine r_get (pc := 23) C fl_X6_15 dX6_add_23 0 rfl rfl ?_
    refine r_iconst (pc := 26) 1 C dX6_add_26 rfl ?_
    refine r_iaddN (pc := 27) ln 1 C dX6_add_27 rfl rfl ?_
    refine r_put (pc := 28) (fl [wTex g zx zxa le_2 (ln + 1)]) C fp_X6_15 dX6_add_28 0 rfl (Nat.le_of_ble_eq_true rfl) rfl rfl rfl ?_
    refine r_iconst (pc := 31) 1 C dX6_add_31 rfl ?_
    have hf : fX6_add le ln c = (1, le_2, (ln + 1)) := by first | (simp only [fX6_add, ← e_le_2, if_pos c_1]; done) | (subst e_le_2; simp only [fX6_add, if_pos c_1]; done) | (subst e_le_2; rfl) | (subst e_le_2; simp [fX6_add, if_pos c_1]; done)
    rw [hf] at hR
    exact hR _ _ dX6_add_32
  · refine r_iconst (pc := 9) 0 C dX6_add_9 rfl ?_
    have hf : fX6_add le ln c = (0, le, ln) := by first | (simp only [fX6_add, if_neg c_1]; done) | rfl | (simp [fX6_add, if_neg c_1]; done)
    rw [hf] at hR
    exact hR _ _ dX6_add_10
theorem zX6_add (le : Nat → Int32) (ln : Nat) (c : Int32) : (fX6_add le ln c).1 = 0 ∨ (fX6_add le ln c).1 = 1 := by unfold fX6_add; repeat (first | split | simp)
theorem ctX6_add (l : Launch) (g : Gl) (zx : Nat) (zxa : Nat) (le : Nat → Int32) (ln : Nat) (c : Int32) (q0 : ln ≤ 120) : CtI l g yX6_add cX6_add 2 (some .boolean) 0 [.ref zx, .int c] (fl [wTex g zx zxa le ln]) ((fX6_add le ln c).1) (fl [wTex g zx zxa ((fX6_add le ln c).2.1) ((fX6_add le ln c).2.2)]) := mkI .boolean rfl (nar_b (zX6_add le ln c)) [(0, .ref zx), (1, .int c)] (by decide) (Nat.le_of_ble_eq_true rfl) rfl (fun X C hR => bX6_add C zx zxa le ln c q0 hR)

def fX8_within (a1 : Int32) (a2 : Int32) (a3 : Int32) : (Int32) := (if a1 < a2 then (0) else (if a3 < a1 then (0) else (1)))
set_option maxHeartbeats 4000000 in
set_option maxRecDepth 100000 in
theorem bX8_within {l : Launch} {g : Gl} {X : Cx} (C : Ok l g X RX8 cX8_within 3 0) (a1 : Int32) (a2 : Int32) (a3 : Int32) (hR : RetI g X cX8_within 3 0 0 (fX8_within a1 a2 a3) (fl [])) : Vw g X 3 0 0 (fl []) 0 [(0, .int a1), (1, .int a2), (2, .int a3)] [] := by
  refine r_iload_n (pc := 0) C dX8_within_0 0 rfl ?_
  refine r_iload_n (pc := 1) C dX8_within_1 1 rfl ?_
  refine r_icmplt (pc := 2) 14 C dX8_within_2 (by decide) (fun c_1 => ?_) (fun c_1 => ?_)
  · refine r_iconst (pc := 14) 0 C dX8_within_14 rfl ?_
    have hf : fX8_within a1 a2 a3 = 0 := by first | (simp only [fX8_within, if_pos c_1]; done) | rfl | (simp [fX8_within, if_pos c_1]; done)
    rw [hf] at hR
    exact hR _ _ dX8_within_15
  · refine r_iload_n (pc := 5) C dX8_within_5 0 rfl ?_
    refine r_iload_n (pc := 6) C dX8_within_6 2 rfl ?_
    refine r_icmpgt (pc := 7) 14 C dX8_within_7 (by decide) (fun c_2 => ?_) (fun c_2 => ?_)
    · refine r_iconst (pc := 14) 0 C dX8_within_14 rfl ?_
      have hf : fX8_within a1 a2 a3 = 0 := by first | (simp only [fX8_within, if_neg c_1, if_pos c_2]; done) | rfl | (simp [fX8_within, if_neg c_1, if_pos c_2]; done)
      rw [hf] at hR
      exact hR _ _ dX8_within_15
    · refine r_iconst (pc := 10) 1 C dX8_within_10 rfl ?_
      refine r_goto (pc := 11) 15 C dX8_within_11 (by decide) ?_
      have hf : fX8_within a1 a2 a3 = 1 := by first | (simp only [fX8_within, if_neg c_1, if_neg c_2]; done) | rfl | (simp [fX8_within, if_neg c_1, if_neg c_2]; done)
      rw [hf] at hR
      exact hR _ _ dX8_within_15
theorem zX8_within (a1 : Int32) (a2 : Int32) (a3 : Int32) : fX8_within a1 a2 a3 = 0 ∨ fX8_within a1 a2 a3 = 1 := by unfold fX8_within; repeat (first | split | simp)
theorem ctX8_within (l : Launch) (g : Gl) (a1 : Int32) (a2 : Int32) (a3 : Int32) : CtI l g yX8_within cX8_within 3 (some .boolean) 0 [.int a1, .int a2, .int a3] (fl []) (fX8_within a1 a2 a3) (fl []) := mkI .boolean rfl (nar_b (zX8_within a1 a2 a3)) [(0, .int a1), (1, .int a2), (2, .int a3)] (by decide) (Nat.le_of_ble_eq_true rfl) rfl (fun X C hR => bX8_within C a1 a2 a3 hR)

def fX8_isSpin (a1 : Int32) : (Int32) := (let r_1 : Int32 := fX8_within a1 1 60; r_1)
set_option maxHeartbeats 4000000 in
set_option maxRecDepth 100000 in
theorem bX8_isSpin {l : Launch} {g : Gl} {X : Cx} (C : Ok l g X RX8 cX8_isSpin 1 1) (a1 : Int32) (hR : RetI g X cX8_isSpin 1 0 0 (fX8_isSpin a1) (fl [])) : Vw g X 1 0 0 (fl []) 0 [(0, .int a1)] [] := by
  refine r_iload_n (pc := 0) C dX8_isSpin_0 0 rfl ?_
  refine r_iconst (pc := 1) 1 C dX8_isSpin_1 rfl ?_
  refine r_bipush (pc := 2) 60 C dX8_isSpin_2 rfl ?_
  obtain ⟨r_1, e_r_1⟩ : ∃ z : Int32, z = fX8_within a1 1 60 := ⟨_, rfl⟩
  have K_2 := ctX8_within l g   a1 1 60 
  rw [← e_r_1] at K_2
  refine x_pI (pc := 4) C ms_X8_75 K_2 dX8_isSpin_4 (by decide) [] rfl (by decide) rfl (Nat.le_of_ble_eq_true rfl) ⟨Nat.zero_le _, Nat.zero_le _⟩ ?_
  have hf : fX8_isSpin a1 = r_1 := by first | (simp only [fX8_isSpin, ← e_r_1]; done) | (subst e_r_1; rfl) | (subst e_r_1; simp only [fX8_isSpin]; done)
  rw [hf] at hR
  exact hR _ _ dX8_isSpin_7
theorem zX8_isSpin (a1 : Int32) : fX8_isSpin a1 = 0 ∨ fX8_isSpin a1 = 1 := by unfold fX8_isSpin; exact zX8_within _ _ _
theorem ctX8_isSpin (l : Launch) (g : Gl) (a1 : Int32) : CtI l g yX8_isSpin cX8_isSpin 1 (some .boolean) 1 [.int a1] (fl []) (fX8_isSpin a1) (fl []) := mkI .boolean rfl (nar_b (zX8_isSpin a1)) [(0, .int a1)] (by decide) (Nat.le_of_ble_eq_true rfl) rfl (fun X C hR => bX8_isSpin C a1 hR)

def fX8_isWhip (a1 : Int32) : (Int32) := (let r_1 : Int32 := fX8_within a1 1 20; r_1)
set_option maxHeartbeats 4000000 in
set_option maxRecDepth 100000 in
theorem bX8_isWhip {l : Launch} {g : Gl} {X : Cx} (C : Ok l g X RX8 cX8_isWhip 1 1) (a1 : Int32) (hR : RetI g X cX8_isWhip 1 0 0 (fX8_isWhip a1) (fl [])) : Vw g X 1 0 0 (fl []) 0 [(0, .int a1)] [] := by
  refine r_iload_n (pc := 0) C dX8_isWhip_0 0 rfl ?_
  refine r_iconst (pc := 1) 1 C dX8_isWhip_1 rfl ?_
  refine r_bipush (pc := 2) 20 C dX8_isWhip_2 rfl ?_
  obtain ⟨r_1, e_r_1⟩ : ∃ z : Int32, z = fX8_within a1 1 20 := ⟨_, rfl⟩
  have K_2 := ctX8_within l g   a1 1 20 
  rw [← e_r_1] at K_2
  refine x_pI (pc := 4) C ms_X8_75 K_2 dX8_isWhip_4 (by decide) [] rfl (by decide) rfl (Nat.le_of_ble_eq_true rfl) ⟨Nat.zero_le _, Nat.zero_le _⟩ ?_
  have hf : fX8_isWhip a1 = r_1 := by first | (simp only [fX8_isWhip, ← e_r_1]; done) | (subst e_r_1; rfl) | (subst e_r_1; simp only [fX8_isWhip]; done)
  rw [hf] at hR
  exact hR _ _ dX8_isWhip_7
theorem zX8_isWhip (a1 : Int32) : fX8_isWhip a1 = 0 ∨ fX8_isWhip a1 = 1 := by unfold fX8_isWhip; exact zX8_within _ _ _
theorem ctX8_isWhip (l : Launch) (g : Gl) (a1 : Int32) : CtI l g yX8_isWhip cX8_isWhip 1 (some .boolean) 1 [.int a1] (fl []) (fX8_isWhip a1) (fl []) := mkI .boolean rfl (nar_b (zX8_isWhip a1)) [(0, .int a1)] (by decide) (Nat.le_of_ble_eq_true rfl) rfl (fun X C hR => bX8_isWhip C a1 hR)

def fX8_isAhead (a1 : Int32) : (Int32) := (let r_1 : Int32 := fX8_within a1 0 60; r_1)
set_option maxHeartbeats 4000000 in
set_option maxRecDepth 100000 in
theorem bX8_isAhead {l : Launch} {g : Gl} {X : Cx} (C : Ok l g X RX8 cX8_isAhead 1 1) (a1 : Int32) (hR : RetI g X cX8_isAhead 1 0 0 (fX8_isAhead a1) (fl [])) : Vw g X 1 0 0 (fl []) 0 [(0, .int a1)] [] := by
  refine r_iload_n (pc := 0) C dX8_isAhead_0 0 rfl ?_
  refine r_iconst (pc := 1) 0 C dX8_isAhead_1 rfl ?_
  refine r_bipush (pc := 2) 60 C dX8_isAhead_2 rfl ?_
  obtain ⟨r_1, e_r_1⟩ : ∃ z : Int32, z = fX8_within a1 0 60 := ⟨_, rfl⟩
  have K_2 := ctX8_within l g   a1 0 60 
  rw [← e_r_1] at K_2
  refine x_pI (pc := 4) C ms_X8_75 K_2 dX8_isAhead_4 (by decide) [] rfl (by decide) rfl (Nat.le_of_ble_eq_true rfl) ⟨Nat.zero_le _, Nat.zero_le _⟩ ?_
  have hf : fX8_isAhead a1 = r_1 := by first | (simp only [fX8_isAhead, ← e_r_1]; done) | (subst e_r_1; rfl) | (subst e_r_1; simp only [fX8_isAhead]; done)
  rw [hf] at hR
  exact hR _ _ dX8_isAhead_7
theorem zX8_isAhead (a1 : Int32) : fX8_isAhead a1 = 0 ∨ fX8_isAhead a1 = 1 := by unfold fX8_isAhead; exact zX8_within _ _ _
theorem ctX8_isAhead (l : Launch) (g : Gl) (a1 : Int32) : CtI l g yX8_isAhead cX8_isAhead 1 (some .boolean) 1 [.int a1] (fl []) (fX8_isAhead a1) (fl []) := mkI .boolean rfl (nar_b (zX8_isAhead a1)) [(0, .int a1)] (by decide) (Nat.le_of_ble_eq_true rfl) rfl (fun X C hR => bX8_isAhead C a1 hR)

def fX8_isImage (a1 : Int32) : (Int32) := (let r_1 : Int32 := fX8_within a1 0 1; r_1)
set_option maxHeartbeats 4000000 in
set_option maxRecDepth 100000 in
theorem bX8_isImage {l : Launch} {g : Gl} {X : Cx} (C : Ok l g X RX8 cX8_isImage 1 1) (a1 : Int32) (hR : RetI g X cX8_isImage 1 0 0 (fX8_isImage a1) (fl [])) : Vw g X 1 0 0 (fl []) 0 [(0, .int a1)] [] := by
  refine r_iload_n (pc := 0) C dX8_isImage_0 0 rfl ?_
  refine r_iconst (pc := 1) 0 C dX8_isImage_1 rfl ?_
  refine r_iconst (pc := 2) 1 C dX8_isImage_2 rfl ?_
  obtain ⟨r_1, e_r_1⟩ : ∃ z : Int32, z = fX8_within a1 0 1 := ⟨_, rfl⟩
  have K_2 := ctX8_within l g   a1 0 1 
  rw [← e_r_1] at K_2
  refine x_pI (pc := 3) C ms_X8_75 K_2 dX8_isImage_3 (by decide) [] rfl (by decide) rfl (Nat.le_of_ble_eq_true rfl) ⟨Nat.zero_le _, Nat.zero_le _⟩ ?_
  have hf : fX8_isImage a1 = r_1 := by first | (simp only [fX8_isImage, ← e_r_1]; done) | (subst e_r_1; rfl) | (subst e_r_1; simp only [fX8_isImage]; done)
  rw [hf] at hR
  exact hR _ _ dX8_isImage_6
theorem zX8_isImage (a1 : Int32) : fX8_isImage a1 = 0 ∨ fX8_isImage a1 = 1 := by unfold fX8_isImage; exact zX8_within _ _ _
theorem ctX8_isImage (l : Launch) (g : Gl) (a1 : Int32) : CtI l g yX8_isImage cX8_isImage 1 (some .boolean) 1 [.int a1] (fl []) (fX8_isImage a1) (fl []) := mkI .boolean rfl (nar_b (zX8_isImage a1)) [(0, .int a1)] (by decide) (Nat.le_of_ble_eq_true rfl) rfl (fun X C hR => bX8_isImage C a1 hR)

def lX8_power_4 (ba : Int32) : Nat → (Int32) → (Nat) → (Int32)
  | 0, x2_1, x3_1 => (x2_1)
  | n + 1, x2_1, x3_1 => (lX8_power_4 ba n (x2_1 * ba) (x3_1 + 1))
def fX8_power (ba : Int32) (ti : Int32) : (Int32) := (let x2_4 : Int32 := lX8_power_4 ba ti.toNatClampNeg 1 0; x2_4)
set_option maxHeartbeats 4000000 in
set_option maxRecDepth 100000 in
theorem bX8_power {l : Launch} {g : Gl} {X : Cx} (C : Ok l g X RX8 cX8_power 4 0) (ba : Int32) (ti : Int32) (hR : RetI g X cX8_power 4 0 0 (fX8_power ba ti) (fl [])) : Vw g X 4 0 0 (fl []) 0 [(0, .int ba), (1, .int ti)] [] := by
  refine r_iconst (pc := 0) 1 C dX8_power_0 rfl ?_
  refine r_istore_n (pc := 1) [(2, .int 1), (0, .int ba), (1, .int ti)] C dX8_power_1 (by decide) rfl ?_
  refine r_iconst (pc := 2) 0 C dX8_power_2 rfl ?_
  refine r_istore_n (pc := 3) [(3, .int 0), (2, .int 1), (0, .int ba), (1, .int ti)] C dX8_power_3 (by decide) rfl ?_
  have hX1 : ∀ (x2_4 : Int32) , (x2_4 = lX8_power_4 ba ti.toNatClampNeg 1 0) → Vw g X 4 0 0 (fl []) 19 [(2, .int x2_4)] [] := by
    intro x2_4 e_x2_4 
    refine r_iload_n (pc := 19) C dX8_power_19 0 rfl ?_
    have hf : fX8_power ba ti = x2_4 := by first | (simp only [fX8_power, ← e_x2_4]; done) | (subst e_x2_4; rfl) | (subst e_x2_4; simp only [fX8_power]; done)
    rw [hf] at hR
    exact hR _ _ dX8_power_20
  have hL1 : ∀ (n : Nat) (x2_1 : Int32) (x3_1 : Nat) , (x3_1 + n = ti.toNatClampNeg) → lX8_power_4 ba n x2_1 x3_1 = lX8_power_4 ba ti.toNatClampNeg 1 0 → Vw g X 4 0 0 (fl []) 4 [(0, .int ba), (1, .int ti), (2, .int x2_1), (3, .int (nI x3_1))] [] := by
    intro n
    induction n with
    | zero =>
      intro x2_1 x3_1 hr1 hV1
      refine r_iload_n (pc := 4) C dX8_power_4 3 rfl ?_
      refine r_iload_n (pc := 5) C dX8_power_5 1 rfl ?_
      refine r_icmpge (pc := 6) 19 C dX8_power_6 (by decide) (fun _ => ?_) (fun c_2 => absurd (cl_ge (by omega) (by have := clb ti; omega)) c_2)
      refine u_lv [(2, .int x2_1)] [2] rfl ?_
      exact hX1 _ (by rw [← hV1]; first | rfl | (simp only [lX8_power_4]; done) | (simp [lX8_power_4]; done))
    | succ n ih =>
      intro x2_1 x3_1 hr1 hV1
      refine r_iload_n (pc := 4) C dX8_power_4 3 rfl ?_
      refine r_iload_n (pc := 5) C dX8_power_5 1 rfl ?_
      refine r_icmpge (pc := 6) 19 C dX8_power_6 (by decide) (fun c_3 => absurd c_3 (cl_lt (by omega))) (fun _ => ?_)
      refine r_iload_n (pc := 9) C dX8_power_9 2 rfl ?_
      refine r_iload_n (pc := 10) C dX8_power_10 0 rfl ?_
      refine r_imul (pc := 11) C dX8_power_11 ?_
      refine r_istore_n (pc := 12) [(2, .int (x2_1 * ba)), (0, .int ba), (1, .int ti), (3, .int (nI x3_1))] C dX8_power_12 (by decide) rfl ?_
      refine r_iinc (pc := 13) (nI (x3_1 + 1)) [(3, .int (nI (x3_1 + 1))), (2, .int (x2_1 * ba)), (0, .int ba), (1, .int ti)] C dX8_power_13 3 rfl (inc1 _) (by decide) rfl ?_
      refine r_goto (pc := 16) 4 C dX8_power_16 (by decide) ?_
      refine u_lv [(0, .int ba), (1, .int ti), (2, .int (x2_1 * ba)), (3, .int (nI (x3_1 + 1)))] [2, 3, 1, 0] rfl ?_
      exact ih (x2_1 * ba) (x3_1 + 1) (by omega) (by rw [← hV1]; first | rfl | (simp only [lX8_power_4]; done) | (simp [lX8_power_4]; done))
  refine u_lv [(0, .int ba), (1, .int ti), (2, .int 1), (3, .int 0)] [2, 3, 1, 0] rfl ?_
  exact hL1 ti.toNatClampNeg 1 0 (by omega) rfl
theorem ctX8_power (l : Launch) (g : Gl) (ba : Int32) (ti : Int32) : CtI l g yX8_power cX8_power 4 (some .int) 0 [.int ba, .int ti] (fl []) (fX8_power ba ti) (fl []) := mkI .int rfl rfl [(0, .int ba), (1, .int ti)] (by decide) (Nat.le_of_ble_eq_true rfl) rfl (fun X C hR => bX8_power C ba ti hR)

def fX1_asTop (tr : Int64) (sp : Nat → Int32) (t : Nat) : (Int32) × (Int64) := (let tr_1 : Int64 := tr + 1; ((sp t), tr_1))
set_option maxHeartbeats 4000000 in
set_option maxRecDepth 100000 in
theorem bX1_asTop {l : Launch} {g : Gl} {X : Cx} (C : Ok l g X RX1 cX1_asTop 3 0) (zk : Nat) (za : Nat) (zp : Nat) (zq : Nat) (tr : Int64) (pl : Nat → Int32) (sp : Nat → Int32) (be : Int32) (ti : Int32) (t : Nat) (q0 : t < 6) (hR : RetI g X cX1_asTop 3 0 0 ((fX1_asTop tr sp t).1) (fl [wKin zk ((fX1_asTop tr sp t).2), wMom g za zp zq pl sp be ti])) : Vw g X 3 0 0 (fl [wKin zk tr, wMom g za zp zq pl sp be ti]) 0 [(0, .ref zk), (1, .ref za), (2, .int (nI t))] [] := by
  refine r_aload_n (pc := 0) C dX1_asTop_0 0 rfl ?_
  refine r_dup (pc := 1) C dX1_asTop_1 rfl ?_
  refine r_get (pc := 2) C fl_X1_7 dX1_asTop_2 0 rfl rfl ?_
  refine r_lconst (pc := 5) 1 C dX1_asTop_5 rfl ?_
  refine r_ladd (pc := 6) C dX1_asTop_6 ?_
  refine u_lng (fun tr_1 e_tr_1 => ?_)
  refine r_put (pc := 7) (fl [wKin zk tr_1, wMom g za zp zq pl sp be ti]) C fp_X1_7 dX1_asTop_7 0 rfl (Nat.le_of_ble_eq_true rfl) rfl rfl rfl ?_
  refine r_aload_n (pc := 10) C dX1_asTop_10 1 rfl ?_
  refine r_get (pc := 11) C fl_X1_13 dX1_asTop_11 1 rfl rfl ?_
  refine r_iload_n (pc := 14) C dX1_asTop_14 2 rfl ?_
  refine r_iald (pc := 15) t C dX1_asTop_15 3 rfl rfl (by omega) (by decide) ?_
  have hf : fX1_asTop tr sp t = ((sp t), tr_1) := by first | (simp only [fX1_asTop, ← e_tr_1]; done) | (subst e_tr_1; rfl) | (subst e_tr_1; simp only [fX1_asTop]; done)
  rw [hf] at hR
  exact hR _ _ dX1_asTop_16
theorem ctX1_asTop (l : Launch) (g : Gl) (zk : Nat) (za : Nat) (zp : Nat) (zq : Nat) (tr : Int64) (pl : Nat → Int32) (sp : Nat → Int32) (be : Int32) (ti : Int32) (t : Nat) (q0 : t < 6) : CtI l g yX1_asTop cX1_asTop 3 (some .int) 0 [.ref zk, .ref za, .int (nI t)] (fl [wKin zk tr, wMom g za zp zq pl sp be ti]) ((fX1_asTop tr sp t).1) (fl [wKin zk ((fX1_asTop tr sp t).2), wMom g za zp zq pl sp be ti]) := mkI .int rfl rfl [(0, .ref zk), (1, .ref za), (2, .int (nI t))] (by decide) (Nat.le_of_ble_eq_true rfl) rfl (fun X C hR => bX1_asTop C zk za zp zq tr pl sp be ti t q0 hR)

def fX1_asPeg (tr : Int64) (dr : Nat → Int32) (sp : Nat → Int32) (t : Nat) : (Int32) × (Int64) := (let tr_1 : Int64 := tr + 10; let r_2 : Int32 := (fX1_asTop tr_1 sp t).1; let tr_3 : Int64 := (fX1_asTop tr_1 sp t).2; ((r_2 + (dr t)), tr_3))
set_option maxHeartbeats 4000000 in
set_option maxRecDepth 100000 in
theorem bX1_asPeg {l : Launch} {g : Gl} {X : Cx} (C : Ok l g X RX1 cX1_asPeg 4 1) (zk : Nat) (zb : Nat) (zd : Nat) (za : Nat) (zp : Nat) (zq : Nat) (tr : Int64) (dr : Nat → Int32) (pz : Int32) (sl : Int32) (tp : Nat) (pl : Nat → Int32) (sp : Nat → Int32) (be : Int32) (ti : Int32) (t : Nat) (q0 : t < 6) (hR : RetI g X cX1_asPeg 4 0 0 ((fX1_asPeg tr dr sp t).1) (fl [wKin zk ((fX1_asPeg tr dr sp t).2), wTol g zb zd dr pz sl tp, wMom g za zp zq pl sp be ti])) : Vw g X 4 0 0 (fl [wKin zk tr, wTol g zb zd dr pz sl tp, wMom g za zp zq pl sp be ti]) 0 [(0, .ref zk), (1, .ref zb), (2, .ref za), (3, .int (nI t))] [] := by
  refine r_aload_n (pc := 0) C dX1_asPeg_0 0 rfl ?_
  refine r_dup (pc := 1) C dX1_asPeg_1 rfl ?_
  refine r_get (pc := 2) C fl_X1_7 dX1_asPeg_2 0 rfl rfl ?_
  refine r_ldc2 (pc := 5) C dX1_asPeg_5 kl_X1_19 ?_
  refine r_ladd (pc := 8) C dX1_asPeg_8 ?_
  refine u_lng (fun tr_1 e_tr_1 => ?_)
  refine r_put (pc := 9) (fl [wKin zk tr_1, wTol g zb zd dr pz sl tp, wMom g za zp zq pl sp be ti]) C fp_X1_7 dX1_asPeg_9 0 rfl (Nat.le_of_ble_eq_true rfl) rfl rfl rfl ?_
  refine r_aload_n (pc := 12) C dX1_asPeg_12 0 rfl ?_
  refine r_aload_n (pc := 13) C dX1_asPeg_13 2 rfl ?_
  refine r_iload_n (pc := 14) C dX1_asPeg_14 3 rfl ?_
  obtain ⟨r_2, e_r_2⟩ : ∃ z : Int32, z = (fX1_asTop tr_1 sp t).1 := ⟨_, rfl⟩
  obtain ⟨tr_3, e_tr_3⟩ : ∃ z : Int64, z = (fX1_asTop tr_1 sp t).2 := ⟨_, rfl⟩
  have K_4 := ctX1_asTop l g zk za zp zq tr_1 pl sp be ti t (by omega)
  rw [← e_r_2, ← e_tr_3] at K_4
  refine w_cI (pc := 15) [wKin zk tr_3, wTol g zb zd dr pz sl tp, wMom g za zp zq pl sp be ti] C mv_X1_21 K_4 dX1_asPeg_15 (by decide) [0, 2] rfl (by decide) (by simp only [List.map_cons, List.map_nil, adKin, adMom]) rfl 0 rfl rfl (Nat.le_of_ble_eq_true rfl) ⟨Nat.zero_le _, Nat.zero_le _⟩ ?_
  refine r_aload_n (pc := 18) C dX1_asPeg_18 1 rfl ?_
  refine r_get (pc := 19) C fl_X1_25 dX1_asPeg_19 1 rfl rfl ?_
  refine r_iload_n (pc := 22) C dX1_asPeg_22 3 rfl ?_
  refine r_iald (pc := 23) t C dX1_asPeg_23 2 rfl rfl (by omega) (by decide) ?_
  refine r_iadd (pc := 24) C dX1_asPeg_24 ?_
  have hf : fX1_asPeg tr dr sp t = ((r_2 + (dr t)), tr_3) := by first | (simp only [fX1_asPeg, ← e_tr_1, ← e_r_2, ← e_tr_3]; done) | (subst e_tr_1 e_r_2 e_tr_3; rfl) | (subst e_tr_1 e_r_2 e_tr_3; simp only [fX1_asPeg]; done)
  rw [hf] at hR
  exact hR _ _ dX1_asPeg_25
theorem ctX1_asPeg (l : Launch) (g : Gl) (zk : Nat) (zb : Nat) (zd : Nat) (za : Nat) (zp : Nat) (zq : Nat) (tr : Int64) (dr : Nat → Int32) (pz : Int32) (sl : Int32) (tp : Nat) (pl : Nat → Int32) (sp : Nat → Int32) (be : Int32) (ti : Int32) (t : Nat) (q0 : t < 6) : CtI l g yX1_asPeg cX1_asPeg 4 (some .int) 1 [.ref zk, .ref zb, .ref za, .int (nI t)] (fl [wKin zk tr, wTol g zb zd dr pz sl tp, wMom g za zp zq pl sp be ti]) ((fX1_asPeg tr dr sp t).1) (fl [wKin zk ((fX1_asPeg tr dr sp t).2), wTol g zb zd dr pz sl tp, wMom g za zp zq pl sp be ti]) := mkI .int rfl rfl [(0, .ref zk), (1, .ref zb), (2, .ref za), (3, .int (nI t))] (by decide) (Nat.le_of_ble_eq_true rfl) rfl (fun X C hR => bX1_asPeg C zk zb zd za zp zq tr dr pz sl tp pl sp be ti t q0 hR)

def fX1_asHummer (tr : Int64) (sp : Nat → Int32) (t : Nat) : (Int32) × (Int64) := (let tr_1 : Int64 := tr + 100; let r_2 : Int32 := (fX1_asTop tr_1 sp t).1; let tr_3 : Int64 := (fX1_asTop tr_1 sp t).2; let r_5 : Int32 := fX2_howMany sp; ((r_2 - r_5), tr_3))
set_option maxHeartbeats 4000000 in
set_option maxRecDepth 100000 in
theorem bX1_asHummer {l : Launch} {g : Gl} {X : Cx} (C : Ok l g X RX1 cX1_asHummer 3 3) (zk : Nat) (za : Nat) (zp : Nat) (zq : Nat) (tr : Int64) (pl : Nat → Int32) (sp : Nat → Int32) (be : Int32) (ti : Int32) (t : Nat) (q0 : t < 6) (hR : RetI g X cX1_asHummer 3 0 0 ((fX1_asHummer tr sp t).1) (fl [wKin zk ((fX1_asHummer tr sp t).2), wMom g za zp zq pl sp be ti])) : Vw g X 3 0 0 (fl [wKin zk tr, wMom g za zp zq pl sp be ti]) 0 [(0, .ref zk), (1, .ref za), (2, .int (nI t))] [] := by
  refine r_aload_n (pc := 0) C dX1_asHummer_0 0 rfl ?_
  refine r_dup (pc := 1) C dX1_asHummer_1 rfl ?_
  refine r_get (pc := 2) C fl_X1_7 dX1_asHummer_2 0 rfl rfl ?_
  refine r_ldc2 (pc := 5) C dX1_asHummer_5 kl_X1_30 ?_
  refine r_ladd (pc := 8) C dX1_asHummer_8 ?_
  refine u_lng (fun tr_1 e_tr_1 => ?_)
  refine r_put (pc := 9) (fl [wKin zk tr_1, wMom g za zp zq pl sp be ti]) C fp_X1_7 dX1_asHummer_9 0 rfl (Nat.le_of_ble_eq_true rfl) rfl rfl rfl ?_
  refine r_aload_n (pc := 12) C dX1_asHummer_12 0 rfl ?_
  refine r_aload_n (pc := 13) C dX1_asHummer_13 1 rfl ?_
  refine r_iload_n (pc := 14) C dX1_asHummer_14 2 rfl ?_
  obtain ⟨r_2, e_r_2⟩ : ∃ z : Int32, z = (fX1_asTop tr_1 sp t).1 := ⟨_, rfl⟩
  obtain ⟨tr_3, e_tr_3⟩ : ∃ z : Int64, z = (fX1_asTop tr_1 sp t).2 := ⟨_, rfl⟩
  have K_4 := ctX1_asTop l g zk za zp zq tr_1 pl sp be ti t (by omega)
  rw [← e_r_2, ← e_tr_3] at K_4
  refine w_cI (pc := 15) [wKin zk tr_3, wMom g za zp zq pl sp be ti] C mv_X1_21 K_4 dX1_asHummer_15 (by decide) [0, 1] rfl (by decide) (by simp only [List.map_cons, List.map_nil, adKin, adMom]) rfl 0 rfl rfl (Nat.le_of_ble_eq_true rfl) ⟨Nat.zero_le _, Nat.zero_le _⟩ ?_
  refine r_aload_n (pc := 18) C dX1_asHummer_18 1 rfl ?_
  obtain ⟨r_5, e_r_5⟩ : ∃ z : Int32, z = fX2_howMany sp := ⟨_, rfl⟩
  have K_6 := ctX2_howMany l g za zp zq pl sp be ti  
  rw [← e_r_5] at K_6
  refine w_pI (pc := 19) C mv_X1_32 K_6 dX1_asHummer_19 (by decide) [1] rfl (by decide) 1 rfl rfl (Nat.le_of_ble_eq_true rfl) ⟨Nat.zero_le _, Nat.zero_le _⟩ ?_
  refine r_isub (pc := 22) C dX1_asHummer_22 ?_
  have hf : fX1_asHummer tr sp t = ((r_2 - r_5), tr_3) := by first | (simp only [fX1_asHummer, ← e_tr_1, ← e_r_2, ← e_tr_3, ← e_r_5]; done) | (subst e_tr_1 e_r_2 e_tr_3 e_r_5; rfl) | (subst e_tr_1 e_r_2 e_tr_3 e_r_5; simp only [fX1_asHummer]; done)
  rw [hf] at hR
  exact hR _ _ dX1_asHummer_23
theorem ctX1_asHummer (l : Launch) (g : Gl) (zk : Nat) (za : Nat) (zp : Nat) (zq : Nat) (tr : Int64) (pl : Nat → Int32) (sp : Nat → Int32) (be : Int32) (ti : Int32) (t : Nat) (q0 : t < 6) : CtI l g yX1_asHummer cX1_asHummer 3 (some .int) 3 [.ref zk, .ref za, .int (nI t)] (fl [wKin zk tr, wMom g za zp zq pl sp be ti]) ((fX1_asHummer tr sp t).1) (fl [wKin zk ((fX1_asHummer tr sp t).2), wMom g za zp zq pl sp be ti]) := mkI .int rfl rfl [(0, .ref zk), (1, .ref za), (2, .int (nI t))] (by decide) (Nat.le_of_ble_eq_true rfl) rfl (fun X C hR => bX1_asHummer C zk za zp zq tr pl sp be ti t q0 hR)

def fX1_asWhipper (tr : Int64) (dr : Nat → Int32) (sp : Nat → Int32) (t : Nat) : (Int32) × (Int64) := (let tr_1 : Int64 := tr + 1000; let r_2 : Int32 := (fX1_asPeg tr_1 dr sp t).1; let tr_3 : Int64 := (fX1_asPeg tr_1 dr sp t).2; ((2 * r_2), tr_3))
set_option maxHeartbeats 4000000 in
set_option maxRecDepth 100000 in
theorem bX1_asWhipper {l : Launch} {g : Gl} {X : Cx} (C : Ok l g X RX1 cX1_asWhipper 4 2) (zk : Nat) (zb : Nat) (zd : Nat) (za : Nat) (zp : Nat) (zq : Nat) (tr : Int64) (dr : Nat → Int32) (pz : Int32) (sl : Int32) (tp : Nat) (pl : Nat → Int32) (sp : Nat → Int32) (be : Int32) (ti : Int32) (t : Nat) (q0 : t < 6) (hR : RetI g X cX1_asWhipper 4 0 0 ((fX1_asWhipper tr dr sp t).1) (fl [wKin zk ((fX1_asWhipper tr dr sp t).2), wTol g zb zd dr pz sl tp, wMom g za zp zq pl sp be ti])) : Vw g X 4 0 0 (fl [wKin zk tr, wTol g zb zd dr pz sl tp, wMom g za zp zq pl sp be ti]) 0 [(0, .ref zk), (1, .ref zb), (2, .ref za), (3, .int (nI t))] [] := by
  refine r_aload_n (pc := 0) C dX1_asWhipper_0 0 rfl ?_
  refine r_dup (pc := 1) C dX1_asWhipper_1 rfl ?_
  refine r_get (pc := 2) C fl_X1_7 dX1_asWhipper_2 0 rfl rfl ?_
  refine r_ldc2 (pc := 5) C dX1_asWhipper_5 kl_X1_36 ?_
  refine r_ladd (pc := 8) C dX1_asWhipper_8 ?_
  refine u_lng (fun tr_1 e_tr_1 => ?_)
  refine r_put (pc := 9) (fl [wKin zk tr_1, wTol g zb zd dr pz sl tp, wMom g za zp zq pl sp be ti]) C fp_X1_7 dX1_asWhipper_9 0 rfl (Nat.le_of_ble_eq_true rfl) rfl rfl rfl ?_
  refine r_iconst (pc := 12) 2 C dX1_asWhipper_12 rfl ?_
  refine r_aload_n (pc := 13) C dX1_asWhipper_13 0 rfl ?_
  refine r_aload_n (pc := 14) C dX1_asWhipper_14 1 rfl ?_
  refine r_aload_n (pc := 15) C dX1_asWhipper_15 2 rfl ?_
  refine r_iload_n (pc := 16) C dX1_asWhipper_16 3 rfl ?_
  obtain ⟨r_2, e_r_2⟩ : ∃ z : Int32, z = (fX1_asPeg tr_1 dr sp t).1 := ⟨_, rfl⟩
  obtain ⟨tr_3, e_tr_3⟩ : ∃ z : Int64, z = (fX1_asPeg tr_1 dr sp t).2 := ⟨_, rfl⟩
  have K_4 := ctX1_asPeg l g zk zb zd za zp zq tr_1 dr pz sl tp pl sp be ti t (by omega)
  rw [← e_r_2, ← e_tr_3] at K_4
  refine w_cI (pc := 17) [wKin zk tr_3, wTol g zb zd dr pz sl tp, wMom g za zp zq pl sp be ti] C mv_X1_38 K_4 dX1_asWhipper_17 (by decide) [0, 1, 2] rfl (by decide) (by simp only [List.map_cons, List.map_nil, adKin, adMom, adTol]) rfl 0 rfl rfl (Nat.le_of_ble_eq_true rfl) ⟨Nat.zero_le _, Nat.zero_le _⟩ ?_
  refine r_imul (pc := 20) C dX1_asWhipper_20 ?_
  have hf : fX1_asWhipper tr dr sp t = ((2 * r_2), tr_3) := by first | (simp only [fX1_asWhipper, ← e_tr_1, ← e_r_2, ← e_tr_3]; done) | (subst e_tr_1 e_r_2 e_tr_3; rfl) | (subst e_tr_1 e_r_2 e_tr_3; simp only [fX1_asWhipper]; done)
  rw [hf] at hR
  exact hR _ _ dX1_asWhipper_21
theorem ctX1_asWhipper (l : Launch) (g : Gl) (zk : Nat) (zb : Nat) (zd : Nat) (za : Nat) (zp : Nat) (zq : Nat) (tr : Int64) (dr : Nat → Int32) (pz : Int32) (sl : Int32) (tp : Nat) (pl : Nat → Int32) (sp : Nat → Int32) (be : Int32) (ti : Int32) (t : Nat) (q0 : t < 6) : CtI l g yX1_asWhipper cX1_asWhipper 4 (some .int) 2 [.ref zk, .ref zb, .ref za, .int (nI t)] (fl [wKin zk tr, wTol g zb zd dr pz sl tp, wMom g za zp zq pl sp be ti]) ((fX1_asWhipper tr dr sp t).1) (fl [wKin zk ((fX1_asWhipper tr dr sp t).2), wTol g zb zd dr pz sl tp, wMom g za zp zq pl sp be ti]) := mkI .int rfl rfl [(0, .ref zk), (1, .ref zb), (2, .ref za), (3, .int (nI t))] (by decide) (Nat.le_of_ble_eq_true rfl) rfl (fun X C hR => bX1_asWhipper C zk zb zd za zp zq tr dr pz sl tp pl sp be ti t q0 hR)

def fX1_asDisc (tr : Int64) (sp : Nat → Int32) (t : Nat) : (Int32) × (Int64) := (let tr_1 : Int64 := tr + 10000; let r_2 : Int32 := (fX1_asHummer tr_1 sp t).1; let tr_3 : Int64 := (fX1_asHummer tr_1 sp t).2; ((r_2 + (nI t)), tr_3))
set_option maxHeartbeats 4000000 in
set_option maxRecDepth 100000 in
theorem bX1_asDisc {l : Launch} {g : Gl} {X : Cx} (C : Ok l g X RX1 cX1_asDisc 3 4) (zk : Nat) (za : Nat) (zp : Nat) (zq : Nat) (tr : Int64) (pl : Nat → Int32) (sp : Nat → Int32) (be : Int32) (ti : Int32) (t : Nat) (q0 : t < 6) (hR : RetI g X cX1_asDisc 3 0 0 ((fX1_asDisc tr sp t).1) (fl [wKin zk ((fX1_asDisc tr sp t).2), wMom g za zp zq pl sp be ti])) : Vw g X 3 0 0 (fl [wKin zk tr, wMom g za zp zq pl sp be ti]) 0 [(0, .ref zk), (1, .ref za), (2, .int (nI t))] [] := by
  refine r_aload_n (pc := 0) C dX1_asDisc_0 0 rfl ?_
  refine r_dup (pc := 1) C dX1_asDisc_1 rfl ?_
  refine r_get (pc := 2) C fl_X1_7 dX1_asDisc_2 0 rfl rfl ?_
  refine r_ldc2 (pc := 5) C dX1_asDisc_5 kl_X1_42 ?_
  refine r_ladd (pc := 8) C dX1_asDisc_8 ?_
  refine u_lng (fun tr_1 e_tr_1 => ?_)
  refine r_put (pc := 9) (fl [wKin zk tr_1, wMom g za zp zq pl sp be ti]) C fp_X1_7 dX1_asDisc_9 0 rfl (Nat.le_of_ble_eq_true rfl) rfl rfl rfl ?_
  refine r_aload_n (pc := 12) C dX1_asDisc_12 0 rfl ?_
  refine r_aload_n (pc := 13) C dX1_asDisc_13 1 rfl ?_
  refine r_iload_n (pc := 14) C dX1_asDisc_14 2 rfl ?_
  obtain ⟨r_2, e_r_2⟩ : ∃ z : Int32, z = (fX1_asHummer tr_1 sp t).1 := ⟨_, rfl⟩
  obtain ⟨tr_3, e_tr_3⟩ : ∃ z : Int64, z = (fX1_asHummer tr_1 sp t).2 := ⟨_, rfl⟩
  have K_4 := ctX1_asHummer l g zk za zp zq tr_1 pl sp be ti t (by omega)
  rw [← e_r_2, ← e_tr_3] at K_4
  refine w_cI (pc := 15) [wKin zk tr_3, wMom g za zp zq pl sp be ti] C mv_X1_44 K_4 dX1_asDisc_15 (by decide) [0, 1] rfl (by decide) (by simp only [List.map_cons, List.map_nil, adKin, adMom]) rfl 0 rfl rfl (Nat.le_of_ble_eq_true rfl) ⟨Nat.zero_le _, Nat.zero_le _⟩ ?_
  refine r_iload_n (pc := 18) C dX1_asDisc_18 2 rfl ?_
  refine r_iadd (pc := 19) C dX1_asDisc_19 ?_
  have hf : fX1_asDisc tr sp t = ((r_2 + (nI t)), tr_3) := by first | (simp only [fX1_asDisc, ← e_tr_1, ← e_r_2, ← e_tr_3]; done) | (subst e_tr_1 e_r_2 e_tr_3; rfl) | (subst e_tr_1 e_r_2 e_tr_3; simp only [fX1_asDisc]; done)
  rw [hf] at hR
  exact hR _ _ dX1_asDisc_20
theorem ctX1_asDisc (l : Launch) (g : Gl) (zk : Nat) (za : Nat) (zp : Nat) (zq : Nat) (tr : Int64) (pl : Nat → Int32) (sp : Nat → Int32) (be : Int32) (ti : Int32) (t : Nat) (q0 : t < 6) : CtI l g yX1_asDisc cX1_asDisc 3 (some .int) 4 [.ref zk, .ref za, .int (nI t)] (fl [wKin zk tr, wMom g za zp zq pl sp be ti]) ((fX1_asDisc tr sp t).1) (fl [wKin zk ((fX1_asDisc tr sp t).2), wMom g za zp zq pl sp be ti]) := mkI .int rfl rfl [(0, .ref zk), (1, .ref za), (2, .int (nI t))] (by decide) (Nat.le_of_ble_eq_true rfl) rfl (fun X C hR => bX1_asDisc C zk za zp zq tr pl sp be ti t q0 hR)

def fX1_asAcorn (tr : Int64) (sp : Nat → Int32) (be : Int32) (t : Nat) : (Int32) × (Int64) := (let tr_1 : Int64 := tr + 100000; let r_2 : Int32 := (fX1_asTop tr_1 sp t).1; let tr_3 : Int64 := (fX1_asTop tr_1 sp t).2; ((r_2 + be), tr_3))
set_option maxHeartbeats 4000000 in
set_option maxRecDepth 100000 in
theorem bX1_asAcorn {l : Launch} {g : Gl} {X : Cx} (C : Ok l g X RX1 cX1_asAcorn 3 1) (zk : Nat) (za : Nat) (zp : Nat) (zq : Nat) (tr : Int64) (pl : Nat → Int32) (sp : Nat → Int32) (be : Int32) (ti : Int32) (t : Nat) (q0 : t < 6) (hR : RetI g X cX1_asAcorn 3 0 0 ((fX1_asAcorn tr sp be t).1) (fl [wKin zk ((fX1_asAcorn tr sp be t).2), wMom g za zp zq pl sp be ti])) : Vw g X 3 0 0 (fl [wKin zk tr, wMom g za zp zq pl sp be ti]) 0 [(0, .ref zk), (1, .ref za), (2, .int (nI t))] [] := by
  refine r_aload_n (pc := 0) C dX1_asAcorn_0 0 rfl ?_
  refine r_dup (pc := 1) C dX1_asAcorn_1 rfl ?_
  refine r_get (pc := 2) C fl_X1_7 dX1_asAcorn_2 0 rfl rfl ?_
  refine r_ldc2 (pc := 5) C dX1_asAcorn_5 kl_X1_47 ?_
  refine r_ladd (pc := 8) C dX1_asAcorn_8 ?_
  refine u_lng (fun tr_1 e_tr_1 => ?_)
  refine r_put (pc := 9) (fl [wKin zk tr_1, wMom g za zp zq pl sp be ti]) C fp_X1_7 dX1_asAcorn_9 0 rfl (Nat.le_of_ble_eq_true rfl) rfl rfl rfl ?_
  refine r_aload_n (pc := 12) C dX1_asAcorn_12 0 rfl ?_
  refine r_aload_n (pc := 13) C dX1_asAcorn_13 1 rfl ?_
  refine r_iload_n (pc := 14) C dX1_asAcorn_14 2 rfl ?_
  obtain ⟨r_2, e_r_2⟩ : ∃ z : Int32, z = (fX1_asTop tr_1 sp t).1 := ⟨_, rfl⟩
  obtain ⟨tr_3, e_tr_3⟩ : ∃ z : Int64, z = (fX1_asTop tr_1 sp t).2 := ⟨_, rfl⟩
  have K_4 := ctX1_asTop l g zk za zp zq tr_1 pl sp be ti t (by omega)
  rw [← e_r_2, ← e_tr_3] at K_4
  refine w_cI (pc := 15) [wKin zk tr_3, wMom g za zp zq pl sp be ti] C mv_X1_21 K_4 dX1_asAcorn_15 (by decide) [0, 1] rfl (by decide) (by simp only [List.map_cons, List.map_nil, adKin, adMom]) rfl 0 rfl rfl (Nat.le_of_ble_eq_true rfl) ⟨Nat.zero_le _, Nat.zero_le _⟩ ?_
  refine r_aload_n (pc := 18) C dX1_asAcorn_18 1 rfl ?_
  refine r_get (pc := 19) C fl_X1_49 dX1_asAcorn_19 1 rfl rfl ?_
  refine r_iadd (pc := 22) C dX1_asAcorn_22 ?_
  have hf : fX1_asAcorn tr sp be t = ((r_2 + be), tr_3) := by first | (simp only [fX1_asAcorn, ← e_tr_1, ← e_r_2, ← e_tr_3]; done) | (subst e_tr_1 e_r_2 e_tr_3; rfl) | (subst e_tr_1 e_r_2 e_tr_3; simp only [fX1_asAcorn]; done)
  rw [hf] at hR
  exact hR _ _ dX1_asAcorn_23
theorem ctX1_asAcorn (l : Launch) (g : Gl) (zk : Nat) (za : Nat) (zp : Nat) (zq : Nat) (tr : Int64) (pl : Nat → Int32) (sp : Nat → Int32) (be : Int32) (ti : Int32) (t : Nat) (q0 : t < 6) : CtI l g yX1_asAcorn cX1_asAcorn 3 (some .int) 1 [.ref zk, .ref za, .int (nI t)] (fl [wKin zk tr, wMom g za zp zq pl sp be ti]) ((fX1_asAcorn tr sp be t).1) (fl [wKin zk ((fX1_asAcorn tr sp be t).2), wMom g za zp zq pl sp be ti]) := mkI .int rfl rfl [(0, .ref zk), (1, .ref za), (2, .int (nI t))] (by decide) (Nat.le_of_ble_eq_true rfl) rfl (fun X C hR => bX1_asAcorn C zk za zp zq tr pl sp be ti t q0 hR)

def fX5_add (fi : Nat → Int32) (bt : Nat → Int32) (su : Nat → Int32) (kn : Nat) (v : Int32) (m : Int32) (w : Int32) : (Int32) × (Nat → Int32) × (Nat → Int32) × (Nat → Int32) × (Nat) := (if kn < 6 then (let fi_2 : Nat → Int32 := upd fi kn v; let bt_3 : Nat → Int32 := upd bt kn m; let su_4 : Nat → Int32 := upd su kn w; (1, fi_2, bt_3, su_4, (kn + 1))) else ((0, fi, bt, su, kn)))
set_option maxHeartbeats 4000000 in
set_option maxRecDepth 100000 in
theorem bX5_add {l : Launch} {g : Gl} {X : Cx} (C : Ok l g X RX5 cX5_add 4 0) (zs : Nat) (zsa : Nat) (zsb : Nat) (zsc : Nat) (fi : Nat → Int32) (bt : Nat → Int32) (su : Nat → Int32) (kn : Nat) (v : Int32) (m : Int32) (w : Int32) (q0 : kn ≤ 6) (hR : RetI g X cX5_add 4 0 0 ((fX5_add fi bt su kn v m w).1) (fl [wSee g zs zsa zsb zsc ((fX5_add fi bt su kn v m w).2.1) ((fX5_add fi bt su kn v m w).2.2.1) ((fX5_add fi bt su kn v m w).2.2.2.1) ((fX5_add fi bt su kn v m w).2.2.2.2)])) : Vw g X 4 0 0 (fl [wSee g zs zsa zsb zsc fi bt su kn]) 0 [(0, .ref zs), (1, .int v), (2, .int m), (3, .int w)] [] := by
  refine r_aload_n (pc := 0) C dX5_add_0 0 rfl ?_
  refine r_get (pc := 1) C fl_X5_21 dX5_add_1 0 rfl rfl ?_
  refine r_bipush (pc := 4) 6 C dX5_add_4 rfl ?_
  refine r_icmpltN (pc := 6) kn 6 11 C dX5_add_6 (by decide) rfl rfl (by omega) (by omega) (fun c_1 => ?_) (fun c_1 => ?_)
  · refine r_aload_n (pc := 11) C dX5_add_11 0 rfl ?_
    refine r_get (pc := 12) C fl_X5_9 dX5_add_12 0 rfl rfl ?_
    refine r_aload_n (pc := 15) C dX5_add_15 0 rfl ?_
    refine r_get (pc := 16) C fl_X5_21 dX5_add_16 0 rfl rfl ?_
    refine r_iload_n (pc := 19) C dX5_add_19 1 rfl ?_
    obtain ⟨fi_2, e_fi_2⟩ : ∃ z : Nat → Int32, z = upd fi kn v := ⟨_, rfl⟩
    refine r_iast (pc := 20) kn (fl [wSee g zs zsa zsb zsc fi_2 bt su kn]) C dX5_add_20 1 rfl rfl (by omega) (by decide) (by rw [← e_fi_2]; rfl) ?_
    refine r_aload_n (pc := 21) C dX5_add_21 0 rfl ?_
    refine r_get (pc := 22) C fl_X5_15 dX5_add_22 0 rfl rfl ?_
    refine r_aload_n (pc := 25) C dX5_add_25 0 rfl ?_
    refine r_get (pc := 26) C fl_X5_21 dX5_add_26 0 rfl rfl ?_
    refine r_iload_n (pc := 29) C dX5_add_29 2 rfl ?_
    obtain ⟨bt_3, e_bt_3⟩ : ∃ z : Nat → Int32, z = upd bt kn m := ⟨_, rfl⟩
    refine r_iast (pc := 30) kn (fl [wSee g zs zsa zsb zsc fi_2 bt_3 su kn]) C dX5_add_30 2 rfl rfl (by omega) (by decide) (by rw [← e_bt_3]; rfl) ?_
    refine r_aload_n (pc := 31) C dX5_add_31 0 rfl ?_
    refine r_get (pc := 32) C fl_X5_18 dX5_add_32 0 rfl rfl ?_
    refine r_aload_n (pc := 35) C dX5_add_35 0 rfl ?_
    refine r_get (pc := 36) C fl_X5_21 dX5_add_36 0 rfl rfl ?_
    refine r_iload_n (pc := 39) C dX5_add_39 3 rfl ?_
    obtain ⟨su_4, e_su_4⟩ : ∃ z : Nat → Int32, z = upd su kn w := ⟨_, rfl⟩
    refine r_iast (pc := 40) kn (fl [wSee g zs zsa zsb zsc fi_2 bt_3 su_4 kn]) C dX5_add_40 3 rfl rfl (by omega) (by decide) (by rw [← e_su_4]; rfl) ?_
    refine r_aload_n (pc := 41) C dX5_add_41 0 rfl ?_
    refine r_dup (pc := 42) C dX5_add_42 rfl ?_
    refine r_get (pc := 43) C fl_X5_21 dX5_add_43 0 rfl rfl ?_
    refine r_iconst (pc := 46) 1 C dX5_add_46 rfl ?_
    refine r_iaddN (pc := 47) kn 1 C dX5_add_47 rfl rfl ?_
    refine r_put (pc := 48) (fl [wSee g zs zsa zsb zsc fi_2 bt_3 su_4 (kn + 1)]) C fp_X5_21 dX5_add_48 0 rfl (Nat.le_of_ble_eq_true rfl) rfl rfl rfl ?_
    refine r_iconst (pc := 51) 1 C dX5_add_51 rfl ?_
    have hf : fX5_add fi bt su kn v m w = (1, fi_2, bt_3, su_4, (kn + 1)) := by first | (simp only [fX5_add, ← e_fi_2, ← e_bt_3, ← e_su_4, if_pos c_1]; done) | (subst e_fi_2 e_bt_3 e_su_4; simp only [fX5_add, if_pos c_1]; done) | (subst e_fi_2 e_bt_3 e_su_4; rfl) | (subst e_fi_2 e_bt_3 e_su_4; simp [fX5_add, if_pos c_1]; done)
    rw [hf] at hR
    exact hR _ _ dX5_add_52
  · refine r_iconst (pc := 9) 0 C dX5_add_9 rfl ?_
    have hf : fX5_add fi bt su kn v m w = (0, fi, bt, su, kn) := by first | (simp only [fX5_add, if_neg c_1]; done) | rfl | (simp [fX5_add, if_neg c_1]; done)
    rw [hf] at hR
    exact hR _ _ dX5_add_10
theorem zX5_add (fi : Nat → Int32) (bt : Nat → Int32) (su : Nat → Int32) (kn : Nat) (v : Int32) (m : Int32) (w : Int32) : (fX5_add fi bt su kn v m w).1 = 0 ∨ (fX5_add fi bt su kn v m w).1 = 1 := by unfold fX5_add; repeat (first | split | simp)
theorem ctX5_add (l : Launch) (g : Gl) (zs : Nat) (zsa : Nat) (zsb : Nat) (zsc : Nat) (fi : Nat → Int32) (bt : Nat → Int32) (su : Nat → Int32) (kn : Nat) (v : Int32) (m : Int32) (w : Int32) (q0 : kn ≤ 6) : CtI l g yX5_add cX5_add 4 (some .boolean) 0 [.ref zs, .int v, .int m, .int w] (fl [wSee g zs zsa zsb zsc fi bt su kn]) ((fX5_add fi bt su kn v m w).1) (fl [wSee g zs zsa zsb zsc ((fX5_add fi bt su kn v m w).2.1) ((fX5_add fi bt su kn v m w).2.2.1) ((fX5_add fi bt su kn v m w).2.2.2.1) ((fX5_add fi bt su kn v m w).2.2.2.2)]) := mkI .boolean rfl (nar_b (zX5_add fi bt su kn v m w)) [(0, .ref zs), (1, .int v), (2, .int m), (3, .int w)] (by decide) (Nat.le_of_ble_eq_true rfl) rfl (fun X C hR => bX5_add C zs zsa zsb zsc fi bt su kn v m w q0 hR)

def fX5_spinBehind (v : Int32) (m : Int32) (dd : Int32) : (Int32) := (let r_1 : Int32 := if 0 < (v - (m * dd)) then (v - (m * dd)) else 0; r_1)
set_option maxHeartbeats 4000000 in
set_option maxRecDepth 100000 in
theorem bX5_spinBehind {l : Launch} {g : Gl} {X : Cx} (C : Ok l g X RX5 cX5_spinBehind 3 1) (v : Int32) (m : Int32) (dd : Int32) (hR : RetI g X cX5_spinBehind 3 0 0 (fX5_spinBehind v m dd) (fl [])) : Vw g X 3 0 0 (fl []) 0 [(0, .int v), (1, .int m), (2, .int dd)] [] := by
  refine r_iconst (pc := 0) 0 C dX5_spinBehind_0 rfl ?_
  refine r_iload_n (pc := 1) C dX5_spinBehind_1 0 rfl ?_
  refine r_iload_n (pc := 2) C dX5_spinBehind_2 1 rfl ?_
  refine r_iload_n (pc := 3) C dX5_spinBehind_3 2 rfl ?_
  refine r_imul (pc := 4) C dX5_spinBehind_4 ?_
  refine r_isub (pc := 5) C dX5_spinBehind_5 ?_
  refine r_mmax (pc := 6) C dX5_spinBehind_6 ma_X5_25 mst_max miz mco_max (by decide) (Nat.le_of_ble_eq_true rfl) ⟨Nat.zero_le _, Nat.zero_le _⟩ ?_
  refine u_int (fun r_1 e_r_1 => ?_)
  have hf : fX5_spinBehind v m dd = r_1 := by first | (simp only [fX5_spinBehind, ← e_r_1]; done) | (subst e_r_1; rfl) | (subst e_r_1; simp only [fX5_spinBehind]; done)
  rw [hf] at hR
  exact hR _ _ dX5_spinBehind_9
theorem ctX5_spinBehind (l : Launch) (g : Gl) (v : Int32) (m : Int32) (dd : Int32) : CtI l g yX5_spinBehind cX5_spinBehind 3 (some .int) 1 [.int v, .int m, .int dd] (fl []) (fX5_spinBehind v m dd) (fl []) := mkI .int rfl rfl [(0, .int v), (1, .int m), (2, .int dd)] (by decide) (Nat.le_of_ble_eq_true rfl) rfl (fun X C hR => bX5_spinBehind C v m dd hR)

def lX5_canBe_2 (fi : Nat → Int32) (bt : Nat → Int32) (dd : Int32) (su : Nat → Int32) : Nat → (Nat) → (Int32)
  | 0, x2_1 => (1)
  | n + 1, x2_1 => (let r_4 : Int32 := fX5_spinBehind (fi x2_1) (bt x2_1) dd; if r_4 = (su x2_1) then (lX5_canBe_2 fi bt dd su n (x2_1 + 1)) else (0))
def fX5_canBe (fi : Nat → Int32) (bt : Nat → Int32) (su : Nat → Int32) (kn : Nat) (dd : Int32) : (Int32) := (lX5_canBe_2 fi bt dd su kn 0)
set_option maxHeartbeats 4000000 in
set_option maxRecDepth 100000 in
theorem bX5_canBe {l : Launch} {g : Gl} {X : Cx} (C : Ok l g X RX5 cX5_canBe 3 2) (zs : Nat) (zsa : Nat) (zsb : Nat) (zsc : Nat) (fi : Nat → Int32) (bt : Nat → Int32) (su : Nat → Int32) (kn : Nat) (dd : Int32) (q0 : kn ≤ 6) (hR : RetI g X cX5_canBe 3 0 0 (fX5_canBe fi bt su kn dd) (fl [wSee g zs zsa zsb zsc fi bt su kn])) : Vw g X 3 0 0 (fl [wSee g zs zsa zsb zsc fi bt su kn]) 0 [(0, .ref zs), (1, .int dd)] [] := by
  refine r_iconst (pc := 0) 0 C dX5_canBe_0 rfl ?_
  refine r_istore_n (pc := 1) [(2, .int 0), (0, .ref zs), (1, .int dd)] C dX5_canBe_1 (by decide) rfl ?_
  have hF1 : fX5_canBe fi bt su kn dd = lX5_canBe_2 fi bt dd su kn 0 := by first | rfl | (simp only [fX5_canBe]; done) | (simp [fX5_canBe]; done)
  have hL1 : ∀ (n : Nat) (x2_1 : Nat) , (x2_1 + n = kn) → lX5_canBe_2 fi bt dd su n x2_1 = lX5_canBe_2 fi bt dd su kn 0 → Vw g X 3 0 0 (fl [wSee g zs zsa zsb zsc fi bt su kn]) 2 [(0, .ref zs), (1, .int dd), (2, .int (nI x2_1))] [] := by
    intro n
    induction n with
    | zero =>
      intro x2_1 hr1 hV1
      refine r_iload_n (pc := 2) C dX5_canBe_2 2 rfl ?_
      refine r_aload_n (pc := 3) C dX5_canBe_3 0 rfl ?_
      refine r_get (pc := 4) C fl_X5_21 dX5_canBe_4 0 rfl rfl ?_
      refine r_icmpgeN (pc := 7) x2_1 kn 43 C dX5_canBe_7 (by decide) rfl rfl (by omega) (by omega) (fun _ => ?_) (fun c_2 => absurd (by omega) c_2)
      refine r_iconst (pc := 43) 1 C dX5_canBe_43 rfl ?_
      have hf : fX5_canBe fi bt su kn dd = 1 := hF1.trans (hV1.symm.trans (by first | rfl | (simp only [lX5_canBe_2]; done) | (simp [lX5_canBe_2]; done)))
      rw [hf] at hR
      exact hR _ _ dX5_canBe_44
    | succ n ih =>
      intro x2_1 hr1 hV1
      refine r_iload_n (pc := 2) C dX5_canBe_2 2 rfl ?_
      refine r_aload_n (pc := 3) C dX5_canBe_3 0 rfl ?_
      refine r_get (pc := 4) C fl_X5_21 dX5_canBe_4 0 rfl rfl ?_
      refine r_icmpgeN (pc := 7) x2_1 kn 43 C dX5_canBe_7 (by decide) rfl rfl (by omega) (by omega) (fun c_3 => absurd c_3 (by omega)) (fun _ => ?_)
      refine r_aload_n (pc := 10) C dX5_canBe_10 0 rfl ?_
      refine r_get (pc := 11) C fl_X5_9 dX5_canBe_11 0 rfl rfl ?_
      refine r_iload_n (pc := 14) C dX5_canBe_14 2 rfl ?_
      refine r_iald (pc := 15) x2_1 C dX5_canBe_15 1 rfl rfl (by omega) (by decide) ?_
      refine r_aload_n (pc := 16) C dX5_canBe_16 0 rfl ?_
      refine r_get (pc := 17) C fl_X5_15 dX5_canBe_17 0 rfl rfl ?_
      refine r_iload_n (pc := 20) C dX5_canBe_20 2 rfl ?_
      refine r_iald (pc := 21) x2_1 C dX5_canBe_21 2 rfl rfl (by omega) (by decide) ?_
      refine r_iload_n (pc := 22) C dX5_canBe_22 1 rfl ?_
      obtain ⟨r_4, e_r_4⟩ : ∃ z : Int32, z = fX5_spinBehind (fi x2_1) (bt x2_1) dd := ⟨_, rfl⟩
      have K_5 := ctX5_spinBehind l g   (fi x2_1) (bt x2_1) dd 
      rw [← e_r_4] at K_5
      refine x_pI (pc := 23) C ms_X5_31 K_5 dX5_canBe_23 (by decide) [] rfl (by decide) rfl (Nat.le_of_ble_eq_true rfl) ⟨Nat.zero_le _, Nat.zero_le _⟩ ?_
      refine r_aload_n (pc := 26) C dX5_canBe_26 0 rfl ?_
      refine r_get (pc := 27) C fl_X5_18 dX5_canBe_27 0 rfl rfl ?_
      refine r_iload_n (pc := 30) C dX5_canBe_30 2 rfl ?_
      refine r_iald (pc := 31) x2_1 C dX5_canBe_31 3 rfl rfl (by omega) (by decide) ?_
      refine r_icmpeq (pc := 32) 37 C dX5_canBe_32 (by decide) (fun c_6 => ?_) (fun c_6 => ?_)
      · refine r_iinc (pc := 37) (nI (x2_1 + 1)) [(2, .int (nI (x2_1 + 1))), (0, .ref zs), (1, .int dd)] C dX5_canBe_37 2 rfl (inc1 _) (by decide) rfl ?_
        refine r_goto (pc := 40) 2 C dX5_canBe_40 (by decide) ?_
        refine u_lv [(0, .ref zs), (1, .int dd), (2, .int (nI (x2_1 + 1)))] [1, 2, 0] rfl ?_
        exact ih (x2_1 + 1) (by omega) (by rw [← hV1]; first | (simp only [lX5_canBe_2, ← e_r_4, if_pos c_6]; done) | (subst e_r_4; simp only [lX5_canBe_2, if_pos c_6]; done) | (subst e_r_4; rfl) | (subst e_r_4; simp [lX5_canBe_2, if_pos c_6]; done))
      · refine r_iconst (pc := 35) 0 C dX5_canBe_35 rfl ?_
        have hf : fX5_canBe fi bt su kn dd = 0 := hF1.trans (hV1.symm.trans (by first | (simp only [lX5_canBe_2, ← e_r_4, if_neg c_6]; done) | (subst e_r_4; simp only [lX5_canBe_2, if_neg c_6]; done) | (subst e_r_4; rfl) | (subst e_r_4; simp [lX5_canBe_2, if_neg c_6]; done)))
        rw [hf] at hR
        exact hR _ _ dX5_canBe_36
  refine u_lv [(0, .ref zs), (1, .int dd), (2, .int 0)] [1, 2, 0] rfl ?_
  exact hL1 kn 0 (by omega) rfl
theorem zX5_canBe (fi : Nat → Int32) (bt : Nat → Int32) (su : Nat → Int32) (kn : Nat) (dd : Int32) : fX5_canBe fi bt su kn dd = 0 ∨ fX5_canBe fi bt su kn dd = 1 := by
  unfold fX5_canBe
  suffices h : ∀ n i, lX5_canBe_2 fi bt dd su n i = 0 ∨ lX5_canBe_2 fi bt dd su n i = 1 from h _ _
  intro n
  induction n with
  | zero => intro i; exact Or.inr rfl
  | succ n ih =>
    intro i
    simp only [lX5_canBe_2]
    split
    · exact ih _
    · exact Or.inl rfl
theorem ctX5_canBe (l : Launch) (g : Gl) (zs : Nat) (zsa : Nat) (zsb : Nat) (zsc : Nat) (fi : Nat → Int32) (bt : Nat → Int32) (su : Nat → Int32) (kn : Nat) (dd : Int32) (q0 : kn ≤ 6) : CtI l g yX5_canBe cX5_canBe 3 (some .boolean) 2 [.ref zs, .int dd] (fl [wSee g zs zsa zsb zsc fi bt su kn]) (fX5_canBe fi bt su kn dd) (fl [wSee g zs zsa zsb zsc fi bt su kn]) := mkI .boolean rfl (nar_b (zX5_canBe fi bt su kn dd)) [(0, .ref zs), (1, .int dd)] (by decide) (Nat.le_of_ble_eq_true rfl) rfl (fun X C hR => bX5_canBe C zs zsa zsb zsc fi bt su kn dd q0 hR)

def lX5_howMany_4 (fi : Nat → Int32) (bt : Nat → Int32) (su : Nat → Int32) (kn : Nat) : Nat → (Int32) → (Nat) → (Int32)
  | 0, x1_1, x2_1 => (x1_1)
  | n + 1, x1_1, x2_1 => (let r_4 : Int32 := fX5_canBe fi bt su kn (nI x2_1); if r_4 = 0 then (lX5_howMany_4 fi bt su kn n x1_1 (x2_1 + 1)) else (lX5_howMany_4 fi bt su kn n (x1_1 + 1) (x2_1 + 1)))
def fX5_howMany (fi : Nat → Int32) (bt : Nat → Int32) (su : Nat → Int32) (kn : Nat) : (Int32) := (let x1_7 : Int32 := lX5_howMany_4 fi bt su kn (10 - 1) 0 1; x1_7)
set_option maxHeartbeats 4000000 in
set_option maxRecDepth 100000 in
theorem bX5_howMany {l : Launch} {g : Gl} {X : Cx} (C : Ok l g X RX5 cX5_howMany 3 3) (zs : Nat) (zsa : Nat) (zsb : Nat) (zsc : Nat) (fi : Nat → Int32) (bt : Nat → Int32) (su : Nat → Int32) (kn : Nat) (q0 : kn ≤ 6) (hR : RetI g X cX5_howMany 3 0 0 (fX5_howMany fi bt su kn) (fl [wSee g zs zsa zsb zsc fi bt su kn])) : Vw g X 3 0 0 (fl [wSee g zs zsa zsb zsc fi bt su kn]) 0 [(0, .ref zs)] [] := by
  refine r_iconst (pc := 0) 0 C dX5_howMany_0 rfl ?_
  refine r_istore_n (pc := 1) [(1, .int 0), (0, .ref zs)] C dX5_howMany_1 (by decide) rfl ?_
  refine r_iconst (pc := 2) 1 C dX5_howMany_2 rfl ?_
  refine r_istore_n (pc := 3) [(2, .int 1), (1, .int 0), (0, .ref zs)] C dX5_howMany_3 (by decide) rfl ?_
  have hX1 : ∀ (x1_7 : Int32) , (x1_7 = lX5_howMany_4 fi bt su kn (10 - 1) 0 1) → Vw g X 3 0 0 (fl [wSee g zs zsa zsb zsc fi bt su kn]) 27 [(1, .int x1_7)] [] := by
    intro x1_7 e_x1_7 
    refine r_iload_n (pc := 27) C dX5_howMany_27 0 rfl ?_
    have hf : fX5_howMany fi bt su kn = x1_7 := by first | (simp only [fX5_howMany, ← e_x1_7]; done) | (subst e_x1_7; rfl) | (subst e_x1_7; simp only [fX5_howMany]; done)
    rw [hf] at hR
    exact hR _ _ dX5_howMany_28
  have hL1 : ∀ (n : Nat) (x1_1 : Int32) (x2_1 : Nat) , (x2_1 + n = 10) → lX5_howMany_4 fi bt su kn n x1_1 x2_1 = lX5_howMany_4 fi bt su kn (10 - 1) 0 1 → Vw g X 3 0 0 (fl [wSee g zs zsa zsb zsc fi bt su kn]) 4 [(0, .ref zs), (1, .int x1_1), (2, .int (nI x2_1))] [] := by
    intro n
    induction n with
    | zero =>
      intro x1_1 x2_1 hr1 hV1
      refine r_iload_n (pc := 4) C dX5_howMany_4 2 rfl ?_
      refine r_bipush (pc := 5) 9 C dX5_howMany_5 rfl ?_
      refine r_icmpgtN (pc := 7) x2_1 9 27 C dX5_howMany_7 (by decide) rfl rfl (by omega) (by omega) (fun _ => ?_) (fun c_2 => absurd (by omega) c_2)
      refine u_lv [(1, .int x1_1)] [1] rfl ?_
      exact hX1 _ (by rw [← hV1]; first | rfl | (simp only [lX5_howMany_4]; done) | (simp [lX5_howMany_4]; done))
    | succ n ih =>
      intro x1_1 x2_1 hr1 hV1
      refine r_iload_n (pc := 4) C dX5_howMany_4 2 rfl ?_
      refine r_bipush (pc := 5) 9 C dX5_howMany_5 rfl ?_
      refine r_icmpgtN (pc := 7) x2_1 9 27 C dX5_howMany_7 (by decide) rfl rfl (by omega) (by omega) (fun c_3 => absurd c_3 (by omega)) (fun _ => ?_)
      refine r_aload_n (pc := 10) C dX5_howMany_10 0 rfl ?_
      refine r_iload_n (pc := 11) C dX5_howMany_11 2 rfl ?_
      obtain ⟨r_4, e_r_4⟩ : ∃ z : Int32, z = fX5_canBe fi bt su kn (nI x2_1) := ⟨_, rfl⟩
      have K_5 := ctX5_canBe l g zs zsa zsb zsc fi bt su kn (nI x2_1) (by omega)
      rw [← e_r_4] at K_5
      refine w_pI (pc := 12) C mv_X5_35 K_5 dX5_howMany_12 (by decide) [0] rfl (by decide) 0 rfl rfl (Nat.le_of_ble_eq_true rfl) ⟨Nat.zero_le _, Nat.zero_le _⟩ ?_
      refine r_ifeq (pc := 15) 21 C dX5_howMany_15 (by decide) (fun c_6 => ?_) (fun c_6 => ?_)
      · refine r_iinc (pc := 21) (nI (x2_1 + 1)) [(2, .int (nI (x2_1 + 1))), (0, .ref zs), (1, .int x1_1)] C dX5_howMany_21 2 rfl (inc1 _) (by decide) rfl ?_
        refine r_goto (pc := 24) 4 C dX5_howMany_24 (by decide) ?_
        refine u_lv [(0, .ref zs), (1, .int x1_1), (2, .int (nI (x2_1 + 1)))] [1, 2, 0] rfl ?_
        exact ih x1_1 (x2_1 + 1) (by omega) (by rw [← hV1]; first | (simp only [lX5_howMany_4, ← e_r_4, if_pos c_6]; done) | (subst e_r_4; simp only [lX5_howMany_4, if_pos c_6]; done) | (subst e_r_4; rfl) | (subst e_r_4; simp [lX5_howMany_4, if_pos c_6]; done))
      · refine r_iinc (pc := 18) (x1_1 + 1) [(1, .int (x1_1 + 1)), (0, .ref zs), (2, .int (nI x2_1))] C dX5_howMany_18 1 rfl rfl (by decide) rfl ?_
        refine r_iinc (pc := 21) (nI (x2_1 + 1)) [(2, .int (nI (x2_1 + 1))), (1, .int (x1_1 + 1)), (0, .ref zs)] C dX5_howMany_21 2 rfl (inc1 _) (by decide) rfl ?_
        refine r_goto (pc := 24) 4 C dX5_howMany_24 (by decide) ?_
        refine u_lv [(0, .ref zs), (1, .int (x1_1 + 1)), (2, .int (nI (x2_1 + 1)))] [2, 1, 0] rfl ?_
        exact ih (x1_1 + 1) (x2_1 + 1) (by omega) (by rw [← hV1]; first | (simp only [lX5_howMany_4, ← e_r_4, if_neg c_6]; done) | (subst e_r_4; simp only [lX5_howMany_4, if_neg c_6]; done) | (subst e_r_4; rfl) | (subst e_r_4; simp [lX5_howMany_4, if_neg c_6]; done))
  refine u_lv [(0, .ref zs), (1, .int 0), (2, .int 1)] [2, 1, 0] rfl ?_
  exact hL1 (10 - 1) 0 1 (by omega) rfl
theorem ctX5_howMany (l : Launch) (g : Gl) (zs : Nat) (zsa : Nat) (zsb : Nat) (zsc : Nat) (fi : Nat → Int32) (bt : Nat → Int32) (su : Nat → Int32) (kn : Nat) (q0 : kn ≤ 6) : CtI l g yX5_howMany cX5_howMany 3 (some .int) 3 [.ref zs] (fl [wSee g zs zsa zsb zsc fi bt su kn]) (fX5_howMany fi bt su kn) (fl [wSee g zs zsa zsb zsc fi bt su kn]) := mkI .int rfl rfl [(0, .ref zs)] (by decide) (Nat.le_of_ble_eq_true rfl) rfl (fun X C hR => bX5_howMany C zs zsa zsb zsc fi bt su kn q0 hR)

def lX5_least_2 (fi : Nat → Int32) (bt : Nat → Int32) (su : Nat → Int32) (kn : Nat) : Nat → (Nat) → (Int32)
  | 0, x1_1 => ((-9))
  | n + 1, x1_1 => (let r_4 : Int32 := fX5_canBe fi bt su kn (nI x1_1); if r_4 = 0 then (lX5_least_2 fi bt su kn n (x1_1 + 1)) else ((nI x1_1)))
def fX5_least (fi : Nat → Int32) (bt : Nat → Int32) (su : Nat → Int32) (kn : Nat) : (Int32) := (lX5_least_2 fi bt su kn (10 - 1) 1)
set_option maxHeartbeats 4000000 in
set_option maxRecDepth 100000 in
theorem bX5_least {l : Launch} {g : Gl} {X : Cx} (C : Ok l g X RX5 cX5_least 2 3) (zs : Nat) (zsa : Nat) (zsb : Nat) (zsc : Nat) (fi : Nat → Int32) (bt : Nat → Int32) (su : Nat → Int32) (kn : Nat) (q0 : kn ≤ 6) (hR : RetI g X cX5_least 2 0 0 (fX5_least fi bt su kn) (fl [wSee g zs zsa zsb zsc fi bt su kn])) : Vw g X 2 0 0 (fl [wSee g zs zsa zsb zsc fi bt su kn]) 0 [(0, .ref zs)] [] := by
  refine r_iconst (pc := 0) 1 C dX5_least_0 rfl ?_
  refine r_istore_n (pc := 1) [(1, .int 1), (0, .ref zs)] C dX5_least_1 (by decide) rfl ?_
  have hF1 : fX5_least fi bt su kn = lX5_least_2 fi bt su kn (10 - 1) 1 := by first | rfl | (simp only [fX5_least]; done) | (simp [fX5_least]; done)
  have hL1 : ∀ (n : Nat) (x1_1 : Nat) , (x1_1 + n = 10) → lX5_least_2 fi bt su kn n x1_1 = lX5_least_2 fi bt su kn (10 - 1) 1 → Vw g X 2 0 0 (fl [wSee g zs zsa zsb zsc fi bt su kn]) 2 [(0, .ref zs), (1, .int (nI x1_1))] [] := by
    intro n
    induction n with
    | zero =>
      intro x1_1 hr1 hV1
      refine r_iload_n (pc := 2) C dX5_least_2 1 rfl ?_
      refine r_bipush (pc := 3) 9 C dX5_least_3 rfl ?_
      refine r_icmpgtN (pc := 5) x1_1 9 24 C dX5_least_5 (by decide) rfl rfl (by omega) (by omega) (fun _ => ?_) (fun c_2 => absurd (by omega) c_2)
      refine r_bipush (pc := 24) (-9) C dX5_least_24 rfl ?_
      have hf : fX5_least fi bt su kn = (-9) := hF1.trans (hV1.symm.trans (by first | rfl | (simp only [lX5_least_2]; done) | (simp [lX5_least_2]; done)))
      rw [hf] at hR
      exact hR _ _ dX5_least_26
    | succ n ih =>
      intro x1_1 hr1 hV1
      refine r_iload_n (pc := 2) C dX5_least_2 1 rfl ?_
      refine r_bipush (pc := 3) 9 C dX5_least_3 rfl ?_
      refine r_icmpgtN (pc := 5) x1_1 9 24 C dX5_least_5 (by decide) rfl rfl (by omega) (by omega) (fun c_3 => absurd c_3 (by omega)) (fun _ => ?_)
      refine r_aload_n (pc := 8) C dX5_least_8 0 rfl ?_
      refine r_iload_n (pc := 9) C dX5_least_9 1 rfl ?_
      obtain ⟨r_4, e_r_4⟩ : ∃ z : Int32, z = fX5_canBe fi bt su kn (nI x1_1) := ⟨_, rfl⟩
      have K_5 := ctX5_canBe l g zs zsa zsb zsc fi bt su kn (nI x1_1) (by omega)
      rw [← e_r_4] at K_5
      refine w_pI (pc := 10) C mv_X5_35 K_5 dX5_least_10 (by decide) [0] rfl (by decide) 0 rfl rfl (Nat.le_of_ble_eq_true rfl) ⟨Nat.zero_le _, Nat.zero_le _⟩ ?_
      refine r_ifeq (pc := 13) 18 C dX5_least_13 (by decide) (fun c_6 => ?_) (fun c_6 => ?_)
      · refine r_iinc (pc := 18) (nI (x1_1 + 1)) [(1, .int (nI (x1_1 + 1))), (0, .ref zs)] C dX5_least_18 1 rfl (inc1 _) (by decide) rfl ?_
        refine r_goto (pc := 21) 2 C dX5_least_21 (by decide) ?_
        refine u_lv [(0, .ref zs), (1, .int (nI (x1_1 + 1)))] [1, 0] rfl ?_
        exact ih (x1_1 + 1) (by omega) (by rw [← hV1]; first | (simp only [lX5_least_2, ← e_r_4, if_pos c_6]; done) | (subst e_r_4; simp only [lX5_least_2, if_pos c_6]; done) | (subst e_r_4; rfl) | (subst e_r_4; simp [lX5_least_2, if_pos c_6]; done))
      · refine r_iload_n (pc := 16) C dX5_least_16 1 rfl ?_
        have hf : fX5_least fi bt su kn = (nI x1_1) := hF1.trans (hV1.symm.trans (by first | (simp only [lX5_least_2, ← e_r_4, if_neg c_6]; done) | (subst e_r_4; simp only [lX5_least_2, if_neg c_6]; done) | (subst e_r_4; rfl) | (subst e_r_4; simp [lX5_least_2, if_neg c_6]; done)))
        rw [hf] at hR
        exact hR _ _ dX5_least_17
  refine u_lv [(0, .ref zs), (1, .int 1)] [1, 0] rfl ?_
  exact hL1 (10 - 1) 1 (by omega) rfl
theorem ctX5_least (l : Launch) (g : Gl) (zs : Nat) (zsa : Nat) (zsb : Nat) (zsc : Nat) (fi : Nat → Int32) (bt : Nat → Int32) (su : Nat → Int32) (kn : Nat) (q0 : kn ≤ 6) : CtI l g yX5_least cX5_least 2 (some .int) 3 [.ref zs] (fl [wSee g zs zsa zsb zsc fi bt su kn]) (fX5_least fi bt su kn) (fl [wSee g zs zsa zsb zsc fi bt su kn]) := mkI .int rfl rfl [(0, .ref zs)] (by decide) (Nat.le_of_ble_eq_true rfl) rfl (fun X C hR => bX5_least C zs zsa zsb zsc fi bt su kn q0 hR)

def lX5_greatest_3 (fi : Nat → Int32) (bt : Nat → Int32) (su : Nat → Int32) (kn : Nat) : Nat → (Nat) → (Int32)
  | 0, x1_1 => ((-9))
  | n + 1, x1_1 => (let r_4 : Int32 := fX5_canBe fi bt su kn (nI x1_1); if r_4 = 0 then (lX5_greatest_3 fi bt su kn n (x1_1 - 1)) else ((nI x1_1)))
def fX5_greatest (fi : Nat → Int32) (bt : Nat → Int32) (su : Nat → Int32) (kn : Nat) : (Int32) := (lX5_greatest_3 fi bt su kn 9 9)
set_option maxHeartbeats 4000000 in
set_option maxRecDepth 100000 in
theorem bX5_greatest {l : Launch} {g : Gl} {X : Cx} (C : Ok l g X RX5 cX5_greatest 2 3) (zs : Nat) (zsa : Nat) (zsb : Nat) (zsc : Nat) (fi : Nat → Int32) (bt : Nat → Int32) (su : Nat → Int32) (kn : Nat) (q0 : kn ≤ 6) (hR : RetI g X cX5_greatest 2 0 0 (fX5_greatest fi bt su kn) (fl [wSee g zs zsa zsb zsc fi bt su kn])) : Vw g X 2 0 0 (fl [wSee g zs zsa zsb zsc fi bt su kn]) 0 [(0, .ref zs)] [] := by
  refine r_bipush (pc := 0) 9 C dX5_greatest_0 rfl ?_
  refine r_istore_n (pc := 2) [(1, .int 9), (0, .ref zs)] C dX5_greatest_2 (by decide) rfl ?_
  have hF1 : fX5_greatest fi bt su kn = lX5_greatest_3 fi bt su kn 9 9 := by first | rfl | (simp only [fX5_greatest]; done) | (simp [fX5_greatest]; done)
  have hL1 : ∀ (n : Nat) (x1_1 : Nat) , (x1_1 = n) → (x1_1 ≤ 9) → lX5_greatest_3 fi bt su kn n x1_1 = lX5_greatest_3 fi bt su kn 9 9 → Vw g X 2 0 0 (fl [wSee g zs zsa zsb zsc fi bt su kn]) 3 [(0, .ref zs), (1, .int (nI x1_1))] [] := by
    intro n
    induction n with
    | zero =>
      intro x1_1 hr1 hi1_0 hV1
      refine r_iload_n (pc := 3) C dX5_greatest_3 1 rfl ?_
      refine r_iconst (pc := 4) 1 C dX5_greatest_4 rfl ?_
      refine r_icmpltN (pc := 5) x1_1 1 24 C dX5_greatest_5 (by decide) rfl rfl (by omega) (by omega) (fun _ => ?_) (fun c_2 => absurd (by omega) c_2)
      refine r_bipush (pc := 24) (-9) C dX5_greatest_24 rfl ?_
      have hf : fX5_greatest fi bt su kn = (-9) := hF1.trans (hV1.symm.trans (by first | rfl | (simp only [lX5_greatest_3]; done) | (simp [lX5_greatest_3]; done)))
      rw [hf] at hR
      exact hR _ _ dX5_greatest_26
    | succ n ih =>
      intro x1_1 hr1 hi1_0 hV1
      refine r_iload_n (pc := 3) C dX5_greatest_3 1 rfl ?_
      refine r_iconst (pc := 4) 1 C dX5_greatest_4 rfl ?_
      refine r_icmpltN (pc := 5) x1_1 1 24 C dX5_greatest_5 (by decide) rfl rfl (by omega) (by omega) (fun c_3 => absurd c_3 (by omega)) (fun _ => ?_)
      refine r_aload_n (pc := 8) C dX5_greatest_8 0 rfl ?_
      refine r_iload_n (pc := 9) C dX5_greatest_9 1 rfl ?_
      obtain ⟨r_4, e_r_4⟩ : ∃ z : Int32, z = fX5_canBe fi bt su kn (nI x1_1) := ⟨_, rfl⟩
      have K_5 := ctX5_canBe l g zs zsa zsb zsc fi bt su kn (nI x1_1) (by omega)
      rw [← e_r_4] at K_5
      refine w_pI (pc := 10) C mv_X5_35 K_5 dX5_greatest_10 (by decide) [0] rfl (by decide) 0 rfl rfl (Nat.le_of_ble_eq_true rfl) ⟨Nat.zero_le _, Nat.zero_le _⟩ ?_
      refine r_ifeq (pc := 13) 18 C dX5_greatest_13 (by decide) (fun c_6 => ?_) (fun c_6 => ?_)
      · refine r_iinc (pc := 18) (nI (x1_1 - 1)) [(1, .int (nI (x1_1 - 1))), (0, .ref zs)] C dX5_greatest_18 1 rfl (dec1 (by omega)) (by decide) rfl ?_
        refine r_goto (pc := 21) 3 C dX5_greatest_21 (by decide) ?_
        refine u_lv [(0, .ref zs), (1, .int (nI (x1_1 - 1)))] [1, 0] rfl ?_
        exact ih (x1_1 - 1) (by omega) (by omega) (by rw [← hV1]; first | (simp only [lX5_greatest_3, ← e_r_4, if_pos c_6]; done) | (subst e_r_4; simp only [lX5_greatest_3, if_pos c_6]; done) | (subst e_r_4; rfl) | (subst e_r_4; simp [lX5_greatest_3, if_pos c_6]; done))
      · refine r_iload_n (pc := 16) C dX5_greatest_16 1 rfl ?_
        have hf : fX5_greatest fi bt su kn = (nI x1_1) := hF1.trans (hV1.symm.trans (by first | (simp only [lX5_greatest_3, ← e_r_4, if_neg c_6]; done) | (subst e_r_4; simp only [lX5_greatest_3, if_neg c_6]; done) | (subst e_r_4; rfl) | (subst e_r_4; simp [lX5_greatest_3, if_neg c_6]; done)))
        rw [hf] at hR
        exact hR _ _ dX5_greatest_17
  refine u_lv [(0, .ref zs), (1, .int 9)] [1, 0] rfl ?_
  exact hL1 9 9 (by omega) (by omega) rfl
theorem ctX5_greatest (l : Launch) (g : Gl) (zs : Nat) (zsa : Nat) (zsb : Nat) (zsc : Nat) (fi : Nat → Int32) (bt : Nat → Int32) (su : Nat → Int32) (kn : Nat) (q0 : kn ≤ 6) : CtI l g yX5_greatest cX5_greatest 2 (some .int) 3 [.ref zs] (fl [wSee g zs zsa zsb zsc fi bt su kn]) (fX5_greatest fi bt su kn) (fl [wSee g zs zsa zsb zsc fi bt su kn]) := mkI .int rfl rfl [(0, .ref zs)] (by decide) (Nat.le_of_ble_eq_true rfl) rfl (fun X C hR => bX5_greatest C zs zsa zsb zsc fi bt su kn q0 hR)

def lX5_howManyAlike_6 (fi : Nat → Int32) (bt : Nat → Int32) (su : Nat → Int32) (kn : Nat) (v : Int32) (m : Int32) (w : Int32) : Nat → (Int32) → (Nat) → (Int32)
  | 0, x4_1, x5_1 => (x4_1)
  | n + 1, x4_1, x5_1 => (let r_4 : Int32 := fX5_canBe fi bt su kn (nI x5_1); if r_4 = 0 then (lX5_howManyAlike_6 fi bt su kn v m w n x4_1 (x5_1 + 1)) else (let r_7 : Int32 := fX5_spinBehind v m (nI x5_1); if r_7 = w then (lX5_howManyAlike_6 fi bt su kn v m w n (x4_1 + 1) (x5_1 + 1)) else (lX5_howManyAlike_6 fi bt su kn v m w n x4_1 (x5_1 + 1))))
def fX5_howManyAlike (fi : Nat → Int32) (bt : Nat → Int32) (su : Nat → Int32) (kn : Nat) (v : Int32) (m : Int32) (w : Int32) : (Int32) := (let x4_10 : Int32 := lX5_howManyAlike_6 fi bt su kn v m w (10 - 1) 0 1; x4_10)
set_option maxHeartbeats 4000000 in
set_option maxRecDepth 100000 in
theorem bX5_howManyAlike {l : Launch} {g : Gl} {X : Cx} (C : Ok l g X RX5 cX5_howManyAlike 6 3) (zs : Nat) (zsa : Nat) (zsb : Nat) (zsc : Nat) (fi : Nat → Int32) (bt : Nat → Int32) (su : Nat → Int32) (kn : Nat) (v : Int32) (m : Int32) (w : Int32) (q0 : kn ≤ 6) (hR : RetI g X cX5_howManyAlike 6 0 0 (fX5_howManyAlike fi bt su kn v m w) (fl [wSee g zs zsa zsb zsc fi bt su kn])) : Vw g X 6 0 0 (fl [wSee g zs zsa zsb zsc fi bt su kn]) 0 [(0, .ref zs), (1, .int v), (2, .int m), (3, .int w)] [] := by
  refine r_iconst (pc := 0) 0 C dX5_howManyAlike_0 rfl ?_
  refine r_istore (pc := 1) [(4, .int 0), (0, .ref zs), (1, .int v), (2, .int m), (3, .int w)] C dX5_howManyAlike_1 (by decide) rfl ?_
  refine r_iconst (pc := 3) 1 C dX5_howManyAlike_3 rfl ?_
  refine r_istore (pc := 4) [(5, .int 1), (4, .int 0), (0, .ref zs), (1, .int v), (2, .int m), (3, .int w)] C dX5_howManyAlike_4 (by decide) rfl ?_
  have hX1 : ∀ (x4_10 : Int32) , (x4_10 = lX5_howManyAlike_6 fi bt su kn v m w (10 - 1) 0 1) → Vw g X 6 0 0 (fl [wSee g zs zsa zsb zsc fi bt su kn]) 42 [(4, .int x4_10)] [] := by
    intro x4_10 e_x4_10 
    refine r_iload (pc := 42) C dX5_howManyAlike_42 0 rfl ?_
    have hf : fX5_howManyAlike fi bt su kn v m w = x4_10 := by first | (simp only [fX5_howManyAlike, ← e_x4_10]; done) | (subst e_x4_10; rfl) | (subst e_x4_10; simp only [fX5_howManyAlike]; done)
    rw [hf] at hR
    exact hR _ _ dX5_howManyAlike_44
  have hL1 : ∀ (n : Nat) (x4_1 : Int32) (x5_1 : Nat) , (x5_1 + n = 10) → lX5_howManyAlike_6 fi bt su kn v m w n x4_1 x5_1 = lX5_howManyAlike_6 fi bt su kn v m w (10 - 1) 0 1 → Vw g X 6 0 0 (fl [wSee g zs zsa zsb zsc fi bt su kn]) 6 [(0, .ref zs), (1, .int v), (2, .int m), (3, .int w), (4, .int x4_1), (5, .int (nI x5_1))] [] := by
    intro n
    induction n with
    | zero =>
      intro x4_1 x5_1 hr1 hV1
      refine r_iload (pc := 6) C dX5_howManyAlike_6 5 rfl ?_
      refine r_bipush (pc := 8) 9 C dX5_howManyAlike_8 rfl ?_
      refine r_icmpgtN (pc := 10) x5_1 9 42 C dX5_howManyAlike_10 (by decide) rfl rfl (by omega) (by omega) (fun _ => ?_) (fun c_2 => absurd (by omega) c_2)
      refine u_lv [(4, .int x4_1)] [4] rfl ?_
      exact hX1 _ (by rw [← hV1]; first | rfl | (simp only [lX5_howManyAlike_6]; done) | (simp [lX5_howManyAlike_6]; done))
    | succ n ih =>
      intro x4_1 x5_1 hr1 hV1
      refine r_iload (pc := 6) C dX5_howManyAlike_6 5 rfl ?_
      refine r_bipush (pc := 8) 9 C dX5_howManyAlike_8 rfl ?_
      refine r_icmpgtN (pc := 10) x5_1 9 42 C dX5_howManyAlike_10 (by decide) rfl rfl (by omega) (by omega) (fun c_3 => absurd c_3 (by omega)) (fun _ => ?_)
      refine r_aload_n (pc := 13) C dX5_howManyAlike_13 0 rfl ?_
      refine r_iload (pc := 14) C dX5_howManyAlike_14 5 rfl ?_
      obtain ⟨r_4, e_r_4⟩ : ∃ z : Int32, z = fX5_canBe fi bt su kn (nI x5_1) := ⟨_, rfl⟩
      have K_5 := ctX5_canBe l g zs zsa zsb zsc fi bt su kn (nI x5_1) (by omega)
      rw [← e_r_4] at K_5
      refine w_pI (pc := 16) C mv_X5_35 K_5 dX5_howManyAlike_16 (by decide) [0] rfl (by decide) 0 rfl rfl (Nat.le_of_ble_eq_true rfl) ⟨Nat.zero_le _, Nat.zero_le _⟩ ?_
      refine r_ifeq (pc := 19) 36 C dX5_howManyAlike_19 (by decide) (fun c_6 => ?_) (fun c_6 => ?_)
      · refine r_iinc (pc := 36) (nI (x5_1 + 1)) [(5, .int (nI (x5_1 + 1))), (0, .ref zs), (1, .int v), (2, .int m), (3, .int w), (4, .int x4_1)] C dX5_howManyAlike_36 5 rfl (inc1 _) (by decide) rfl ?_
        refine r_goto (pc := 39) 6 C dX5_howManyAlike_39 (by decide) ?_
        refine u_lv [(0, .ref zs), (1, .int v), (2, .int m), (3, .int w), (4, .int x4_1), (5, .int (nI (x5_1 + 1)))] [1, 2, 3, 4, 5, 0] rfl ?_
        exact ih x4_1 (x5_1 + 1) (by omega) (by rw [← hV1]; first | (simp only [lX5_howManyAlike_6, ← e_r_4, if_pos c_6]; done) | (subst e_r_4; simp only [lX5_howManyAlike_6, if_pos c_6]; done) | (subst e_r_4; rfl) | (subst e_r_4; simp [lX5_howManyAlike_6, if_pos c_6]; done))
      · refine r_iload_n (pc := 22) C dX5_howManyAlike_22 1 rfl ?_
        refine r_iload_n (pc := 23) C dX5_howManyAlike_23 2 rfl ?_
        refine r_iload (pc := 24) C dX5_howManyAlike_24 5 rfl ?_
        obtain ⟨r_7, e_r_7⟩ : ∃ z : Int32, z = fX5_spinBehind v m (nI x5_1) := ⟨_, rfl⟩
        have K_8 := ctX5_spinBehind l g   v m (nI x5_1) 
        rw [← e_r_7] at K_8
        refine x_pI (pc := 26) C ms_X5_31 K_8 dX5_howManyAlike_26 (by decide) [] rfl (by decide) rfl (Nat.le_of_ble_eq_true rfl) ⟨Nat.zero_le _, Nat.zero_le _⟩ ?_
        refine r_iload_n (pc := 29) C dX5_howManyAlike_29 3 rfl ?_
        refine r_icmpne (pc := 30) 36 C dX5_howManyAlike_30 (by decide) (fun c_9 => ?_) (fun c_9 => ?_)
        · refine r_iinc (pc := 36) (nI (x5_1 + 1)) [(5, .int (nI (x5_1 + 1))), (0, .ref zs), (1, .int v), (2, .int m), (3, .int w), (4, .int x4_1)] C dX5_howManyAlike_36 5 rfl (inc1 _) (by decide) rfl ?_
          refine r_goto (pc := 39) 6 C dX5_howManyAlike_39 (by decide) ?_
          refine u_lv [(0, .ref zs), (1, .int v), (2, .int m), (3, .int w), (4, .int x4_1), (5, .int (nI (x5_1 + 1)))] [1, 2, 3, 4, 5, 0] rfl ?_
          exact ih x4_1 (x5_1 + 1) (by omega) (by rw [← hV1]; first | (simp only [lX5_howManyAlike_6, ← e_r_4, ← e_r_7, if_neg c_6, if_neg c_9]; done) | (subst e_r_4 e_r_7; simp only [lX5_howManyAlike_6, if_neg c_6, if_neg c_9]; done) | (subst e_r_4 e_r_7; rfl) | (subst e_r_4 e_r_7; simp [lX5_howManyAlike_6, if_neg c_6, if_neg c_9]; done))
        · refine r_iinc (pc := 33) (x4_1 + 1) [(4, .int (x4_1 + 1)), (0, .ref zs), (1, .int v), (2, .int m), (3, .int w), (5, .int (nI x5_1))] C dX5_howManyAlike_33 4 rfl rfl (by decide) rfl ?_
          refine r_iinc (pc := 36) (nI (x5_1 + 1)) [(5, .int (nI (x5_1 + 1))), (4, .int (x4_1 + 1)), (0, .ref zs), (1, .int v), (2, .int m), (3, .int w)] C dX5_howManyAlike_36 5 rfl (inc1 _) (by decide) rfl ?_
          refine r_goto (pc := 39) 6 C dX5_howManyAlike_39 (by decide) ?_
          refine u_lv [(0, .ref zs), (1, .int v), (2, .int m), (3, .int w), (4, .int (x4_1 + 1)), (5, .int (nI (x5_1 + 1)))] [2, 3, 4, 5, 1, 0] rfl ?_
          exact ih (x4_1 + 1) (x5_1 + 1) (by omega) (by rw [← hV1]; first | (simp only [lX5_howManyAlike_6, ← e_r_4, ← e_r_7, if_neg c_6, if_pos c_9]; done) | (subst e_r_4 e_r_7; simp only [lX5_howManyAlike_6, if_neg c_6, if_pos c_9]; done) | (subst e_r_4 e_r_7; rfl) | (subst e_r_4 e_r_7; simp [lX5_howManyAlike_6, if_neg c_6, if_pos c_9]; done))
  refine u_lv [(0, .ref zs), (1, .int v), (2, .int m), (3, .int w), (4, .int 0), (5, .int 1)] [2, 3, 4, 5, 1, 0] rfl ?_
  exact hL1 (10 - 1) 0 1 (by omega) rfl
theorem ctX5_howManyAlike (l : Launch) (g : Gl) (zs : Nat) (zsa : Nat) (zsb : Nat) (zsc : Nat) (fi : Nat → Int32) (bt : Nat → Int32) (su : Nat → Int32) (kn : Nat) (v : Int32) (m : Int32) (w : Int32) (q0 : kn ≤ 6) : CtI l g yX5_howManyAlike cX5_howManyAlike 6 (some .int) 3 [.ref zs, .int v, .int m, .int w] (fl [wSee g zs zsa zsb zsc fi bt su kn]) (fX5_howManyAlike fi bt su kn v m w) (fl [wSee g zs zsa zsb zsc fi bt su kn]) := mkI .int rfl rfl [(0, .ref zs), (1, .int v), (2, .int m), (3, .int w)] (by decide) (Nat.le_of_ble_eq_true rfl) rfl (fun X C hR => bX5_howManyAlike C zs zsa zsb zsc fi bt su kn v m w q0 hR)

def lX5_mostAlike_5 (fi : Nat → Int32) (bt : Nat → Int32) (su : Nat → Int32) (kn : Nat) (v : Int32) (m : Int32) : Nat → (Int32) → (Nat) → (Int32)
  | 0, x3_1, x4_1 => (x3_1)
  | n + 1, x3_1, x4_1 => (let r_4 : Int32 := fX5_canBe fi bt su kn (nI x4_1); if r_4 = 0 then (lX5_mostAlike_5 fi bt su kn v m n x3_1 (x4_1 + 1)) else (let r_7 : Int32 := fX5_spinBehind v m (nI x4_1); let r_9 : Int32 := fX5_howManyAlike fi bt su kn v m r_7; let r_11 : Int32 := if x3_1 < r_9 then r_9 else x3_1; lX5_mostAlike_5 fi bt su kn v m n r_11 (x4_1 + 1)))
def fX5_mostAlike (fi : Nat → Int32) (bt : Nat → Int32) (su : Nat → Int32) (kn : Nat) (v : Int32) (m : Int32) : (Int32) := (let x3_12 : Int32 := lX5_mostAlike_5 fi bt su kn v m (10 - 1) 0 1; x3_12)
set_option maxHeartbeats 4000000 in
set_option maxRecDepth 100000 in
theorem bX5_mostAlike {l : Launch} {g : Gl} {X : Cx} (C : Ok l g X RX5 cX5_mostAlike 5 4) (zs : Nat) (zsa : Nat) (zsb : Nat) (zsc : Nat) (fi : Nat → Int32) (bt : Nat → Int32) (su : Nat → Int32) (kn : Nat) (v : Int32) (m : Int32) (q0 : kn ≤ 6) (hR : RetI g X cX5_mostAlike 5 0 0 (fX5_mostAlike fi bt su kn v m) (fl [wSee g zs zsa zsb zsc fi bt su kn])) : Vw g X 5 0 0 (fl [wSee g zs zsa zsb zsc fi bt su kn]) 0 [(0, .ref zs), (1, .int v), (2, .int m)] [] := by
  refine r_iconst (pc := 0) 0 C dX5_mostAlike_0 rfl ?_
  refine r_istore_n (pc := 1) [(3, .int 0), (0, .ref zs), (1, .int v), (2, .int m)] C dX5_mostAlike_1 (by decide) rfl ?_
  refine r_iconst (pc := 2) 1 C dX5_mostAlike_2 rfl ?_
  refine r_istore (pc := 3) [(4, .int 1), (3, .int 0), (0, .ref zs), (1, .int v), (2, .int m)] C dX5_mostAlike_3 (by decide) rfl ?_
  have hX1 : ∀ (x3_12 : Int32) , (x3_12 = lX5_mostAlike_5 fi bt su kn v m (10 - 1) 0 1) → Vw g X 5 0 0 (fl [wSee g zs zsa zsb zsc fi bt su kn]) 45 [(3, .int x3_12)] [] := by
    intro x3_12 e_x3_12 
    refine r_iload_n (pc := 45) C dX5_mostAlike_45 0 rfl ?_
    have hf : fX5_mostAlike fi bt su kn v m = x3_12 := by first | (simp only [fX5_mostAlike, ← e_x3_12]; done) | (subst e_x3_12; rfl) | (subst e_x3_12; simp only [fX5_mostAlike]; done)
    rw [hf] at hR
    exact hR _ _ dX5_mostAlike_46
  have hL1 : ∀ (n : Nat) (x3_1 : Int32) (x4_1 : Nat) , (x4_1 + n = 10) → lX5_mostAlike_5 fi bt su kn v m n x3_1 x4_1 = lX5_mostAlike_5 fi bt su kn v m (10 - 1) 0 1 → Vw g X 5 0 0 (fl [wSee g zs zsa zsb zsc fi bt su kn]) 5 [(0, .ref zs), (1, .int v), (2, .int m), (3, .int x3_1), (4, .int (nI x4_1))] [] := by
    intro n
    induction n with
    | zero =>
      intro x3_1 x4_1 hr1 hV1
      refine r_iload (pc := 5) C dX5_mostAlike_5 4 rfl ?_
      refine r_bipush (pc := 7) 9 C dX5_mostAlike_7 rfl ?_
      refine r_icmpgtN (pc := 9) x4_1 9 45 C dX5_mostAlike_9 (by decide) rfl rfl (by omega) (by omega) (fun _ => ?_) (fun c_2 => absurd (by omega) c_2)
      refine u_lv [(3, .int x3_1)] [3] rfl ?_
      exact hX1 _ (by rw [← hV1]; first | rfl | (simp only [lX5_mostAlike_5]; done) | (simp [lX5_mostAlike_5]; done))
    | succ n ih =>
      intro x3_1 x4_1 hr1 hV1
      refine r_iload (pc := 5) C dX5_mostAlike_5 4 rfl ?_
      refine r_bipush (pc := 7) 9 C dX5_mostAlike_7 rfl ?_
      refine r_icmpgtN (pc := 9) x4_1 9 45 C dX5_mostAlike_9 (by decide) rfl rfl (by omega) (by omega) (fun c_3 => absurd c_3 (by omega)) (fun _ => ?_)
      refine r_aload_n (pc := 12) C dX5_mostAlike_12 0 rfl ?_
      refine r_iload (pc := 13) C dX5_mostAlike_13 4 rfl ?_
      obtain ⟨r_4, e_r_4⟩ : ∃ z : Int32, z = fX5_canBe fi bt su kn (nI x4_1) := ⟨_, rfl⟩
      have K_5 := ctX5_canBe l g zs zsa zsb zsc fi bt su kn (nI x4_1) (by omega)
      rw [← e_r_4] at K_5
      refine w_pI (pc := 15) C mv_X5_35 K_5 dX5_mostAlike_15 (by decide) [0] rfl (by decide) 0 rfl rfl (Nat.le_of_ble_eq_true rfl) ⟨Nat.zero_le _, Nat.zero_le _⟩ ?_
      refine r_ifeq (pc := 18) 39 C dX5_mostAlike_18 (by decide) (fun c_6 => ?_) (fun c_6 => ?_)
      · refine r_iinc (pc := 39) (nI (x4_1 + 1)) [(4, .int (nI (x4_1 + 1))), (0, .ref zs), (1, .int v), (2, .int m), (3, .int x3_1)] C dX5_mostAlike_39 4 rfl (inc1 _) (by decide) rfl ?_
        refine r_goto (pc := 42) 5 C dX5_mostAlike_42 (by decide) ?_
        refine u_lv [(0, .ref zs), (1, .int v), (2, .int m), (3, .int x3_1), (4, .int (nI (x4_1 + 1)))] [1, 2, 3, 4, 0] rfl ?_
        exact ih x3_1 (x4_1 + 1) (by omega) (by rw [← hV1]; first | (simp only [lX5_mostAlike_5, ← e_r_4, if_pos c_6]; done) | (subst e_r_4; simp only [lX5_mostAlike_5, if_pos c_6]; done) | (subst e_r_4; rfl) | (subst e_r_4; simp [lX5_mostAlike_5, if_pos c_6]; done))
      · refine r_iload_n (pc := 21) C dX5_mostAlike_21 3 rfl ?_
        refine r_aload_n (pc := 22) C dX5_mostAlike_22 0 rfl ?_
        refine r_iload_n (pc := 23) C dX5_mostAlike_23 1 rfl ?_
        refine r_iload_n (pc := 24) C dX5_mostAlike_24 2 rfl ?_
        refine r_iload_n (pc := 25) C dX5_mostAlike_25 1 rfl ?_
        refine r_iload_n (pc := 26) C dX5_mostAlike_26 2 rfl ?_
        refine r_iload (pc := 27) C dX5_mostAlike_27 4 rfl ?_
        obtain ⟨r_7, e_r_7⟩ : ∃ z : Int32, z = fX5_spinBehind v m (nI x4_1) := ⟨_, rfl⟩
        have K_8 := ctX5_spinBehind l g   v m (nI x4_1) 
        rw [← e_r_7] at K_8
        refine x_pI (pc := 29) C ms_X5_31 K_8 dX5_mostAlike_29 (by decide) [] rfl (by decide) rfl (Nat.le_of_ble_eq_true rfl) ⟨Nat.zero_le _, Nat.zero_le _⟩ ?_
        obtain ⟨r_9, e_r_9⟩ : ∃ z : Int32, z = fX5_howManyAlike fi bt su kn v m r_7 := ⟨_, rfl⟩
        have K_10 := ctX5_howManyAlike l g zs zsa zsb zsc fi bt su kn v m r_7 (by omega)
        rw [← e_r_9] at K_10
        refine w_pI (pc := 32) C mv_X5_46 K_10 dX5_mostAlike_32 (by decide) [0] rfl (by decide) 0 rfl rfl (Nat.le_of_ble_eq_true rfl) ⟨Nat.zero_le _, Nat.zero_le _⟩ ?_
        refine r_mmax (pc := 35) C dX5_mostAlike_35 ma_X5_25 mst_max miz mco_max (by decide) (Nat.le_of_ble_eq_true rfl) ⟨Nat.zero_le _, Nat.zero_le _⟩ ?_
        refine u_int (fun r_11 e_r_11 => ?_)
        refine r_istore_n (pc := 38) [(3, .int r_11), (0, .ref zs), (1, .int v), (2, .int m), (4, .int (nI x4_1))] C dX5_mostAlike_38 (by decide) rfl ?_
        refine r_iinc (pc := 39) (nI (x4_1 + 1)) [(4, .int (nI (x4_1 + 1))), (3, .int r_11), (0, .ref zs), (1, .int v), (2, .int m)] C dX5_mostAlike_39 4 rfl (inc1 _) (by decide) rfl ?_
        refine r_goto (pc := 42) 5 C dX5_mostAlike_42 (by decide) ?_
        refine u_lv [(0, .ref zs), (1, .int v), (2, .int m), (3, .int r_11), (4, .int (nI (x4_1 + 1)))] [2, 3, 4, 1, 0] rfl ?_
        exact ih r_11 (x4_1 + 1) (by omega) (by rw [← hV1]; first | (simp only [lX5_mostAlike_5, ← e_r_4, ← e_r_7, ← e_r_9, ← e_r_11, if_neg c_6]; done) | (subst e_r_4 e_r_7 e_r_9 e_r_11; simp only [lX5_mostAlike_5, if_neg c_6]; done) | (subst e_r_4 e_r_7 e_r_9 e_r_11; rfl) | (subst e_r_4 e_r_7 e_r_9 e_r_11; simp [lX5_mostAlike_5, if_neg c_6]; done))
  refine u_lv [(0, .ref zs), (1, .int v), (2, .int m), (3, .int 0), (4, .int 1)] [2, 3, 4, 1, 0] rfl ?_
  exact hL1 (10 - 1) 0 1 (by omega) rfl
theorem ctX5_mostAlike (l : Launch) (g : Gl) (zs : Nat) (zsa : Nat) (zsb : Nat) (zsc : Nat) (fi : Nat → Int32) (bt : Nat → Int32) (su : Nat → Int32) (kn : Nat) (v : Int32) (m : Int32) (q0 : kn ≤ 6) : CtI l g yX5_mostAlike cX5_mostAlike 5 (some .int) 4 [.ref zs, .int v, .int m] (fl [wSee g zs zsa zsb zsc fi bt su kn]) (fX5_mostAlike fi bt su kn v m) (fl [wSee g zs zsa zsb zsc fi bt su kn]) := mkI .int rfl rfl [(0, .ref zs), (1, .int v), (2, .int m)] (by decide) (Nat.le_of_ble_eq_true rfl) rfl (fun X C hR => bX5_mostAlike C zs zsa zsb zsc fi bt su kn v m q0 hR)

def lX5_bestWait_20 (fi : Nat → Int32) (bt : Nat → Int32) (su : Nat → Int32) (kn : Nat) (v : Int32) : Nat → (Int32) → (Int32) → (Nat) → (Int32)
  | 0, x2_4, x3_4, x4_4 => (x2_4)
  | n + 1, x2_4, x3_4, x4_4 => (let r_7 : Int32 := fX5_mostAlike fi bt su kn v (nI x4_4); if x3_4 ≤ r_7 then (lX5_bestWait_20 fi bt su kn v n x2_4 x3_4 (x4_4 + 1)) else (lX5_bestWait_20 fi bt su kn v n (nI x4_4) r_7 (x4_4 + 1)))
def fX5_bestWait (fi : Nat → Int32) (bt : Nat → Int32) (su : Nat → Int32) (kn : Nat) (v : Int32) : (Int32) := (let r_1 : Int32 := fX5_howMany fi bt su kn; if 1 < r_1 then (let x2_10 : Int32 := lX5_bestWait_20 fi bt su kn v (21 - 1) (-9) 10 1; x2_10) else ((-9)))
set_option maxHeartbeats 4000000 in
set_option maxRecDepth 100000 in
theorem bX5_bestWait {l : Launch} {g : Gl} {X : Cx} (C : Ok l g X RX5 cX5_bestWait 6 5) (zs : Nat) (zsa : Nat) (zsb : Nat) (zsc : Nat) (fi : Nat → Int32) (bt : Nat → Int32) (su : Nat → Int32) (kn : Nat) (v : Int32) (q0 : kn ≤ 6) (hR : RetI g X cX5_bestWait 6 0 0 (fX5_bestWait fi bt su kn v) (fl [wSee g zs zsa zsb zsc fi bt su kn])) : Vw g X 6 0 0 (fl [wSee g zs zsa zsb zsc fi bt su kn]) 0 [(0, .ref zs), (1, .int v)] [] := by
  refine r_aload_n (pc := 0) C dX5_bestWait_0 0 rfl ?_
  obtain ⟨r_1, e_r_1⟩ : ∃ z : Int32, z = fX5_howMany fi bt su kn := ⟨_, rfl⟩
  have K_2 := ctX5_howMany l g zs zsa zsb zsc fi bt su kn  (by omega)
  rw [← e_r_1] at K_2
  refine w_pI (pc := 1) C mv_X5_39 K_2 dX5_bestWait_1 (by decide) [0] rfl (by decide) 0 rfl rfl (Nat.le_of_ble_eq_true rfl) ⟨Nat.zero_le _, Nat.zero_le _⟩ ?_
  refine r_iconst (pc := 4) 1 C dX5_bestWait_4 rfl ?_
  refine r_icmpgt (pc := 5) 11 C dX5_bestWait_5 (by decide) (fun c_3 => ?_) (fun c_3 => ?_)
  · refine r_bipush (pc := 11) (-9) C dX5_bestWait_11 rfl ?_
    refine r_istore_n (pc := 13) [(2, .int (-9)), (0, .ref zs), (1, .int v)] C dX5_bestWait_13 (by decide) rfl ?_
    refine r_bipush (pc := 14) 10 C dX5_bestWait_14 rfl ?_
    refine r_istore_n (pc := 16) [(3, .int 10), (2, .int (-9)), (0, .ref zs), (1, .int v)] C dX5_bestWait_16 (by decide) rfl ?_
    refine r_iconst (pc := 17) 1 C dX5_bestWait_17 rfl ?_
    refine r_istore (pc := 18) [(4, .int 1), (3, .int 10), (2, .int (-9)), (0, .ref zs), (1, .int v)] C dX5_bestWait_18 (by decide) rfl ?_
    have hX4 : ∀ (x2_10 : Int32) , (x2_10 = lX5_bestWait_20 fi bt su kn v (21 - 1) (-9) 10 1) → Vw g X 6 0 0 (fl [wSee g zs zsa zsb zsc fi bt su kn]) 54 [(2, .int x2_10)] [] := by
      intro x2_10 e_x2_10 
      refine r_iload_n (pc := 54) C dX5_bestWait_54 0 rfl ?_
      have hf : fX5_bestWait fi bt su kn v = x2_10 := by first | (simp only [fX5_bestWait, ← e_r_1, ← e_x2_10, if_pos c_3]; done) | (subst e_r_1 e_x2_10; simp only [fX5_bestWait, if_pos c_3]; done) | (subst e_r_1 e_x2_10; rfl) | (subst e_r_1 e_x2_10; simp [fX5_bestWait, if_pos c_3]; done)
      rw [hf] at hR
      exact hR _ _ dX5_bestWait_55
    have hL4 : ∀ (n : Nat) (x2_4 : Int32) (x3_4 : Int32) (x4_4 : Nat) , (x4_4 + n = 21) → lX5_bestWait_20 fi bt su kn v n x2_4 x3_4 x4_4 = lX5_bestWait_20 fi bt su kn v (21 - 1) (-9) 10 1 → Vw g X 6 0 0 (fl [wSee g zs zsa zsb zsc fi bt su kn]) 20 [(0, .ref zs), (1, .int v), (2, .int x2_4), (3, .int x3_4), (4, .int (nI x4_4))] [] := by
      intro n
      induction n with
      | zero =>
        intro x2_4 x3_4 x4_4 hr4 hV4
        refine r_iload (pc := 20) C dX5_bestWait_20 4 rfl ?_
        refine r_bipush (pc := 22) 20 C dX5_bestWait_22 rfl ?_
        refine r_icmpgtN (pc := 24) x4_4 20 54 C dX5_bestWait_24 (by decide) rfl rfl (by omega) (by omega) (fun _ => ?_) (fun c_5 => absurd (by omega) c_5)
        refine u_lv [(2, .int x2_4)] [2] rfl ?_
        exact hX4 _ (by rw [← hV4]; first | rfl | (simp only [lX5_bestWait_20]; done) | (simp [lX5_bestWait_20]; done))
      | succ n ih =>
        intro x2_4 x3_4 x4_4 hr4 hV4
        refine r_iload (pc := 20) C dX5_bestWait_20 4 rfl ?_
        refine r_bipush (pc := 22) 20 C dX5_bestWait_22 rfl ?_
        refine r_icmpgtN (pc := 24) x4_4 20 54 C dX5_bestWait_24 (by decide) rfl rfl (by omega) (by omega) (fun c_6 => absurd c_6 (by omega)) (fun _ => ?_)
        refine r_aload_n (pc := 27) C dX5_bestWait_27 0 rfl ?_
        refine r_iload_n (pc := 28) C dX5_bestWait_28 1 rfl ?_
        refine r_iload (pc := 29) C dX5_bestWait_29 4 rfl ?_
        obtain ⟨r_7, e_r_7⟩ : ∃ z : Int32, z = fX5_mostAlike fi bt su kn v (nI x4_4) := ⟨_, rfl⟩
        have K_8 := ctX5_mostAlike l g zs zsa zsb zsc fi bt su kn v (nI x4_4) (by omega)
        rw [← e_r_7] at K_8
        refine w_pI (pc := 31) C mv_X5_43 K_8 dX5_bestWait_31 (by decide) [0] rfl (by decide) 0 rfl rfl (Nat.le_of_ble_eq_true rfl) ⟨Nat.zero_le _, Nat.zero_le _⟩ ?_
        refine r_istore (pc := 34) [(5, .int r_7), (0, .ref zs), (1, .int v), (2, .int x2_4), (3, .int x3_4), (4, .int (nI x4_4))] C dX5_bestWait_34 (by decide) rfl ?_
        refine r_iload (pc := 36) C dX5_bestWait_36 0 rfl ?_
        refine r_iload_n (pc := 38) C dX5_bestWait_38 4 rfl ?_
        refine r_icmpge (pc := 39) 48 C dX5_bestWait_39 (by decide) (fun c_9 => ?_) (fun c_9 => ?_)
        · refine r_iinc (pc := 48) (nI (x4_4 + 1)) [(4, .int (nI (x4_4 + 1))), (5, .int r_7), (0, .ref zs), (1, .int v), (2, .int x2_4), (3, .int x3_4)] C dX5_bestWait_48 5 rfl (inc1 _) (by decide) rfl ?_
          refine r_goto (pc := 51) 20 C dX5_bestWait_51 (by decide) ?_
          refine u_lv [(0, .ref zs), (1, .int v), (2, .int x2_4), (3, .int x3_4), (4, .int (nI (x4_4 + 1)))] [2, 3, 4, 5, 0] rfl ?_
          exact ih x2_4 x3_4 (x4_4 + 1) (by omega) (by rw [← hV4]; first | (simp only [lX5_bestWait_20, ← e_r_7, if_pos c_9]; done) | (subst e_r_7; simp only [lX5_bestWait_20, if_pos c_9]; done) | (subst e_r_7; rfl) | (subst e_r_7; simp [lX5_bestWait_20, if_pos c_9]; done))
        · refine r_iload (pc := 42) C dX5_bestWait_42 0 rfl ?_
          refine r_istore_n (pc := 44) [(3, .int r_7), (5, .int r_7), (0, .ref zs), (1, .int v), (2, .int x2_4), (4, .int (nI x4_4))] C dX5_bestWait_44 (by decide) rfl ?_
          refine r_iload (pc := 45) C dX5_bestWait_45 5 rfl ?_
          refine r_istore_n (pc := 47) [(2, .int (nI x4_4)), (3, .int r_7), (5, .int r_7), (0, .ref zs), (1, .int v), (4, .int (nI x4_4))] C dX5_bestWait_47 (by decide) rfl ?_
          refine r_iinc (pc := 48) (nI (x4_4 + 1)) [(4, .int (nI (x4_4 + 1))), (2, .int (nI x4_4)), (3, .int r_7), (5, .int r_7), (0, .ref zs), (1, .int v)] C dX5_bestWait_48 5 rfl (inc1 _) (by decide) rfl ?_
          refine r_goto (pc := 51) 20 C dX5_bestWait_51 (by decide) ?_
          refine u_lv [(0, .ref zs), (1, .int v), (2, .int (nI x4_4)), (3, .int r_7), (4, .int (nI (x4_4 + 1)))] [4, 5, 1, 2, 0] rfl ?_
          exact ih (nI x4_4) r_7 (x4_4 + 1) (by omega) (by rw [← hV4]; first | (simp only [lX5_bestWait_20, ← e_r_7, if_neg c_9]; done) | (subst e_r_7; simp only [lX5_bestWait_20, if_neg c_9]; done) | (subst e_r_7; rfl) | (subst e_r_7; simp [lX5_bestWait_20, if_neg c_9]; done))
    refine u_lv [(0, .ref zs), (1, .int v), (2, .int (-9)), (3, .int 10), (4, .int 1)] [3, 4, 2, 1, 0] rfl ?_
    exact hL4 (21 - 1) (-9) 10 1 (by omega) rfl
  · refine r_bipush (pc := 8) (-9) C dX5_bestWait_8 rfl ?_
    have hf : fX5_bestWait fi bt su kn v = (-9) := by first | (simp only [fX5_bestWait, ← e_r_1, if_neg c_3]; done) | (subst e_r_1; simp only [fX5_bestWait, if_neg c_3]; done) | (subst e_r_1; rfl) | (subst e_r_1; simp [fX5_bestWait, if_neg c_3]; done)
    rw [hf] at hR
    exact hR _ _ dX5_bestWait_10
theorem ctX5_bestWait (l : Launch) (g : Gl) (zs : Nat) (zsa : Nat) (zsb : Nat) (zsc : Nat) (fi : Nat → Int32) (bt : Nat → Int32) (su : Nat → Int32) (kn : Nat) (v : Int32) (q0 : kn ≤ 6) : CtI l g yX5_bestWait cX5_bestWait 6 (some .int) 5 [.ref zs, .int v] (fl [wSee g zs zsa zsb zsc fi bt su kn]) (fX5_bestWait fi bt su kn v) (fl [wSee g zs zsa zsb zsc fi bt su kn]) := mkI .int rfl rfl [(0, .ref zs), (1, .int v)] (by decide) (Nat.le_of_ble_eq_true rfl) rfl (fun X C hR => bX5_bestWait C zs zsa zsb zsc fi bt su kn v q0 hR)
