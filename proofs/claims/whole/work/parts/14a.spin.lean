def fX8_isTop (tp : Nat) (t : Int32) : (Int32) := (let r_1 : Int32 := fX8_within t 0 ((nI tp) - 1); r_1)
set_option maxHeartbeats 4000000 in
set_option maxRecDepth 100000 in
theorem bX8_isTop {l : Launch} {g : Gl} {X : Cx} (C : Ok l g X RX8 cX8_isTop 2 1) (zo : Nat) (zx : Nat) (zr : Nat) (ztb : Nat) (zna : Nat) (zps : Nat) (zim : Nat) (zkp : Nat) (zf : Nat) (zs : Nat) (zk : Nat) (ztd : Nat) (dr : Nat → Int32) (pz : Int32) (sl : Int32) (tp : Nat) (t : Int32) (hR : RetI g X cX8_isTop 2 0 0 (fX8_isTop tp t) (fl [wSpn zo zx zr ztb zna zps zim zkp zf zs zk, wTol g ztb ztd dr pz sl tp])) : Vw g X 2 0 0 (fl [wSpn zo zx zr ztb zna zps zim zkp zf zs zk, wTol g ztb ztd dr pz sl tp]) 0 [(0, .ref zo), (1, .int t)] [] := by
  refine r_iload_n (pc := 0) C dX8_isTop_0 1 rfl ?_
  refine r_iconst (pc := 1) 0 C dX8_isTop_1 rfl ?_
  refine r_aload_n (pc := 2) C dX8_isTop_2 0 rfl ?_
  refine r_get (pc := 3) C fl_X8_28 dX8_isTop_3 0 rfl rfl ?_
  refine r_get (pc := 6) C fl_X8_245 dX8_isTop_6 1 rfl rfl ?_
  refine r_iconst (pc := 9) 1 C dX8_isTop_9 rfl ?_
  refine r_isub (pc := 10) C dX8_isTop_10 ?_
  obtain ⟨r_1, e_r_1⟩ : ∃ z : Int32, z = fX8_within t 0 ((nI tp) - 1) := ⟨_, rfl⟩
  have K_2 := ctX8_within l g   t 0 ((nI tp) - 1) 
  rw [← e_r_1] at K_2
  refine x_pI (pc := 11) C ms_X8_75 K_2 dX8_isTop_11 (by decide) [] rfl (by decide) rfl (Nat.le_of_ble_eq_true rfl) ⟨Nat.zero_le _, Nat.zero_le _⟩ ?_
  have hf : fX8_isTop tp t = r_1 := by first | (simp only [fX8_isTop, ← e_r_1]; done) | (subst e_r_1; rfl) | (subst e_r_1; simp only [fX8_isTop]; done)
  rw [hf] at hR
  exact hR _ _ dX8_isTop_14
theorem zX8_isTop (tp : Nat) (t : Int32) : fX8_isTop tp t = 0 ∨ fX8_isTop tp t = 1 := by unfold fX8_isTop; exact zX8_within _ _ _
theorem ctX8_isTop (l : Launch) (g : Gl) (zo : Nat) (zx : Nat) (zr : Nat) (ztb : Nat) (zna : Nat) (zps : Nat) (zim : Nat) (zkp : Nat) (zf : Nat) (zs : Nat) (zk : Nat) (ztd : Nat) (dr : Nat → Int32) (pz : Int32) (sl : Int32) (tp : Nat) (t : Int32) : CtI l g yX8_isTop cX8_isTop 2 (some .boolean) 1 [.ref zo, .int t] (fl [wSpn zo zx zr ztb zna zps zim zkp zf zs zk, wTol g ztb ztd dr pz sl tp]) (fX8_isTop tp t) (fl [wSpn zo zx zr ztb zna zps zim zkp zf zs zk, wTol g ztb ztd dr pz sl tp]) := mkI .boolean rfl (nar_b (zX8_isTop tp t)) [(0, .ref zo), (1, .int t)] (by decide) (Nat.le_of_ble_eq_true rfl) rfl (fun X C hR => bX8_isTop C zo zx zr ztb zna zps zim zkp zf zs zk ztd dr pz sl tp t hR)
theorem within_ne {x a b : Int32} (h : ¬ fX8_within x a b = 0) : ¬ x < a ∧ ¬ b < x := by
  unfold fX8_within at h
  split at h
  · exact absurd rfl h
  · split at h
    · exact absurd rfl h
    · exact ⟨by assumption, by assumption⟩
theorem nat_of {x b : Int32} {B : Nat} (h0 : ¬ x < 0) (hb : ¬ b < x) (hB : b.toInt < B) : ∃ j, j < B ∧ x = nI j := by
  obtain ⟨j, hj, rfl⟩ := nI_of h0
  refine ⟨j, ?_, rfl⟩
  rw [Int32.lt_iff_toInt_lt, nI_toInt hj] at hb
  omega
theorem wi_nat {x b : Int32} {B : Nat} (hB : b.toInt < B) (h : ¬ fX8_within x 0 b = 0) : ∃ j, j < B ∧ x = nI j := nat_of (within_ne h).1 (within_ne h).2 hB
theorem row_k {x : Int32} (h0 : 0 ≤ x) (h : ¬ fX8_within x (-1) 4 = 0) : ∃ j, j < 5 ∧ x = nI j := nat_of (fun q => by rw [Int32.lt_iff_toInt_lt] at q; rw [Int32.le_iff_toInt_le] at h0; omega) (within_ne h).2 (by decide)
theorem ahead_nat {x : Int32} (h : ¬ fX8_isAhead x = 0) : ∃ j, j < 61 ∧ x = nI j := wi_nat (by decide) h
theorem image_nat {x : Int32} (h : ¬ fX8_isImage x = 0) : ∃ j, j < 2 ∧ x = nI j := wi_nat (by decide) h
theorem isTop_nat {tp : Nat} {x : Int32} (h : ¬ fX8_isTop tp x = 0) (h6 : tp ≤ 6 := by omega) : ∃ j, j < tp ∧ x = nI j := by
  unfold fX8_isTop at h
  refine wi_nat ?_ h
  rw [show (1 : Int32) = nI 1 from rfl, pk_sub_toInt (by omega) (by omega)]
  omega

def fX8_isPlace (pz : Int32) (w : Int32) : (Int32) := (let r_1 : Int32 := fX8_within w 0 (pz - 1); r_1)
set_option maxHeartbeats 4000000 in
set_option maxRecDepth 100000 in
theorem bX8_isPlace {l : Launch} {g : Gl} {X : Cx} (C : Ok l g X RX8 cX8_isPlace 2 1) (zo : Nat) (zx : Nat) (zr : Nat) (ztb : Nat) (zna : Nat) (zps : Nat) (zim : Nat) (zkp : Nat) (zf : Nat) (zs : Nat) (zk : Nat) (ztd : Nat) (dr : Nat → Int32) (pz : Int32) (sl : Int32) (tp : Nat) (w : Int32) (hR : RetI g X cX8_isPlace 2 0 0 (fX8_isPlace pz w) (fl [wSpn zo zx zr ztb zna zps zim zkp zf zs zk, wTol g ztb ztd dr pz sl tp])) : Vw g X 2 0 0 (fl [wSpn zo zx zr ztb zna zps zim zkp zf zs zk, wTol g ztb ztd dr pz sl tp]) 0 [(0, .ref zo), (1, .int w)] [] := by
  refine r_iload_n (pc := 0) C dX8_isPlace_0 1 rfl ?_
  refine r_iconst (pc := 1) 0 C dX8_isPlace_1 rfl ?_
  refine r_aload_n (pc := 2) C dX8_isPlace_2 0 rfl ?_
  refine r_get (pc := 3) C fl_X8_28 dX8_isPlace_3 0 rfl rfl ?_
  refine r_get (pc := 6) C fl_X8_242 dX8_isPlace_6 1 rfl rfl ?_
  refine r_iconst (pc := 9) 1 C dX8_isPlace_9 rfl ?_
  refine r_isub (pc := 10) C dX8_isPlace_10 ?_
  obtain ⟨r_1, e_r_1⟩ : ∃ z : Int32, z = fX8_within w 0 (pz - 1) := ⟨_, rfl⟩
  have K_2 := ctX8_within l g   w 0 (pz - 1) 
  rw [← e_r_1] at K_2
  refine x_pI (pc := 11) C ms_X8_75 K_2 dX8_isPlace_11 (by decide) [] rfl (by decide) rfl (Nat.le_of_ble_eq_true rfl) ⟨Nat.zero_le _, Nat.zero_le _⟩ ?_
  have hf : fX8_isPlace pz w = r_1 := by first | (simp only [fX8_isPlace, ← e_r_1]; done) | (subst e_r_1; rfl) | (subst e_r_1; simp only [fX8_isPlace]; done)
  rw [hf] at hR
  exact hR _ _ dX8_isPlace_14
theorem zX8_isPlace (pz : Int32) (w : Int32) : fX8_isPlace pz w = 0 ∨ fX8_isPlace pz w = 1 := by unfold fX8_isPlace; exact zX8_within _ _ _
theorem ctX8_isPlace (l : Launch) (g : Gl) (zo : Nat) (zx : Nat) (zr : Nat) (ztb : Nat) (zna : Nat) (zps : Nat) (zim : Nat) (zkp : Nat) (zf : Nat) (zs : Nat) (zk : Nat) (ztd : Nat) (dr : Nat → Int32) (pz : Int32) (sl : Int32) (tp : Nat) (w : Int32) : CtI l g yX8_isPlace cX8_isPlace 2 (some .boolean) 1 [.ref zo, .int w] (fl [wSpn zo zx zr ztb zna zps zim zkp zf zs zk, wTol g ztb ztd dr pz sl tp]) (fX8_isPlace pz w) (fl [wSpn zo zx zr ztb zna zps zim zkp zf zs zk, wTol g ztb ztd dr pz sl tp]) := mkI .boolean rfl (nar_b (zX8_isPlace pz w)) [(0, .ref zo), (1, .int w)] (by decide) (Nat.le_of_ble_eq_true rfl) rfl (fun X C hR => bX8_isPlace C zo zx zr ztb zna zps zim zkp zf zs zk ztd dr pz sl tp w hR)

def fX8_type (le : Nat → Int32) (ln : Nat) (c : Int32) : (Int32) × (Nat → Int32) × (Nat) := (let r_1 : Int32 := fX8_within c 0 255; if r_1 = 0 then (((-1), le, ln)) else (let r_4 : Int32 := (fX6_add le ln c).1; let le_5 : Nat → Int32 := (fX6_add le ln c).2.1; let ln_6 : Nat := (fX6_add le ln c).2.2; if r_4 = 0 then (((-3), le_5, ln_6)) else (((nI ln_6), le_5, ln_6))))
set_option maxHeartbeats 4000000 in
set_option maxRecDepth 100000 in
theorem bX8_type {l : Launch} {g : Gl} {X : Cx} (C : Ok l g X RX8 cX8_type 2 1) (zo : Nat) (zx : Nat) (zr : Nat) (ztb : Nat) (zna : Nat) (zps : Nat) (zim : Nat) (zkp : Nat) (zf : Nat) (zs : Nat) (zk : Nat) (zxa : Nat) (le : Nat → Int32) (ln : Nat) (c : Int32) (q0 : ln ≤ 120) (hR : RetI g X cX8_type 2 0 0 ((fX8_type le ln c).1) (fl [wSpn zo zx zr ztb zna zps zim zkp zf zs zk, wTex g zx zxa ((fX8_type le ln c).2.1) ((fX8_type le ln c).2.2)])) : Vw g X 2 0 0 (fl [wSpn zo zx zr ztb zna zps zim zkp zf zs zk, wTex g zx zxa le ln]) 0 [(0, .ref zo), (1, .int c)] [] := by
  refine r_iload_n (pc := 0) C dX8_type_0 1 rfl ?_
  refine r_iconst (pc := 1) 0 C dX8_type_1 rfl ?_
  refine r_sipush (pc := 2) 255 C dX8_type_2 rfl ?_
  obtain ⟨r_1, e_r_1⟩ : ∃ z : Int32, z = fX8_within c 0 255 := ⟨_, rfl⟩
  have K_2 := ctX8_within l g   c 0 255 
  rw [← e_r_1] at K_2
  refine x_pI (pc := 5) C ms_X8_75 K_2 dX8_type_5 (by decide) [] rfl (by decide) rfl (Nat.le_of_ble_eq_true rfl) ⟨Nat.zero_le _, Nat.zero_le _⟩ ?_
  refine r_ifne (pc := 8) 13 C dX8_type_8 (by decide) (fun c_3 => ?_) (fun c_3 => ?_)
  · refine r_aload_n (pc := 13) C dX8_type_13 0 rfl ?_
    refine r_get (pc := 14) C fl_X8_10 dX8_type_14 0 rfl rfl ?_
    refine r_iload_n (pc := 17) C dX8_type_17 1 rfl ?_
    obtain ⟨r_4, e_r_4⟩ : ∃ z : Int32, z = (fX6_add le ln c).1 := ⟨_, rfl⟩
    obtain ⟨le_5, e_le_5⟩ : ∃ z : Nat → Int32, z = (fX6_add le ln c).2.1 := ⟨_, rfl⟩
    obtain ⟨ln_6, e_ln_6⟩ : ∃ z : Nat, z = (fX6_add le ln c).2.2 := ⟨_, rfl⟩
    have K_7 := ctX6_add l g zx zxa le ln c (by omega)
    rw [← e_r_4, ← e_le_5, ← e_ln_6] at K_7
    refine w_cI (pc := 18) [wSpn zo zx zr ztb zna zps zim zkp zf zs zk, wTex g zx zxa le_5 ln_6] C mv_X8_79 K_7 dX8_type_18 (by decide) [1] rfl (by decide) (by simp only [List.map_cons, List.map_nil, adTex]) rfl 1 rfl rfl (Nat.le_of_ble_eq_true rfl) ⟨Nat.zero_le _, Nat.zero_le _⟩ ?_
    refine r_ifeq (pc := 21) 34 C dX8_type_21 (by decide) (fun c_8 => ?_) (fun c_8 => ?_)
    · refine r_bipush (pc := 34) (-3) C dX8_type_34 rfl ?_
      have hf : fX8_type le ln c = ((-3), le_5, ln_6) := by first | (simp only [fX8_type, ← e_r_1, ← e_r_4, ← e_le_5, ← e_ln_6, if_neg c_3, if_pos c_8]; done) | (subst e_r_1 e_r_4 e_le_5 e_ln_6; simp only [fX8_type, if_neg c_3, if_pos c_8]; done) | (subst e_r_1 e_r_4 e_le_5 e_ln_6; rfl) | (subst e_r_1 e_r_4 e_le_5 e_ln_6; simp [fX8_type, if_neg c_3, if_pos c_8]; done)
      rw [hf] at hR
      exact hR _ _ dX8_type_36
    · refine r_aload_n (pc := 24) C dX8_type_24 0 rfl ?_
      refine r_get (pc := 25) C fl_X8_10 dX8_type_25 0 rfl rfl ?_
      refine r_get (pc := 28) C fl_X8_83 dX8_type_28 1 rfl rfl ?_
      refine r_goto (pc := 31) 36 C dX8_type_31 (by decide) ?_
      have hf : fX8_type le ln c = ((nI ln_6), le_5, ln_6) := by first | (simp only [fX8_type, ← e_r_1, ← e_r_4, ← e_le_5, ← e_ln_6, if_neg c_3, if_neg c_8]; done) | (subst e_r_1 e_r_4 e_le_5 e_ln_6; simp only [fX8_type, if_neg c_3, if_neg c_8]; done) | (subst e_r_1 e_r_4 e_le_5 e_ln_6; rfl) | (subst e_r_1 e_r_4 e_le_5 e_ln_6; simp [fX8_type, if_neg c_3, if_neg c_8]; done)
      rw [hf] at hR
      exact hR _ _ dX8_type_36
  · refine r_iconst (pc := 11) (-1) C dX8_type_11 rfl ?_
    have hf : fX8_type le ln c = ((-1), le, ln) := by first | (simp only [fX8_type, ← e_r_1, if_pos c_3]; done) | (subst e_r_1; simp only [fX8_type, if_pos c_3]; done) | (subst e_r_1; rfl) | (subst e_r_1; simp [fX8_type, if_pos c_3]; done)
    rw [hf] at hR
    exact hR _ _ dX8_type_12
theorem ctX8_type (l : Launch) (g : Gl) (zo : Nat) (zx : Nat) (zr : Nat) (ztb : Nat) (zna : Nat) (zps : Nat) (zim : Nat) (zkp : Nat) (zf : Nat) (zs : Nat) (zk : Nat) (zxa : Nat) (le : Nat → Int32) (ln : Nat) (c : Int32) (q0 : ln ≤ 120) : CtI l g yX8_type cX8_type 2 (some .int) 1 [.ref zo, .int c] (fl [wSpn zo zx zr ztb zna zps zim zkp zf zs zk, wTex g zx zxa le ln]) ((fX8_type le ln c).1) (fl [wSpn zo zx zr ztb zna zps zim zkp zf zs zk, wTex g zx zxa ((fX8_type le ln c).2.1) ((fX8_type le ln c).2.2)]) := mkI .int rfl rfl [(0, .ref zo), (1, .int c)] (by decide) (Nat.le_of_ble_eq_true rfl) rfl (fun X C hR => bX8_type C zo zx zr ztb zna zps zim zkp zf zs zk zxa le ln c q0 hR)

def fX8_clear (ln : Nat) : (Int32) × (Nat) := (((nI ln), 0))
set_option maxHeartbeats 4000000 in
set_option maxRecDepth 100000 in
theorem bX8_clear {l : Launch} {g : Gl} {X : Cx} (C : Ok l g X RX8 cX8_clear 2 0) (zo : Nat) (zx : Nat) (zr : Nat) (ztb : Nat) (zna : Nat) (zps : Nat) (zim : Nat) (zkp : Nat) (zf : Nat) (zs : Nat) (zk : Nat) (zxa : Nat) (le : Nat → Int32) (ln : Nat) (hR : RetI g X cX8_clear 2 0 0 ((fX8_clear ln).1) (fl [wSpn zo zx zr ztb zna zps zim zkp zf zs zk, wTex g zx zxa le ((fX8_clear ln).2)])) : Vw g X 2 0 0 (fl [wSpn zo zx zr ztb zna zps zim zkp zf zs zk, wTex g zx zxa le ln]) 0 [(0, .ref zo)] [] := by
  refine r_aload_n (pc := 0) C dX8_clear_0 0 rfl ?_
  refine r_get (pc := 1) C fl_X8_10 dX8_clear_1 0 rfl rfl ?_
  refine r_get (pc := 4) C fl_X8_83 dX8_clear_4 1 rfl rfl ?_
  refine r_istore_n (pc := 7) [(1, .int (nI ln)), (0, .ref zo)] C dX8_clear_7 (by decide) rfl ?_
  refine r_aload_n (pc := 8) C dX8_clear_8 1 rfl ?_
  refine r_get (pc := 9) C fl_X8_10 dX8_clear_9 0 rfl rfl ?_
  refine r_iconst (pc := 12) 0 C dX8_clear_12 rfl ?_
  refine r_put (pc := 13) (fl [wSpn zo zx zr ztb zna zps zim zkp zf zs zk, wTex g zx zxa le 0]) C fp_X8_83 dX8_clear_13 1 rfl (Nat.le_of_ble_eq_true rfl) rfl rfl rfl ?_
  refine r_iload_n (pc := 16) C dX8_clear_16 0 rfl ?_
  have hf : fX8_clear ln = ((nI ln), 0) := by first | rfl | (simp only [fX8_clear]; done) | (simp [fX8_clear]; done)
  rw [hf] at hR
  exact hR _ _ dX8_clear_17
theorem ctX8_clear (l : Launch) (g : Gl) (zo : Nat) (zx : Nat) (zr : Nat) (ztb : Nat) (zna : Nat) (zps : Nat) (zim : Nat) (zkp : Nat) (zf : Nat) (zs : Nat) (zk : Nat) (zxa : Nat) (le : Nat → Int32) (ln : Nat) : CtI l g yX8_clear cX8_clear 2 (some .int) 0 [.ref zo] (fl [wSpn zo zx zr ztb zna zps zim zkp zf zs zk, wTex g zx zxa le ln]) ((fX8_clear ln).1) (fl [wSpn zo zx zr ztb zna zps zim zkp zf zs zk, wTex g zx zxa le ((fX8_clear ln).2)]) := mkI .int rfl rfl [(0, .ref zo)] (by decide) (Nat.le_of_ble_eq_true rfl) rfl (fun X C hR => bX8_clear C zo zx zr ztb zna zps zim zkp zf zs zk zxa le ln hR)

def fX8_top (dr : Nat → Int32) (pz : Int32) (sl : Int32) (tp : Nat) (pl : Nat → Int32) (sp : Nat → Int32) (be : Int32) (ti : Int32) (pl3 : Nat → Int32) (sp3 : Nat → Int32) (be3 : Int32) (ti3 : Int32) (t : Int32) (w : Int32) : (Int32) × (Nat → Int32) × (Nat → Int32) × (Int32) × (Int32) := (let r_1 : Int32 := fX8_isTop tp t; if r_1 = 0 then (((-1), pl3, sp3, be3, ti3)) else (if w = 0 then (((pl t.toNatClampNeg), pl3, sp3, be3, ti3)) else (if w = 1 then (((sp t.toNatClampNeg), pl3, sp3, be3, ti3)) else (if w = 2 then (((dr t.toNatClampNeg), pl3, sp3, be3, ti3)) else (if w = 3 then (let r_10 : Int32 := fX2_stands sp t.toNatClampNeg; if r_10 = 0 then ((0, pl3, sp3, be3, ti3)) else ((1, pl3, sp3, be3, ti3))) else (if w = 4 then (let r_13 : Int32 := (fX0_fall pl3 sp3 dr pz sl pl sp be ti t.toNatClampNeg).1; let pl_14 : Nat → Int32 := (fX0_fall pl3 sp3 dr pz sl pl sp be ti t.toNatClampNeg).2.1; let sp_15 : Nat → Int32 := (fX0_fall pl3 sp3 dr pz sl pl sp be ti t.toNatClampNeg).2.2.1; let be_16 : Int32 := (fX0_fall pl3 sp3 dr pz sl pl sp be ti t.toNatClampNeg).2.2.2.1; let ti_17 : Int32 := (fX0_fall pl3 sp3 dr pz sl pl sp be ti t.toNatClampNeg).2.2.2.2; (r_13, pl_14, sp_15, be_16, ti_17)) else (((-1), pl3, sp3, be3, ti3))))))))
set_option maxHeartbeats 4000000 in
set_option maxRecDepth 100000 in
theorem bX8_top {l : Launch} {g : Gl} {X : Cx} (C : Ok l g X RX8 cX8_top 3 5) (zo : Nat) (zx : Nat) (zr : Nat) (ztb : Nat) (zna : Nat) (zps : Nat) (zim : Nat) (zkp : Nat) (zf : Nat) (zs : Nat) (zk : Nat) (ztd : Nat) (znp : Nat) (znq : Nat) (za3 : Nat) (zp3 : Nat) (zq3 : Nat) (dr : Nat → Int32) (pz : Int32) (sl : Int32) (tp : Nat) (pl : Nat → Int32) (sp : Nat → Int32) (be : Int32) (ti : Int32) (rs : Int32) (rb : Nat) (ou : Int32) (ol : Int32) (pl3 : Nat → Int32) (sp3 : Nat → Int32) (be3 : Int32) (ti3 : Int32) (t : Int32) (w : Int32) (q0 : tp ≤ 6) (hR : RetI g X cX8_top 3 0 0 ((fX8_top dr pz sl tp pl sp be ti pl3 sp3 be3 ti3 t w).1) (fl [wSpn zo zx zr ztb zna zps zim zkp zf zs zk, wTol g ztb ztd dr pz sl tp, wMom g zna znp znq pl sp be ti, wFut zf za3 rs rb ou ol, wMom g za3 zp3 zq3 ((fX8_top dr pz sl tp pl sp be ti pl3 sp3 be3 ti3 t w).2.1) ((fX8_top dr pz sl tp pl sp be ti pl3 sp3 be3 ti3 t w).2.2.1) ((fX8_top dr pz sl tp pl sp be ti pl3 sp3 be3 ti3 t w).2.2.2.1) ((fX8_top dr pz sl tp pl sp be ti pl3 sp3 be3 ti3 t w).2.2.2.2)])) : Vw g X 3 0 0 (fl [wSpn zo zx zr ztb zna zps zim zkp zf zs zk, wTol g ztb ztd dr pz sl tp, wMom g zna znp znq pl sp be ti, wFut zf za3 rs rb ou ol, wMom g za3 zp3 zq3 pl3 sp3 be3 ti3]) 0 [(0, .ref zo), (1, .int t), (2, .int w)] [] := by
  refine r_aload_n (pc := 0) C dX8_top_0 0 rfl ?_
  refine r_iload_n (pc := 1) C dX8_top_1 1 rfl ?_
  obtain ⟨r_1, e_r_1⟩ : ∃ z : Int32, z = fX8_isTop tp t := ⟨_, rfl⟩
  have K_2 := ctX8_isTop l g zo zx zr ztb zna zps zim zkp zf zs zk ztd dr pz sl tp t 
  rw [← e_r_1] at K_2
  refine w_pI (pc := 2) C mv_X8_108 K_2 dX8_top_2 (by decide) [0, 1] rfl (by decide) 0 rfl rfl (Nat.le_of_ble_eq_true rfl) ⟨Nat.zero_le _, Nat.zero_le _⟩ ?_
  refine r_ifne (pc := 5) 10 C dX8_top_5 (by decide) (fun c_3 => ?_) (fun c_3 => ?_)
  · obtain ⟨h_4, qh_4⟩ := natc (x := t) (B := tp) (by omega) (isTop_nat (by rw [← e_r_1]; assumption))
    refine u_lvq [(0, .ref zo), (1, .int (nI t.toNatClampNeg)), (2, .int w)] (by rw [qh_4]) ?_
    refine r_iload_n (pc := 10) C dX8_top_10 2 rfl ?_
    by_cases c_5 : w = 0
    · refine r_tabIn (pc := 11) 0 33 44 C dX8_top_11 c_5 (by decide) (by decide) (by decide) (by decide) ?_
      refine r_aload_n (pc := 44) C dX8_top_44 0 rfl ?_
      refine r_get (pc := 45) C fl_X8_35 dX8_top_45 0 rfl rfl ?_
      refine r_get (pc := 48) C fl_X8_111 dX8_top_48 3 rfl rfl ?_
      refine r_iload_n (pc := 51) C dX8_top_51 1 rfl ?_
      refine r_iald (pc := 52) t.toNatClampNeg C dX8_top_52 4 rfl rfl (by omega) (by decide) ?_
      have hf : fX8_top dr pz sl tp pl sp be ti pl3 sp3 be3 ti3 t w = ((pl t.toNatClampNeg), pl3, sp3, be3, ti3) := by first | (simp only [fX8_top, ← e_r_1, if_neg c_3, if_pos c_5]; done) | (subst e_r_1; simp only [fX8_top, if_neg c_3, if_pos c_5]; done) | (subst e_r_1; rfl) | (subst e_r_1; simp [fX8_top, if_neg c_3, if_pos c_5]; done)
      rw [hf] at hR
      exact hR _ _ dX8_top_53
    by_cases c_6 : w = 1
    · refine r_tabIn (pc := 11) 1 43 54 C dX8_top_11 c_6 (by decide) (by decide) (by decide) (by decide) ?_
      refine r_aload_n (pc := 54) C dX8_top_54 0 rfl ?_
      refine r_get (pc := 55) C fl_X8_35 dX8_top_55 0 rfl rfl ?_
      refine r_get (pc := 58) C fl_X8_115 dX8_top_58 3 rfl rfl ?_
      refine r_iload_n (pc := 61) C dX8_top_61 1 rfl ?_
      refine r_iald (pc := 62) t.toNatClampNeg C dX8_top_62 5 rfl rfl (by omega) (by decide) ?_
      have hf : fX8_top dr pz sl tp pl sp be ti pl3 sp3 be3 ti3 t w = ((sp t.toNatClampNeg), pl3, sp3, be3, ti3) := by first | (simp only [fX8_top, ← e_r_1, if_neg c_3, if_neg c_5, if_pos c_6]; done) | (subst e_r_1; simp only [fX8_top, if_neg c_3, if_neg c_5, if_pos c_6]; done) | (subst e_r_1; rfl) | (subst e_r_1; simp [fX8_top, if_neg c_3, if_neg c_5, if_pos c_6]; done)
      rw [hf] at hR
      exact hR _ _ dX8_top_63
    by_cases c_7 : w = 2
    · refine r_tabIn (pc := 11) 2 53 64 C dX8_top_11 c_7 (by decide) (by decide) (by decide) (by decide) ?_
      refine r_aload_n (pc := 64) C dX8_top_64 0 rfl ?_
      refine r_get (pc := 65) C fl_X8_28 dX8_top_65 0 rfl rfl ?_
      refine r_get (pc := 68) C fl_X8_118 dX8_top_68 1 rfl rfl ?_
      refine r_iload_n (pc := 71) C dX8_top_71 1 rfl ?_
      refine r_iald (pc := 72) t.toNatClampNeg C dX8_top_72 2 rfl rfl (by omega) (by decide) ?_
      have hf : fX8_top dr pz sl tp pl sp be ti pl3 sp3 be3 ti3 t w = ((dr t.toNatClampNeg), pl3, sp3, be3, ti3) := by first | (simp only [fX8_top, ← e_r_1, if_neg c_3, if_neg c_5, if_neg c_6, if_pos c_7]; done) | (subst e_r_1; simp only [fX8_top, if_neg c_3, if_neg c_5, if_neg c_6, if_pos c_7]; done) | (subst e_r_1; rfl) | (subst e_r_1; simp [fX8_top, if_neg c_3, if_neg c_5, if_neg c_6, if_pos c_7]; done)
      rw [hf] at hR
      exact hR _ _ dX8_top_73
    by_cases c_8 : w = 3
    · refine r_tabIn (pc := 11) 3 63 74 C dX8_top_11 c_8 (by decide) (by decide) (by decide) (by decide) ?_
      refine r_aload_n (pc := 74) C dX8_top_74 0 rfl ?_
      refine r_get (pc := 75) C fl_X8_35 dX8_top_75 0 rfl rfl ?_
      refine r_iload_n (pc := 78) C dX8_top_78 1 rfl ?_
      obtain ⟨r_10, e_r_10⟩ : ∃ z : Int32, z = fX2_stands sp t.toNatClampNeg := ⟨_, rfl⟩
      have K_11 := ctX2_stands l g zna znp znq pl sp be ti t.toNatClampNeg (by omega)
      rw [← e_r_10] at K_11
      refine w_pI (pc := 79) C mv_X8_121 K_11 dX8_top_79 (by decide) [2] rfl (by decide) 3 rfl rfl (Nat.le_of_ble_eq_true rfl) ⟨Nat.zero_le _, Nat.zero_le _⟩ ?_
      refine r_ifeq (pc := 82) 89 C dX8_top_82 (by decide) (fun c_12 => ?_) (fun c_12 => ?_)
      · refine r_iconst (pc := 89) 0 C dX8_top_89 rfl ?_
        have hf : fX8_top dr pz sl tp pl sp be ti pl3 sp3 be3 ti3 t w = (0, pl3, sp3, be3, ti3) := by first | (simp only [fX8_top, ← e_r_1, ← e_r_10, if_neg c_3, if_neg c_5, if_neg c_6, if_neg c_7, if_pos c_8, if_pos c_12]; done) | (subst e_r_1 e_r_10; simp only [fX8_top, if_neg c_3, if_neg c_5, if_neg c_6, if_neg c_7, if_pos c_8, if_pos c_12]; done) | (subst e_r_1 e_r_10; rfl) | (subst e_r_1 e_r_10; simp [fX8_top, if_neg c_3, if_neg c_5, if_neg c_6, if_neg c_7, if_pos c_8, if_pos c_12]; done)
        rw [hf] at hR
        exact hR _ _ dX8_top_90
      · refine r_iconst (pc := 85) 1 C dX8_top_85 rfl ?_
        refine r_goto (pc := 86) 90 C dX8_top_86 (by decide) ?_
        have hf : fX8_top dr pz sl tp pl sp be ti pl3 sp3 be3 ti3 t w = (1, pl3, sp3, be3, ti3) := by first | (simp only [fX8_top, ← e_r_1, ← e_r_10, if_neg c_3, if_neg c_5, if_neg c_6, if_neg c_7, if_pos c_8, if_neg c_12]; done) | (subst e_r_1 e_r_10; simp only [fX8_top, if_neg c_3, if_neg c_5, if_neg c_6, if_neg c_7, if_pos c_8, if_neg c_12]; done) | (subst e_r_1 e_r_10; rfl) | (subst e_r_1 e_r_10; simp [fX8_top, if_neg c_3, if_neg c_5, if_neg c_6, if_neg c_7, if_pos c_8, if_neg c_12]; done)
        rw [hf] at hR
        exact hR _ _ dX8_top_90
    by_cases c_9 : w = 4
    · refine r_tabIn (pc := 11) 4 80 91 C dX8_top_11 c_9 (by decide) (by decide) (by decide) (by decide) ?_
      refine r_aload_n (pc := 91) C dX8_top_91 0 rfl ?_
      refine r_get (pc := 92) C fl_X8_57 dX8_top_92 0 rfl rfl ?_
      refine r_aload_n (pc := 95) C dX8_top_95 0 rfl ?_
      refine r_get (pc := 96) C fl_X8_28 dX8_top_96 0 rfl rfl ?_
      refine r_aload_n (pc := 99) C dX8_top_99 0 rfl ?_
      refine r_get (pc := 100) C fl_X8_35 dX8_top_100 0 rfl rfl ?_
      refine r_iload_n (pc := 103) C dX8_top_103 1 rfl ?_
      obtain ⟨r_13, e_r_13⟩ : ∃ z : Int32, z = (fX0_fall pl3 sp3 dr pz sl pl sp be ti t.toNatClampNeg).1 := ⟨_, rfl⟩
      obtain ⟨pl_14, e_pl_14⟩ : ∃ z : Nat → Int32, z = (fX0_fall pl3 sp3 dr pz sl pl sp be ti t.toNatClampNeg).2.1 := ⟨_, rfl⟩
      obtain ⟨sp_15, e_sp_15⟩ : ∃ z : Nat → Int32, z = (fX0_fall pl3 sp3 dr pz sl pl sp be ti t.toNatClampNeg).2.2.1 := ⟨_, rfl⟩
      obtain ⟨be_16, e_be_16⟩ : ∃ z : Int32, z = (fX0_fall pl3 sp3 dr pz sl pl sp be ti t.toNatClampNeg).2.2.2.1 := ⟨_, rfl⟩
      obtain ⟨ti_17, e_ti_17⟩ : ∃ z : Int32, z = (fX0_fall pl3 sp3 dr pz sl pl sp be ti t.toNatClampNeg).2.2.2.2 := ⟨_, rfl⟩
      have K_18 := ctX0_fall l g zf za3 zp3 zq3 ztb ztd zna znp znq rs rb ou ol pl3 sp3 be3 ti3 dr pz sl tp pl sp be ti t.toNatClampNeg (by omega)
      rw [← e_r_13, ← e_pl_14, ← e_sp_15, ← e_be_16, ← e_ti_17] at K_18
      refine w_cI (pc := 104) [wSpn zo zx zr ztb zna zps zim zkp zf zs zk, wTol g ztb ztd dr pz sl tp, wMom g zna znp znq pl sp be ti, wFut zf za3 rs rb ou ol, wMom g za3 zp3 zq3 pl_14 sp_15 be_16 ti_17] C mv_X8_124 K_18 dX8_top_104 (by decide) [3, 4, 1, 2] rfl (by decide) (by simp only [List.map_cons, List.map_nil, adFut, adMom, adTol]) rfl 6 rfl rfl (Nat.le_of_ble_eq_true rfl) ⟨Nat.zero_le _, Nat.zero_le _⟩ ?_
      have hf : fX8_top dr pz sl tp pl sp be ti pl3 sp3 be3 ti3 t w = (r_13, pl_14, sp_15, be_16, ti_17) := by first | (simp only [fX8_top, ← e_r_1, ← e_r_13, ← e_pl_14, ← e_sp_15, ← e_be_16, ← e_ti_17, if_neg c_3, if_neg c_5, if_neg c_6, if_neg c_7, if_neg c_8, if_pos c_9]; done) | (subst e_r_1 e_r_13 e_pl_14 e_sp_15 e_be_16 e_ti_17; simp only [fX8_top, if_neg c_3, if_neg c_5, if_neg c_6, if_neg c_7, if_neg c_8, if_pos c_9]; done) | (subst e_r_1 e_r_13 e_pl_14 e_sp_15 e_be_16 e_ti_17; rfl) | (subst e_r_1 e_r_13 e_pl_14 e_sp_15 e_be_16 e_ti_17; simp [fX8_top, if_neg c_3, if_neg c_5, if_neg c_6, if_neg c_7, if_neg c_8, if_pos c_9]; done)
      rw [hf] at hR
      exact hR _ _ dX8_top_107
    refine r_tabOut (pc := 11) 108 C dX8_top_11 (by have t0 := lv_neT (a := 0) c_5 (by decide); have t1 := lv_neT (a := 1) c_6 (by decide); have t2 := lv_neT (a := 2) c_7 (by decide); have t3 := lv_neT (a := 3) c_8 (by decide); have t4 := lv_neT (a := 4) c_9 (by decide); omega) (by decide) ?_
    refine r_iconst (pc := 108) (-1) C dX8_top_108 rfl ?_
    have hf : fX8_top dr pz sl tp pl sp be ti pl3 sp3 be3 ti3 t w = ((-1), pl3, sp3, be3, ti3) := by first | (simp only [fX8_top, ← e_r_1, if_neg c_3, if_neg c_5, if_neg c_6, if_neg c_7, if_neg c_8, if_neg c_9]; done) | (subst e_r_1; simp only [fX8_top, if_neg c_3, if_neg c_5, if_neg c_6, if_neg c_7, if_neg c_8, if_neg c_9]; done) | (subst e_r_1; rfl) | (subst e_r_1; simp [fX8_top, if_neg c_3, if_neg c_5, if_neg c_6, if_neg c_7, if_neg c_8, if_neg c_9]; done)
    rw [hf] at hR
    exact hR _ _ dX8_top_109
  · refine r_iconst (pc := 8) (-1) C dX8_top_8 rfl ?_
    have hf : fX8_top dr pz sl tp pl sp be ti pl3 sp3 be3 ti3 t w = ((-1), pl3, sp3, be3, ti3) := by first | (simp only [fX8_top, ← e_r_1, if_pos c_3]; done) | (subst e_r_1; simp only [fX8_top, if_pos c_3]; done) | (subst e_r_1; rfl) | (subst e_r_1; simp [fX8_top, if_pos c_3]; done)
    rw [hf] at hR
    exact hR _ _ dX8_top_9
theorem ctX8_top (l : Launch) (g : Gl) (zo : Nat) (zx : Nat) (zr : Nat) (ztb : Nat) (zna : Nat) (zps : Nat) (zim : Nat) (zkp : Nat) (zf : Nat) (zs : Nat) (zk : Nat) (ztd : Nat) (znp : Nat) (znq : Nat) (za3 : Nat) (zp3 : Nat) (zq3 : Nat) (dr : Nat → Int32) (pz : Int32) (sl : Int32) (tp : Nat) (pl : Nat → Int32) (sp : Nat → Int32) (be : Int32) (ti : Int32) (rs : Int32) (rb : Nat) (ou : Int32) (ol : Int32) (pl3 : Nat → Int32) (sp3 : Nat → Int32) (be3 : Int32) (ti3 : Int32) (t : Int32) (w : Int32) (q0 : tp ≤ 6) : CtI l g yX8_top cX8_top 3 (some .int) 5 [.ref zo, .int t, .int w] (fl [wSpn zo zx zr ztb zna zps zim zkp zf zs zk, wTol g ztb ztd dr pz sl tp, wMom g zna znp znq pl sp be ti, wFut zf za3 rs rb ou ol, wMom g za3 zp3 zq3 pl3 sp3 be3 ti3]) ((fX8_top dr pz sl tp pl sp be ti pl3 sp3 be3 ti3 t w).1) (fl [wSpn zo zx zr ztb zna zps zim zkp zf zs zk, wTol g ztb ztd dr pz sl tp, wMom g zna znp znq pl sp be ti, wFut zf za3 rs rb ou ol, wMom g za3 zp3 zq3 ((fX8_top dr pz sl tp pl sp be ti pl3 sp3 be3 ti3 t w).2.1) ((fX8_top dr pz sl tp pl sp be ti pl3 sp3 be3 ti3 t w).2.2.1) ((fX8_top dr pz sl tp pl sp be ti pl3 sp3 be3 ti3 t w).2.2.2.1) ((fX8_top dr pz sl tp pl sp be ti pl3 sp3 be3 ti3 t w).2.2.2.2)]) := mkI .int rfl rfl [(0, .ref zo), (1, .int t), (2, .int w)] (by decide) (Nat.le_of_ble_eq_true rfl) rfl (fun X C hR => bX8_top C zo zx zr ztb zna zps zim zkp zf zs zk ztd znp znq za3 zp3 zq3 dr pz sl tp pl sp be ti rs rb ou ol pl3 sp3 be3 ti3 t w q0 hR)

def fX8_at (pz : Int32) (pl : Nat → Int32) (sp : Nat → Int32) (w : Int32) : (Int32) := (let r_1 : Int32 := fX8_isPlace pz w; if r_1 = 0 then ((-1)) else (let r_4 : Int32 := fX2_who pl sp w; r_4))
set_option maxHeartbeats 4000000 in
set_option maxRecDepth 100000 in
theorem bX8_at {l : Launch} {g : Gl} {X : Cx} (C : Ok l g X RX8 cX8_at 2 2) (zo : Nat) (zx : Nat) (zr : Nat) (ztb : Nat) (zna : Nat) (zps : Nat) (zim : Nat) (zkp : Nat) (zf : Nat) (zs : Nat) (zk : Nat) (ztd : Nat) (znp : Nat) (znq : Nat) (dr : Nat → Int32) (pz : Int32) (sl : Int32) (tp : Nat) (pl : Nat → Int32) (sp : Nat → Int32) (be : Int32) (ti : Int32) (w : Int32) (hR : RetI g X cX8_at 2 0 0 (fX8_at pz pl sp w) (fl [wSpn zo zx zr ztb zna zps zim zkp zf zs zk, wTol g ztb ztd dr pz sl tp, wMom g zna znp znq pl sp be ti])) : Vw g X 2 0 0 (fl [wSpn zo zx zr ztb zna zps zim zkp zf zs zk, wTol g ztb ztd dr pz sl tp, wMom g zna znp znq pl sp be ti]) 0 [(0, .ref zo), (1, .int w)] [] := by
  refine r_aload_n (pc := 0) C dX8_at_0 0 rfl ?_
  refine r_iload_n (pc := 1) C dX8_at_1 1 rfl ?_
  obtain ⟨r_1, e_r_1⟩ : ∃ z : Int32, z = fX8_isPlace pz w := ⟨_, rfl⟩
  have K_2 := ctX8_isPlace l g zo zx zr ztb zna zps zim zkp zf zs zk ztd dr pz sl tp w 
  rw [← e_r_1] at K_2
  refine w_pI (pc := 2) C mv_X8_128 K_2 dX8_at_2 (by decide) [0, 1] rfl (by decide) 0 rfl rfl (Nat.le_of_ble_eq_true rfl) ⟨Nat.zero_le _, Nat.zero_le _⟩ ?_
  refine r_ifeq (pc := 5) 19 C dX8_at_5 (by decide) (fun c_3 => ?_) (fun c_3 => ?_)
  · refine r_iconst (pc := 19) (-1) C dX8_at_19 rfl ?_
    have hf : fX8_at pz pl sp w = (-1) := by first | (simp only [fX8_at, ← e_r_1, if_pos c_3]; done) | (subst e_r_1; simp only [fX8_at, if_pos c_3]; done) | (subst e_r_1; rfl) | (subst e_r_1; simp [fX8_at, if_pos c_3]; done)
    rw [hf] at hR
    exact hR _ _ dX8_at_20
  · refine r_aload_n (pc := 8) C dX8_at_8 0 rfl ?_
    refine r_get (pc := 9) C fl_X8_35 dX8_at_9 0 rfl rfl ?_
    refine r_iload_n (pc := 12) C dX8_at_12 1 rfl ?_
    obtain ⟨r_4, e_r_4⟩ : ∃ z : Int32, z = fX2_who pl sp w := ⟨_, rfl⟩
    have K_5 := ctX2_who l g zna znp znq pl sp be ti w 
    rw [← e_r_4] at K_5
    refine w_pI (pc := 13) C mv_X8_131 K_5 dX8_at_13 (by decide) [2] rfl (by decide) 3 rfl rfl (Nat.le_of_ble_eq_true rfl) ⟨Nat.zero_le _, Nat.zero_le _⟩ ?_
    refine r_goto (pc := 16) 20 C dX8_at_16 (by decide) ?_
    have hf : fX8_at pz pl sp w = r_4 := by first | (simp only [fX8_at, ← e_r_1, ← e_r_4, if_neg c_3]; done) | (subst e_r_1 e_r_4; simp only [fX8_at, if_neg c_3]; done) | (subst e_r_1 e_r_4; rfl) | (subst e_r_1 e_r_4; simp [fX8_at, if_neg c_3]; done)
    rw [hf] at hR
    exact hR _ _ dX8_at_20
theorem ctX8_at (l : Launch) (g : Gl) (zo : Nat) (zx : Nat) (zr : Nat) (ztb : Nat) (zna : Nat) (zps : Nat) (zim : Nat) (zkp : Nat) (zf : Nat) (zs : Nat) (zk : Nat) (ztd : Nat) (znp : Nat) (znq : Nat) (dr : Nat → Int32) (pz : Int32) (sl : Int32) (tp : Nat) (pl : Nat → Int32) (sp : Nat → Int32) (be : Int32) (ti : Int32) (w : Int32) : CtI l g yX8_at cX8_at 2 (some .int) 2 [.ref zo, .int w] (fl [wSpn zo zx zr ztb zna zps zim zkp zf zs zk, wTol g ztb ztd dr pz sl tp, wMom g zna znp znq pl sp be ti]) (fX8_at pz pl sp w) (fl [wSpn zo zx zr ztb zna zps zim zkp zf zs zk, wTol g ztb ztd dr pz sl tp, wMom g zna znp znq pl sp be ti]) := mkI .int rfl rfl [(0, .ref zo), (1, .int w)] (by decide) (Nat.le_of_ble_eq_true rfl) rfl (fun X C hR => bX8_at C zo zx zr ztb zna zps zim zkp zf zs zk ztd znp znq dr pz sl tp pl sp be ti w hR)

def fX8_stand (dr : Nat → Int32) (pz : Int32) (sl : Int32) (pl : Nat → Int32) (sp : Nat → Int32) (be : Int32) (ti : Int32) (pl3 : Nat → Int32) (sp3 : Nat → Int32) (be3 : Int32) (ti3 : Int32) (m : Int32) : (Int32) × (Nat → Int32) × (Nat → Int32) × (Int32) × (Int32) := (let r_1 : Int32 := fX8_isAhead m; if r_1 = 0 then (((-1), pl3, sp3, be3, ti3)) else (let r_5 : Int32 := (fX0_standing pl3 sp3 dr pz sl pl sp be ti m.toNatClampNeg).1; let pl_6 : Nat → Int32 := (fX0_standing pl3 sp3 dr pz sl pl sp be ti m.toNatClampNeg).2.1; let sp_7 : Nat → Int32 := (fX0_standing pl3 sp3 dr pz sl pl sp be ti m.toNatClampNeg).2.2.1; let be_8 : Int32 := (fX0_standing pl3 sp3 dr pz sl pl sp be ti m.toNatClampNeg).2.2.2.1; let ti_9 : Int32 := (fX0_standing pl3 sp3 dr pz sl pl sp be ti m.toNatClampNeg).2.2.2.2; (r_5, pl_6, sp_7, be_8, ti_9)))
set_option maxHeartbeats 4000000 in
set_option maxRecDepth 100000 in
theorem bX8_stand {l : Launch} {g : Gl} {X : Cx} (C : Ok l g X RX8 cX8_stand 2 5) (zo : Nat) (zx : Nat) (zr : Nat) (ztb : Nat) (zna : Nat) (zps : Nat) (zim : Nat) (zkp : Nat) (zf : Nat) (zs : Nat) (zk : Nat) (ztd : Nat) (znp : Nat) (znq : Nat) (za3 : Nat) (zp3 : Nat) (zq3 : Nat) (dr : Nat → Int32) (pz : Int32) (sl : Int32) (tp : Nat) (pl : Nat → Int32) (sp : Nat → Int32) (be : Int32) (ti : Int32) (rs : Int32) (rb : Nat) (ou : Int32) (ol : Int32) (pl3 : Nat → Int32) (sp3 : Nat → Int32) (be3 : Int32) (ti3 : Int32) (m : Int32) (hR : RetI g X cX8_stand 2 0 0 ((fX8_stand dr pz sl pl sp be ti pl3 sp3 be3 ti3 m).1) (fl [wSpn zo zx zr ztb zna zps zim zkp zf zs zk, wTol g ztb ztd dr pz sl tp, wMom g zna znp znq pl sp be ti, wFut zf za3 rs rb ou ol, wMom g za3 zp3 zq3 ((fX8_stand dr pz sl pl sp be ti pl3 sp3 be3 ti3 m).2.1) ((fX8_stand dr pz sl pl sp be ti pl3 sp3 be3 ti3 m).2.2.1) ((fX8_stand dr pz sl pl sp be ti pl3 sp3 be3 ti3 m).2.2.2.1) ((fX8_stand dr pz sl pl sp be ti pl3 sp3 be3 ti3 m).2.2.2.2)])) : Vw g X 2 0 0 (fl [wSpn zo zx zr ztb zna zps zim zkp zf zs zk, wTol g ztb ztd dr pz sl tp, wMom g zna znp znq pl sp be ti, wFut zf za3 rs rb ou ol, wMom g za3 zp3 zq3 pl3 sp3 be3 ti3]) 0 [(0, .ref zo), (1, .int m)] [] := by
  refine r_iload_n (pc := 0) C dX8_stand_0 1 rfl ?_
  obtain ⟨r_1, e_r_1⟩ : ∃ z : Int32, z = fX8_isAhead m := ⟨_, rfl⟩
  have K_2 := ctX8_isAhead l g   m 
  rw [← e_r_1] at K_2
  refine x_pI (pc := 1) C ms_X8_169 K_2 dX8_stand_1 (by decide) [] rfl (by decide) rfl (Nat.le_of_ble_eq_true rfl) ⟨Nat.zero_le _, Nat.zero_le _⟩ ?_
  refine r_ifeq (pc := 4) 26 C dX8_stand_4 (by decide) (fun c_3 => ?_) (fun c_3 => ?_)
  · refine r_iconst (pc := 26) (-1) C dX8_stand_26 rfl ?_
    have hf : fX8_stand dr pz sl pl sp be ti pl3 sp3 be3 ti3 m = ((-1), pl3, sp3, be3, ti3) := by first | (simp only [fX8_stand, ← e_r_1, if_pos c_3]; done) | (subst e_r_1; simp only [fX8_stand, if_pos c_3]; done) | (subst e_r_1; rfl) | (subst e_r_1; simp [fX8_stand, if_pos c_3]; done)
    rw [hf] at hR
    exact hR _ _ dX8_stand_27
  · obtain ⟨h_4, qh_4⟩ := natc (x := m) (B := 61) (by omega) (ahead_nat (by rw [← e_r_1]; assumption))
    refine u_lvq [(0, .ref zo), (1, .int (nI m.toNatClampNeg))] (by rw [qh_4]) ?_
    refine r_aload_n (pc := 7) C dX8_stand_7 0 rfl ?_
    refine r_get (pc := 8) C fl_X8_57 dX8_stand_8 0 rfl rfl ?_
    refine r_aload_n (pc := 11) C dX8_stand_11 0 rfl ?_
    refine r_get (pc := 12) C fl_X8_28 dX8_stand_12 0 rfl rfl ?_
    refine r_aload_n (pc := 15) C dX8_stand_15 0 rfl ?_
    refine r_get (pc := 16) C fl_X8_35 dX8_stand_16 0 rfl rfl ?_
    refine r_iload_n (pc := 19) C dX8_stand_19 1 rfl ?_
    obtain ⟨r_5, e_r_5⟩ : ∃ z : Int32, z = (fX0_standing pl3 sp3 dr pz sl pl sp be ti m.toNatClampNeg).1 := ⟨_, rfl⟩
    obtain ⟨pl_6, e_pl_6⟩ : ∃ z : Nat → Int32, z = (fX0_standing pl3 sp3 dr pz sl pl sp be ti m.toNatClampNeg).2.1 := ⟨_, rfl⟩
    obtain ⟨sp_7, e_sp_7⟩ : ∃ z : Nat → Int32, z = (fX0_standing pl3 sp3 dr pz sl pl sp be ti m.toNatClampNeg).2.2.1 := ⟨_, rfl⟩
    obtain ⟨be_8, e_be_8⟩ : ∃ z : Int32, z = (fX0_standing pl3 sp3 dr pz sl pl sp be ti m.toNatClampNeg).2.2.2.1 := ⟨_, rfl⟩
    obtain ⟨ti_9, e_ti_9⟩ : ∃ z : Int32, z = (fX0_standing pl3 sp3 dr pz sl pl sp be ti m.toNatClampNeg).2.2.2.2 := ⟨_, rfl⟩
    have K_10 := ctX0_standing l g zf za3 zp3 zq3 ztb ztd zna znp znq rs rb ou ol pl3 sp3 be3 ti3 dr pz sl tp pl sp be ti m.toNatClampNeg (by omega)
    rw [← e_r_5, ← e_pl_6, ← e_sp_7, ← e_be_8, ← e_ti_9] at K_10
    refine w_cI (pc := 20) [wSpn zo zx zr ztb zna zps zim zkp zf zs zk, wTol g ztb ztd dr pz sl tp, wMom g zna znp znq pl sp be ti, wFut zf za3 rs rb ou ol, wMom g za3 zp3 zq3 pl_6 sp_7 be_8 ti_9] C mv_X8_172 K_10 dX8_stand_20 (by decide) [3, 4, 1, 2] rfl (by decide) (by simp only [List.map_cons, List.map_nil, adFut, adMom, adTol]) rfl 6 rfl rfl (Nat.le_of_ble_eq_true rfl) ⟨Nat.zero_le _, Nat.zero_le _⟩ ?_
    refine r_goto (pc := 23) 27 C dX8_stand_23 (by decide) ?_
    have hf : fX8_stand dr pz sl pl sp be ti pl3 sp3 be3 ti3 m = (r_5, pl_6, sp_7, be_8, ti_9) := by first | (simp only [fX8_stand, ← e_r_1, ← e_r_5, ← e_pl_6, ← e_sp_7, ← e_be_8, ← e_ti_9, if_neg c_3]; done) | (subst e_r_1 e_r_5 e_pl_6 e_sp_7 e_be_8 e_ti_9; simp only [fX8_stand, if_neg c_3]; done) | (subst e_r_1 e_r_5 e_pl_6 e_sp_7 e_be_8 e_ti_9; rfl) | (subst e_r_1 e_r_5 e_pl_6 e_sp_7 e_be_8 e_ti_9; simp [fX8_stand, if_neg c_3]; done)
    rw [hf] at hR
    exact hR _ _ dX8_stand_27
theorem ctX8_stand (l : Launch) (g : Gl) (zo : Nat) (zx : Nat) (zr : Nat) (ztb : Nat) (zna : Nat) (zps : Nat) (zim : Nat) (zkp : Nat) (zf : Nat) (zs : Nat) (zk : Nat) (ztd : Nat) (znp : Nat) (znq : Nat) (za3 : Nat) (zp3 : Nat) (zq3 : Nat) (dr : Nat → Int32) (pz : Int32) (sl : Int32) (tp : Nat) (pl : Nat → Int32) (sp : Nat → Int32) (be : Int32) (ti : Int32) (rs : Int32) (rb : Nat) (ou : Int32) (ol : Int32) (pl3 : Nat → Int32) (sp3 : Nat → Int32) (be3 : Int32) (ti3 : Int32) (m : Int32) : CtI l g yX8_stand cX8_stand 2 (some .int) 5 [.ref zo, .int m] (fl [wSpn zo zx zr ztb zna zps zim zkp zf zs zk, wTol g ztb ztd dr pz sl tp, wMom g zna znp znq pl sp be ti, wFut zf za3 rs rb ou ol, wMom g za3 zp3 zq3 pl3 sp3 be3 ti3]) ((fX8_stand dr pz sl pl sp be ti pl3 sp3 be3 ti3 m).1) (fl [wSpn zo zx zr ztb zna zps zim zkp zf zs zk, wTol g ztb ztd dr pz sl tp, wMom g zna znp znq pl sp be ti, wFut zf za3 rs rb ou ol, wMom g za3 zp3 zq3 ((fX8_stand dr pz sl pl sp be ti pl3 sp3 be3 ti3 m).2.1) ((fX8_stand dr pz sl pl sp be ti pl3 sp3 be3 ti3 m).2.2.1) ((fX8_stand dr pz sl pl sp be ti pl3 sp3 be3 ti3 m).2.2.2.1) ((fX8_stand dr pz sl pl sp be ti pl3 sp3 be3 ti3 m).2.2.2.2)]) := mkI .int rfl rfl [(0, .ref zo), (1, .int m)] (by decide) (Nat.le_of_ble_eq_true rfl) rfl (fun X C hR => bX8_stand C zo zx zr ztb zna zps zim zkp zf zs zk ztd znp znq za3 zp3 zq3 dr pz sl tp pl sp be ti rs rb ou ol pl3 sp3 be3 ti3 m hR)

def fX8_whip (dr : Nat → Int32) (pz : Int32) (sl : Int32) (tp : Nat) (pl : Nat → Int32) (sp : Nat → Int32) (be : Int32) (ti : Int32) (pl3 : Nat → Int32) (sp3 : Nat → Int32) (be3 : Int32) (ti3 : Int32) (v : Int32) (m : Int32) : (Int32) × (Nat → Int32) × (Nat → Int32) × (Int32) × (Int32) := (let r_1 : Int32 := fX8_isWhip v; if r_1 = 0 then (((-1), pl3, sp3, be3, ti3)) else (let r_4 : Int32 := fX8_isAhead m; if r_4 = 0 then (((-1), pl3, sp3, be3, ti3)) else (let r_8 : Int32 := (fX0_bestWhip pl3 sp3 be3 ti3 dr pz sl tp pl sp be ti v m.toNatClampNeg).1; let pl_9 : Nat → Int32 := (fX0_bestWhip pl3 sp3 be3 ti3 dr pz sl tp pl sp be ti v m.toNatClampNeg).2.1; let sp_10 : Nat → Int32 := (fX0_bestWhip pl3 sp3 be3 ti3 dr pz sl tp pl sp be ti v m.toNatClampNeg).2.2.1; let be_11 : Int32 := (fX0_bestWhip pl3 sp3 be3 ti3 dr pz sl tp pl sp be ti v m.toNatClampNeg).2.2.2.1; let ti_12 : Int32 := (fX0_bestWhip pl3 sp3 be3 ti3 dr pz sl tp pl sp be ti v m.toNatClampNeg).2.2.2.2; (r_8, pl_9, sp_10, be_11, ti_12))))
set_option maxHeartbeats 4000000 in
set_option maxRecDepth 100000 in
theorem bX8_whip {l : Launch} {g : Gl} {X : Cx} (C : Ok l g X RX8 cX8_whip 3 5) (zo : Nat) (zx : Nat) (zr : Nat) (ztb : Nat) (zna : Nat) (zps : Nat) (zim : Nat) (zkp : Nat) (zf : Nat) (zs : Nat) (zk : Nat) (ztd : Nat) (znp : Nat) (znq : Nat) (za3 : Nat) (zp3 : Nat) (zq3 : Nat) (dr : Nat → Int32) (pz : Int32) (sl : Int32) (tp : Nat) (pl : Nat → Int32) (sp : Nat → Int32) (be : Int32) (ti : Int32) (rs : Int32) (rb : Nat) (ou : Int32) (ol : Int32) (pl3 : Nat → Int32) (sp3 : Nat → Int32) (be3 : Int32) (ti3 : Int32) (v : Int32) (m : Int32) (q0 : tp ≤ 6) (hR : RetI g X cX8_whip 3 0 0 ((fX8_whip dr pz sl tp pl sp be ti pl3 sp3 be3 ti3 v m).1) (fl [wSpn zo zx zr ztb zna zps zim zkp zf zs zk, wTol g ztb ztd dr pz sl tp, wMom g zna znp znq pl sp be ti, wFut zf za3 rs rb ou ol, wMom g za3 zp3 zq3 ((fX8_whip dr pz sl tp pl sp be ti pl3 sp3 be3 ti3 v m).2.1) ((fX8_whip dr pz sl tp pl sp be ti pl3 sp3 be3 ti3 v m).2.2.1) ((fX8_whip dr pz sl tp pl sp be ti pl3 sp3 be3 ti3 v m).2.2.2.1) ((fX8_whip dr pz sl tp pl sp be ti pl3 sp3 be3 ti3 v m).2.2.2.2)])) : Vw g X 3 0 0 (fl [wSpn zo zx zr ztb zna zps zim zkp zf zs zk, wTol g ztb ztd dr pz sl tp, wMom g zna znp znq pl sp be ti, wFut zf za3 rs rb ou ol, wMom g za3 zp3 zq3 pl3 sp3 be3 ti3]) 0 [(0, .ref zo), (1, .int v), (2, .int m)] [] := by
  refine r_iload_n (pc := 0) C dX8_whip_0 1 rfl ?_
  obtain ⟨r_1, e_r_1⟩ : ∃ z : Int32, z = fX8_isWhip v := ⟨_, rfl⟩
  have K_2 := ctX8_isWhip l g   v 
  rw [← e_r_1] at K_2
  refine x_pI (pc := 1) C ms_X8_158 K_2 dX8_whip_1 (by decide) [] rfl (by decide) rfl (Nat.le_of_ble_eq_true rfl) ⟨Nat.zero_le _, Nat.zero_le _⟩ ?_
  refine r_ifeq (pc := 4) 34 C dX8_whip_4 (by decide) (fun c_3 => ?_) (fun c_3 => ?_)
  · refine r_iconst (pc := 34) (-1) C dX8_whip_34 rfl ?_
    have hf : fX8_whip dr pz sl tp pl sp be ti pl3 sp3 be3 ti3 v m = ((-1), pl3, sp3, be3, ti3) := by first | (simp only [fX8_whip, ← e_r_1, if_pos c_3]; done) | (subst e_r_1; simp only [fX8_whip, if_pos c_3]; done) | (subst e_r_1; rfl) | (subst e_r_1; simp [fX8_whip, if_pos c_3]; done)
    rw [hf] at hR
    exact hR _ _ dX8_whip_35
  · refine r_iload_n (pc := 7) C dX8_whip_7 2 rfl ?_
    obtain ⟨r_4, e_r_4⟩ : ∃ z : Int32, z = fX8_isAhead m := ⟨_, rfl⟩
    have K_5 := ctX8_isAhead l g   m 
    rw [← e_r_4] at K_5
    refine x_pI (pc := 8) C ms_X8_169 K_5 dX8_whip_8 (by decide) [] rfl (by decide) rfl (Nat.le_of_ble_eq_true rfl) ⟨Nat.zero_le _, Nat.zero_le _⟩ ?_
    refine r_ifeq (pc := 11) 34 C dX8_whip_11 (by decide) (fun c_6 => ?_) (fun c_6 => ?_)
    · refine r_iconst (pc := 34) (-1) C dX8_whip_34 rfl ?_
      have hf : fX8_whip dr pz sl tp pl sp be ti pl3 sp3 be3 ti3 v m = ((-1), pl3, sp3, be3, ti3) := by first | (simp only [fX8_whip, ← e_r_1, ← e_r_4, if_neg c_3, if_pos c_6]; done) | (subst e_r_1 e_r_4; simp only [fX8_whip, if_neg c_3, if_pos c_6]; done) | (subst e_r_1 e_r_4; rfl) | (subst e_r_1 e_r_4; simp [fX8_whip, if_neg c_3, if_pos c_6]; done)
      rw [hf] at hR
      exact hR _ _ dX8_whip_35
    · obtain ⟨h_7, qh_7⟩ := natc (x := m) (B := 61) (by omega) (ahead_nat (by rw [← e_r_4]; assumption))
      refine u_lvq [(0, .ref zo), (1, .int v), (2, .int (nI m.toNatClampNeg))] (by rw [qh_7]) ?_
      refine r_aload_n (pc := 14) C dX8_whip_14 0 rfl ?_
      refine r_get (pc := 15) C fl_X8_57 dX8_whip_15 0 rfl rfl ?_
      refine r_aload_n (pc := 18) C dX8_whip_18 0 rfl ?_
      refine r_get (pc := 19) C fl_X8_28 dX8_whip_19 0 rfl rfl ?_
      refine r_aload_n (pc := 22) C dX8_whip_22 0 rfl ?_
      refine r_get (pc := 23) C fl_X8_35 dX8_whip_23 0 rfl rfl ?_
      refine r_iload_n (pc := 26) C dX8_whip_26 1 rfl ?_
      refine r_iload_n (pc := 27) C dX8_whip_27 2 rfl ?_
      obtain ⟨r_8, e_r_8⟩ : ∃ z : Int32, z = (fX0_bestWhip pl3 sp3 be3 ti3 dr pz sl tp pl sp be ti v m.toNatClampNeg).1 := ⟨_, rfl⟩
      obtain ⟨pl_9, e_pl_9⟩ : ∃ z : Nat → Int32, z = (fX0_bestWhip pl3 sp3 be3 ti3 dr pz sl tp pl sp be ti v m.toNatClampNeg).2.1 := ⟨_, rfl⟩
      obtain ⟨sp_10, e_sp_10⟩ : ∃ z : Nat → Int32, z = (fX0_bestWhip pl3 sp3 be3 ti3 dr pz sl tp pl sp be ti v m.toNatClampNeg).2.2.1 := ⟨_, rfl⟩
      obtain ⟨be_11, e_be_11⟩ : ∃ z : Int32, z = (fX0_bestWhip pl3 sp3 be3 ti3 dr pz sl tp pl sp be ti v m.toNatClampNeg).2.2.2.1 := ⟨_, rfl⟩
      obtain ⟨ti_12, e_ti_12⟩ : ∃ z : Int32, z = (fX0_bestWhip pl3 sp3 be3 ti3 dr pz sl tp pl sp be ti v m.toNatClampNeg).2.2.2.2 := ⟨_, rfl⟩
      have K_13 := ctX0_bestWhip l g zf za3 zp3 zq3 ztb ztd zna znp znq rs rb ou ol pl3 sp3 be3 ti3 dr pz sl tp pl sp be ti v m.toNatClampNeg (by omega) (by omega)
      rw [← e_r_8, ← e_pl_9, ← e_sp_10, ← e_be_11, ← e_ti_12] at K_13
      refine w_cI (pc := 28) [wSpn zo zx zr ztb zna zps zim zkp zf zs zk, wTol g ztb ztd dr pz sl tp, wMom g zna znp znq pl sp be ti, wFut zf za3 rs rb ou ol, wMom g za3 zp3 zq3 pl_9 sp_10 be_11 ti_12] C mv_X8_174 K_13 dX8_whip_28 (by decide) [3, 4, 1, 2] rfl (by decide) (by simp only [List.map_cons, List.map_nil, adFut, adMom, adTol]) rfl 6 rfl rfl (Nat.le_of_ble_eq_true rfl) ⟨Nat.zero_le _, Nat.zero_le _⟩ ?_
      refine r_goto (pc := 31) 35 C dX8_whip_31 (by decide) ?_
      have hf : fX8_whip dr pz sl tp pl sp be ti pl3 sp3 be3 ti3 v m = (r_8, pl_9, sp_10, be_11, ti_12) := by first | (simp only [fX8_whip, ← e_r_1, ← e_r_4, ← e_r_8, ← e_pl_9, ← e_sp_10, ← e_be_11, ← e_ti_12, if_neg c_3, if_neg c_6]; done) | (subst e_r_1 e_r_4 e_r_8 e_pl_9 e_sp_10 e_be_11 e_ti_12; simp only [fX8_whip, if_neg c_3, if_neg c_6]; done) | (subst e_r_1 e_r_4 e_r_8 e_pl_9 e_sp_10 e_be_11 e_ti_12; rfl) | (subst e_r_1 e_r_4 e_r_8 e_pl_9 e_sp_10 e_be_11 e_ti_12; simp [fX8_whip, if_neg c_3, if_neg c_6]; done)
      rw [hf] at hR
      exact hR _ _ dX8_whip_35
theorem ctX8_whip (l : Launch) (g : Gl) (zo : Nat) (zx : Nat) (zr : Nat) (ztb : Nat) (zna : Nat) (zps : Nat) (zim : Nat) (zkp : Nat) (zf : Nat) (zs : Nat) (zk : Nat) (ztd : Nat) (znp : Nat) (znq : Nat) (za3 : Nat) (zp3 : Nat) (zq3 : Nat) (dr : Nat → Int32) (pz : Int32) (sl : Int32) (tp : Nat) (pl : Nat → Int32) (sp : Nat → Int32) (be : Int32) (ti : Int32) (rs : Int32) (rb : Nat) (ou : Int32) (ol : Int32) (pl3 : Nat → Int32) (sp3 : Nat → Int32) (be3 : Int32) (ti3 : Int32) (v : Int32) (m : Int32) (q0 : tp ≤ 6) : CtI l g yX8_whip cX8_whip 3 (some .int) 5 [.ref zo, .int v, .int m] (fl [wSpn zo zx zr ztb zna zps zim zkp zf zs zk, wTol g ztb ztd dr pz sl tp, wMom g zna znp znq pl sp be ti, wFut zf za3 rs rb ou ol, wMom g za3 zp3 zq3 pl3 sp3 be3 ti3]) ((fX8_whip dr pz sl tp pl sp be ti pl3 sp3 be3 ti3 v m).1) (fl [wSpn zo zx zr ztb zna zps zim zkp zf zs zk, wTol g ztb ztd dr pz sl tp, wMom g zna znp znq pl sp be ti, wFut zf za3 rs rb ou ol, wMom g za3 zp3 zq3 ((fX8_whip dr pz sl tp pl sp be ti pl3 sp3 be3 ti3 v m).2.1) ((fX8_whip dr pz sl tp pl sp be ti pl3 sp3 be3 ti3 v m).2.2.1) ((fX8_whip dr pz sl tp pl sp be ti pl3 sp3 be3 ti3 v m).2.2.2.1) ((fX8_whip dr pz sl tp pl sp be ti pl3 sp3 be3 ti3 v m).2.2.2.2)]) := mkI .int rfl rfl [(0, .ref zo), (1, .int v), (2, .int m)] (by decide) (Nat.le_of_ble_eq_true rfl) rfl (fun X C hR => bX8_whip C zo zx zr ztb zna zps zim zkp zf zs zk ztd znp znq za3 zp3 zq3 dr pz sl tp pl sp be ti rs rb ou ol pl3 sp3 be3 ti3 v m q0 hR)

def fX8_row (dr : Nat → Int32) (pz : Int32) (sl : Int32) (pl : Nat → Int32) (sp : Nat → Int32) (be : Int32) (ti : Int32) (rs : Int32) (rb : Nat) (pl3 : Nat → Int32) (sp3 : Nat → Int32) (be3 : Int32) (ti3 : Int32) (m : Int32) (v : Int32) : (Int32) × (Int32) × (Nat) × (Nat → Int32) × (Nat → Int32) × (Int32) × (Int32) := (let r_1 : Int32 := fX8_within m 0 5; if r_1 = 0 then (((-1), rs, rb, pl3, sp3, be3, ti3)) else (let r_4 : Int32 := fX8_within v (-1) 4; if r_4 = 0 then (((-1), rs, rb, pl3, sp3, be3, ti3)) else (let rs_8 : Int32 := (fX0_findRow pl3 sp3 be3 ti3 dr pz sl pl sp be ti m.toNatClampNeg).1; let rb_9 : Nat := (fX0_findRow pl3 sp3 be3 ti3 dr pz sl pl sp be ti m.toNatClampNeg).2.1; let pl_10 : Nat → Int32 := (fX0_findRow pl3 sp3 be3 ti3 dr pz sl pl sp be ti m.toNatClampNeg).2.2.1; let sp_11 : Nat → Int32 := (fX0_findRow pl3 sp3 be3 ti3 dr pz sl pl sp be ti m.toNatClampNeg).2.2.2.1; let be_12 : Int32 := (fX0_findRow pl3 sp3 be3 ti3 dr pz sl pl sp be ti m.toNatClampNeg).2.2.2.2.1; let ti_13 : Int32 := (fX0_findRow pl3 sp3 be3 ti3 dr pz sl pl sp be ti m.toNatClampNeg).2.2.2.2.2; if 0 ≤ v then (if m.toNatClampNeg ≤ v.toNatClampNeg then (((-9), rs_8, rb_9, pl_10, sp_11, be_12, ti_13)) else (let r_18 : Int32 := fX0_tiltOf rb_9 m.toNatClampNeg v.toNatClampNeg; (r_18, rs_8, rb_9, pl_10, sp_11, be_12, ti_13))) else ((rs_8, rs_8, rb_9, pl_10, sp_11, be_12, ti_13)))))
set_option maxHeartbeats 4000000 in
set_option maxRecDepth 100000 in
theorem bX8_row {l : Launch} {g : Gl} {X : Cx} (C : Ok l g X RX8 cX8_row 3 5) (zo : Nat) (zx : Nat) (zr : Nat) (ztb : Nat) (zna : Nat) (zps : Nat) (zim : Nat) (zkp : Nat) (zf : Nat) (zs : Nat) (zk : Nat) (ztd : Nat) (znp : Nat) (znq : Nat) (za3 : Nat) (zp3 : Nat) (zq3 : Nat) (dr : Nat → Int32) (pz : Int32) (sl : Int32) (tp : Nat) (pl : Nat → Int32) (sp : Nat → Int32) (be : Int32) (ti : Int32) (rs : Int32) (rb : Nat) (ou : Int32) (ol : Int32) (pl3 : Nat → Int32) (sp3 : Nat → Int32) (be3 : Int32) (ti3 : Int32) (m : Int32) (v : Int32) (hR : RetI g X cX8_row 3 0 0 ((fX8_row dr pz sl pl sp be ti rs rb pl3 sp3 be3 ti3 m v).1) (fl [wSpn zo zx zr ztb zna zps zim zkp zf zs zk, wTol g ztb ztd dr pz sl tp, wMom g zna znp znq pl sp be ti, wFut zf za3 ((fX8_row dr pz sl pl sp be ti rs rb pl3 sp3 be3 ti3 m v).2.1) ((fX8_row dr pz sl pl sp be ti rs rb pl3 sp3 be3 ti3 m v).2.2.1) ou ol, wMom g za3 zp3 zq3 ((fX8_row dr pz sl pl sp be ti rs rb pl3 sp3 be3 ti3 m v).2.2.2.1) ((fX8_row dr pz sl pl sp be ti rs rb pl3 sp3 be3 ti3 m v).2.2.2.2.1) ((fX8_row dr pz sl pl sp be ti rs rb pl3 sp3 be3 ti3 m v).2.2.2.2.2.1) ((fX8_row dr pz sl pl sp be ti rs rb pl3 sp3 be3 ti3 m v).2.2.2.2.2.2)])) : Vw g X 3 0 0 (fl [wSpn zo zx zr ztb zna zps zim zkp zf zs zk, wTol g ztb ztd dr pz sl tp, wMom g zna znp znq pl sp be ti, wFut zf za3 rs rb ou ol, wMom g za3 zp3 zq3 pl3 sp3 be3 ti3]) 0 [(0, .ref zo), (1, .int m), (2, .int v)] [] := by
  refine r_iload_n (pc := 0) C dX8_row_0 1 rfl ?_
  refine r_iconst (pc := 1) 0 C dX8_row_1 rfl ?_
  refine r_iconst (pc := 2) 5 C dX8_row_2 rfl ?_
  obtain ⟨r_1, e_r_1⟩ : ∃ z : Int32, z = fX8_within m 0 5 := ⟨_, rfl⟩
  have K_2 := ctX8_within l g   m 0 5 
  rw [← e_r_1] at K_2
  refine x_pI (pc := 3) C ms_X8_75 K_2 dX8_row_3 (by decide) [] rfl (by decide) rfl (Nat.le_of_ble_eq_true rfl) ⟨Nat.zero_le _, Nat.zero_le _⟩ ?_
  refine r_ifeq (pc := 6) 18 C dX8_row_6 (by decide) (fun c_3 => ?_) (fun c_3 => ?_)
  · refine r_iconst (pc := 18) (-1) C dX8_row_18 rfl ?_
    have hf : fX8_row dr pz sl pl sp be ti rs rb pl3 sp3 be3 ti3 m v = ((-1), rs, rb, pl3, sp3, be3, ti3) := by first | (simp only [fX8_row, ← e_r_1, if_pos c_3]; done) | (subst e_r_1; simp only [fX8_row, if_pos c_3]; done) | (subst e_r_1; rfl) | (subst e_r_1; simp [fX8_row, if_pos c_3]; done)
    rw [hf] at hR
    exact hR _ _ dX8_row_19
  · refine r_iload_n (pc := 9) C dX8_row_9 2 rfl ?_
    refine r_iconst (pc := 10) (-1) C dX8_row_10 rfl ?_
    refine r_iconst (pc := 11) 4 C dX8_row_11 rfl ?_
    obtain ⟨r_4, e_r_4⟩ : ∃ z : Int32, z = fX8_within v (-1) 4 := ⟨_, rfl⟩
    have K_5 := ctX8_within l g   v (-1) 4 
    rw [← e_r_4] at K_5
    refine x_pI (pc := 12) C ms_X8_75 K_5 dX8_row_12 (by decide) [] rfl (by decide) rfl (Nat.le_of_ble_eq_true rfl) ⟨Nat.zero_le _, Nat.zero_le _⟩ ?_
    refine r_ifne (pc := 15) 20 C dX8_row_15 (by decide) (fun c_6 => ?_) (fun c_6 => ?_)
    · obtain ⟨h_7, qh_7⟩ := natc (x := m) (B := 6) (by omega) (wi_nat (b := 5) (by decide) (by rw [← e_r_1]; assumption))
      refine u_lvq [(0, .ref zo), (1, .int (nI m.toNatClampNeg)), (2, .int v)] (by rw [qh_7]) ?_
      refine r_aload_n (pc := 20) C dX8_row_20 0 rfl ?_
      refine r_get (pc := 21) C fl_X8_57 dX8_row_21 0 rfl rfl ?_
      refine r_aload_n (pc := 24) C dX8_row_24 0 rfl ?_
      refine r_get (pc := 25) C fl_X8_28 dX8_row_25 0 rfl rfl ?_
      refine r_aload_n (pc := 28) C dX8_row_28 0 rfl ?_
      refine r_get (pc := 29) C fl_X8_35 dX8_row_29 0 rfl rfl ?_
      refine r_iload_n (pc := 32) C dX8_row_32 1 rfl ?_
      obtain ⟨rs_8, e_rs_8⟩ : ∃ z : Int32, z = (fX0_findRow pl3 sp3 be3 ti3 dr pz sl pl sp be ti m.toNatClampNeg).1 := ⟨_, rfl⟩
      obtain ⟨rb_9, e_rb_9⟩ : ∃ z : Nat, z = (fX0_findRow pl3 sp3 be3 ti3 dr pz sl pl sp be ti m.toNatClampNeg).2.1 := ⟨_, rfl⟩
      obtain ⟨pl_10, e_pl_10⟩ : ∃ z : Nat → Int32, z = (fX0_findRow pl3 sp3 be3 ti3 dr pz sl pl sp be ti m.toNatClampNeg).2.2.1 := ⟨_, rfl⟩
      obtain ⟨sp_11, e_sp_11⟩ : ∃ z : Nat → Int32, z = (fX0_findRow pl3 sp3 be3 ti3 dr pz sl pl sp be ti m.toNatClampNeg).2.2.2.1 := ⟨_, rfl⟩
      obtain ⟨be_12, e_be_12⟩ : ∃ z : Int32, z = (fX0_findRow pl3 sp3 be3 ti3 dr pz sl pl sp be ti m.toNatClampNeg).2.2.2.2.1 := ⟨_, rfl⟩
      obtain ⟨ti_13, e_ti_13⟩ : ∃ z : Int32, z = (fX0_findRow pl3 sp3 be3 ti3 dr pz sl pl sp be ti m.toNatClampNeg).2.2.2.2.2 := ⟨_, rfl⟩
      have K_14 := ctX0_findRow l g zf za3 zp3 zq3 ztb ztd zna znp znq rs rb ou ol pl3 sp3 be3 ti3 dr pz sl tp pl sp be ti m.toNatClampNeg (by omega)
      rw [← e_rs_8, ← e_rb_9, ← e_pl_10, ← e_sp_11, ← e_be_12, ← e_ti_13] at K_14
      refine w_cV (pc := 33) [wSpn zo zx zr ztb zna zps zim zkp zf zs zk, wTol g ztb ztd dr pz sl tp, wMom g zna znp znq pl sp be ti, wFut zf za3 rs_8 rb_9 ou ol, wMom g za3 zp3 zq3 pl_10 sp_11 be_12 ti_13] C mv_X8_178 K_14 dX8_row_33 (by decide) [3, 4, 1, 2] rfl (by decide) (by simp only [List.map_cons, List.map_nil, adFut, adMom, adTol]) rfl 6 rfl rfl (Nat.le_of_ble_eq_true rfl) ⟨Nat.zero_le _, Nat.zero_le _⟩ ?_
      have po0_33 : rb_9 < 2 ^ 31 := by rw [e_rb_9]; exact findRow_rb pl3 sp3 be3 ti3 dr pz sl pl sp be ti m.toNatClampNeg
      refine r_iload_n (pc := 36) C dX8_row_36 2 rfl ?_
      refine r_ifge (pc := 37) 48 C dX8_row_37 (by decide) (fun c_15 => ?_) (fun c_15 => ?_)
      · obtain ⟨h_16, qh_16⟩ := natc (x := v) (B := 5) (by omega) (row_k (by assumption) (by rw [← e_r_4]; assumption))
        refine u_lvq [(0, .ref zo), (1, .int (nI m.toNatClampNeg)), (2, .int (nI v.toNatClampNeg))] (by rw [qh_16]) ?_
        refine r_iload_n (pc := 48) C dX8_row_48 2 rfl ?_
        refine r_iload_n (pc := 49) C dX8_row_49 1 rfl ?_
        refine r_icmpgeN (pc := 50) v.toNatClampNeg m.toNatClampNeg 72 C dX8_row_50 (by decide) rfl rfl (by omega) (by omega) (fun c_17 => ?_) (fun c_17 => ?_)
        · refine r_bipush (pc := 72) (-9) C dX8_row_72 rfl ?_
          have hf : fX8_row dr pz sl pl sp be ti rs rb pl3 sp3 be3 ti3 m v = ((-9), rs_8, rb_9, pl_10, sp_11, be_12, ti_13) := by first | (simp only [fX8_row, ← e_r_1, ← e_r_4, ← e_rs_8, ← e_rb_9, ← e_pl_10, ← e_sp_11, ← e_be_12, ← e_ti_13, if_neg c_3, if_neg c_6, if_pos c_15, if_pos c_17]; done) | (subst e_r_1 e_r_4 e_rs_8 e_rb_9 e_pl_10 e_sp_11 e_be_12 e_ti_13; simp only [fX8_row, if_neg c_3, if_neg c_6, if_pos c_15, if_pos c_17]; done) | (subst e_r_1 e_r_4 e_rs_8 e_rb_9 e_pl_10 e_sp_11 e_be_12 e_ti_13; rfl) | (subst e_r_1 e_r_4 e_rs_8 e_rb_9 e_pl_10 e_sp_11 e_be_12 e_ti_13; simp [fX8_row, if_neg c_3, if_neg c_6, if_pos c_15, if_pos c_17]; done)
          rw [hf] at hR
          exact hR _ _ dX8_row_74
        · refine r_aload_n (pc := 53) C dX8_row_53 0 rfl ?_
          refine r_get (pc := 54) C fl_X8_57 dX8_row_54 0 rfl rfl ?_
          refine r_aload_n (pc := 57) C dX8_row_57 0 rfl ?_
          refine r_get (pc := 58) C fl_X8_57 dX8_row_58 0 rfl rfl ?_
          refine r_get (pc := 61) C fl_X8_185 dX8_row_61 6 rfl rfl ?_
          refine r_iload_n (pc := 64) C dX8_row_64 1 rfl ?_
          refine r_iload_n (pc := 65) C dX8_row_65 2 rfl ?_
          obtain ⟨r_18, e_r_18⟩ : ∃ z : Int32, z = fX0_tiltOf rb_9 m.toNatClampNeg v.toNatClampNeg := ⟨_, rfl⟩
          have K_19 := ctX0_tiltOf l g zf za3 rs_8 rb_9 ou ol rb_9 m.toNatClampNeg v.toNatClampNeg (by omega) (by omega) (by omega)
          rw [← e_r_18] at K_19
          refine w_pI (pc := 66) C mv_X8_188 K_19 dX8_row_66 (by decide) [3] rfl (by decide) 6 rfl rfl (Nat.le_of_ble_eq_true rfl) ⟨Nat.zero_le _, Nat.zero_le _⟩ ?_
          refine r_goto (pc := 69) 74 C dX8_row_69 (by decide) ?_
          have hf : fX8_row dr pz sl pl sp be ti rs rb pl3 sp3 be3 ti3 m v = (r_18, rs_8, rb_9, pl_10, sp_11, be_12, ti_13) := by first | (simp only [fX8_row, ← e_r_1, ← e_r_4, ← e_rs_8, ← e_rb_9, ← e_pl_10, ← e_sp_11, ← e_be_12, ← e_ti_13, ← e_r_18, if_neg c_3, if_neg c_6, if_pos c_15, if_neg c_17]; done) | (subst e_r_1 e_r_4 e_rs_8 e_rb_9 e_pl_10 e_sp_11 e_be_12 e_ti_13 e_r_18; simp only [fX8_row, if_neg c_3, if_neg c_6, if_pos c_15, if_neg c_17]; done) | (subst e_r_1 e_r_4 e_rs_8 e_rb_9 e_pl_10 e_sp_11 e_be_12 e_ti_13 e_r_18; rfl) | (subst e_r_1 e_r_4 e_rs_8 e_rb_9 e_pl_10 e_sp_11 e_be_12 e_ti_13 e_r_18; simp [fX8_row, if_neg c_3, if_neg c_6, if_pos c_15, if_neg c_17]; done)
          rw [hf] at hR
          exact hR _ _ dX8_row_74
      · refine r_aload_n (pc := 40) C dX8_row_40 0 rfl ?_
        refine r_get (pc := 41) C fl_X8_57 dX8_row_41 0 rfl rfl ?_
        refine r_get (pc := 44) C fl_X8_182 dX8_row_44 6 rfl rfl ?_
        have hf : fX8_row dr pz sl pl sp be ti rs rb pl3 sp3 be3 ti3 m v = (rs_8, rs_8, rb_9, pl_10, sp_11, be_12, ti_13) := by first | (simp only [fX8_row, ← e_r_1, ← e_r_4, ← e_rs_8, ← e_rb_9, ← e_pl_10, ← e_sp_11, ← e_be_12, ← e_ti_13, if_neg c_3, if_neg c_6, if_neg c_15]; done) | (subst e_r_1 e_r_4 e_rs_8 e_rb_9 e_pl_10 e_sp_11 e_be_12 e_ti_13; simp only [fX8_row, if_neg c_3, if_neg c_6, if_neg c_15]; done) | (subst e_r_1 e_r_4 e_rs_8 e_rb_9 e_pl_10 e_sp_11 e_be_12 e_ti_13; rfl) | (subst e_r_1 e_r_4 e_rs_8 e_rb_9 e_pl_10 e_sp_11 e_be_12 e_ti_13; simp [fX8_row, if_neg c_3, if_neg c_6, if_neg c_15]; done)
        rw [hf] at hR
        exact hR _ _ dX8_row_47
    · refine r_iconst (pc := 18) (-1) C dX8_row_18 rfl ?_
      have hf : fX8_row dr pz sl pl sp be ti rs rb pl3 sp3 be3 ti3 m v = ((-1), rs, rb, pl3, sp3, be3, ti3) := by first | (simp only [fX8_row, ← e_r_1, ← e_r_4, if_neg c_3, if_pos c_6]; done) | (subst e_r_1 e_r_4; simp only [fX8_row, if_neg c_3, if_pos c_6]; done) | (subst e_r_1 e_r_4; rfl) | (subst e_r_1 e_r_4; simp [fX8_row, if_neg c_3, if_pos c_6]; done)
      rw [hf] at hR
      exact hR _ _ dX8_row_19
theorem ctX8_row (l : Launch) (g : Gl) (zo : Nat) (zx : Nat) (zr : Nat) (ztb : Nat) (zna : Nat) (zps : Nat) (zim : Nat) (zkp : Nat) (zf : Nat) (zs : Nat) (zk : Nat) (ztd : Nat) (znp : Nat) (znq : Nat) (za3 : Nat) (zp3 : Nat) (zq3 : Nat) (dr : Nat → Int32) (pz : Int32) (sl : Int32) (tp : Nat) (pl : Nat → Int32) (sp : Nat → Int32) (be : Int32) (ti : Int32) (rs : Int32) (rb : Nat) (ou : Int32) (ol : Int32) (pl3 : Nat → Int32) (sp3 : Nat → Int32) (be3 : Int32) (ti3 : Int32) (m : Int32) (v : Int32) : CtI l g yX8_row cX8_row 3 (some .int) 5 [.ref zo, .int m, .int v] (fl [wSpn zo zx zr ztb zna zps zim zkp zf zs zk, wTol g ztb ztd dr pz sl tp, wMom g zna znp znq pl sp be ti, wFut zf za3 rs rb ou ol, wMom g za3 zp3 zq3 pl3 sp3 be3 ti3]) ((fX8_row dr pz sl pl sp be ti rs rb pl3 sp3 be3 ti3 m v).1) (fl [wSpn zo zx zr ztb zna zps zim zkp zf zs zk, wTol g ztb ztd dr pz sl tp, wMom g zna znp znq pl sp be ti, wFut zf za3 ((fX8_row dr pz sl pl sp be ti rs rb pl3 sp3 be3 ti3 m v).2.1) ((fX8_row dr pz sl pl sp be ti rs rb pl3 sp3 be3 ti3 m v).2.2.1) ou ol, wMom g za3 zp3 zq3 ((fX8_row dr pz sl pl sp be ti rs rb pl3 sp3 be3 ti3 m v).2.2.2.1) ((fX8_row dr pz sl pl sp be ti rs rb pl3 sp3 be3 ti3 m v).2.2.2.2.1) ((fX8_row dr pz sl pl sp be ti rs rb pl3 sp3 be3 ti3 m v).2.2.2.2.2.1) ((fX8_row dr pz sl pl sp be ti rs rb pl3 sp3 be3 ti3 m v).2.2.2.2.2.2)]) := mkI .int rfl rfl [(0, .ref zo), (1, .int m), (2, .int v)] (by decide) (Nat.le_of_ble_eq_true rfl) rfl (fun X C hR => bX8_row C zo zx zr ztb zna zps zim zkp zf zs zk ztd znp znq za3 zp3 zq3 dr pz sl tp pl sp be ti rs rb ou ol pl3 sp3 be3 ti3 m v hR)

def fX8_odds (dr : Nat → Int32) (pz : Int32) (sl : Int32) (tp : Nat) (pl : Nat → Int32) (sp : Nat → Int32) (be : Int32) (ti : Int32) (ou : Int32) (ol : Int32) (pl3 : Nat → Int32) (sp3 : Nat → Int32) (be3 : Int32) (ti3 : Int32) (t : Int32) (v : Int32) (m : Int32) (w : Int32) : (Int32) × (Int32) × (Int32) × (Nat → Int32) × (Nat → Int32) × (Int32) × (Int32) := (let r_1 : Int32 := fX8_isTop tp t; if r_1 = 0 then (((-1), ou, ol, pl3, sp3, be3, ti3)) else (let r_4 : Int32 := fX8_within v 0 10; if r_4 = 0 then (((-1), ou, ol, pl3, sp3, be3, ti3)) else (let r_7 : Int32 := fX8_isAhead m; if r_7 = 0 then (((-1), ou, ol, pl3, sp3, be3, ti3)) else (let r_10 : Int32 := fX8_within w 0 1; if r_10 = 0 then (((-1), ou, ol, pl3, sp3, be3, ti3)) else (let ou_15 : Int32 := (fX0_findOdds pl3 sp3 be3 ti3 dr pz sl pl sp be ti t.toNatClampNeg v m.toNatClampNeg).1; let ol_16 : Int32 := (fX0_findOdds pl3 sp3 be3 ti3 dr pz sl pl sp be ti t.toNatClampNeg v m.toNatClampNeg).2.1; let pl_17 : Nat → Int32 := (fX0_findOdds pl3 sp3 be3 ti3 dr pz sl pl sp be ti t.toNatClampNeg v m.toNatClampNeg).2.2.1; let sp_18 : Nat → Int32 := (fX0_findOdds pl3 sp3 be3 ti3 dr pz sl pl sp be ti t.toNatClampNeg v m.toNatClampNeg).2.2.2.1; let be_19 : Int32 := (fX0_findOdds pl3 sp3 be3 ti3 dr pz sl pl sp be ti t.toNatClampNeg v m.toNatClampNeg).2.2.2.2.1; let ti_20 : Int32 := (fX0_findOdds pl3 sp3 be3 ti3 dr pz sl pl sp be ti t.toNatClampNeg v m.toNatClampNeg).2.2.2.2.2; if w = 0 then ((ou_15, ou_15, ol_16, pl_17, sp_18, be_19, ti_20)) else ((ol_16, ou_15, ol_16, pl_17, sp_18, be_19, ti_20)))))))
set_option maxHeartbeats 4000000 in
set_option maxRecDepth 100000 in
theorem bX8_odds {l : Launch} {g : Gl} {X : Cx} (C : Ok l g X RX8 cX8_odds 5 6) (zo : Nat) (zx : Nat) (zr : Nat) (ztb : Nat) (zna : Nat) (zps : Nat) (zim : Nat) (zkp : Nat) (zf : Nat) (zs : Nat) (zk : Nat) (ztd : Nat) (znp : Nat) (znq : Nat) (za3 : Nat) (zp3 : Nat) (zq3 : Nat) (dr : Nat → Int32) (pz : Int32) (sl : Int32) (tp : Nat) (pl : Nat → Int32) (sp : Nat → Int32) (be : Int32) (ti : Int32) (rs : Int32) (rb : Nat) (ou : Int32) (ol : Int32) (pl3 : Nat → Int32) (sp3 : Nat → Int32) (be3 : Int32) (ti3 : Int32) (t : Int32) (v : Int32) (m : Int32) (w : Int32) (q0 : tp ≤ 6) (hR : RetI g X cX8_odds 5 0 0 ((fX8_odds dr pz sl tp pl sp be ti ou ol pl3 sp3 be3 ti3 t v m w).1) (fl [wSpn zo zx zr ztb zna zps zim zkp zf zs zk, wTol g ztb ztd dr pz sl tp, wMom g zna znp znq pl sp be ti, wFut zf za3 rs rb ((fX8_odds dr pz sl tp pl sp be ti ou ol pl3 sp3 be3 ti3 t v m w).2.1) ((fX8_odds dr pz sl tp pl sp be ti ou ol pl3 sp3 be3 ti3 t v m w).2.2.1), wMom g za3 zp3 zq3 ((fX8_odds dr pz sl tp pl sp be ti ou ol pl3 sp3 be3 ti3 t v m w).2.2.2.1) ((fX8_odds dr pz sl tp pl sp be ti ou ol pl3 sp3 be3 ti3 t v m w).2.2.2.2.1) ((fX8_odds dr pz sl tp pl sp be ti ou ol pl3 sp3 be3 ti3 t v m w).2.2.2.2.2.1) ((fX8_odds dr pz sl tp pl sp be ti ou ol pl3 sp3 be3 ti3 t v m w).2.2.2.2.2.2)])) : Vw g X 5 0 0 (fl [wSpn zo zx zr ztb zna zps zim zkp zf zs zk, wTol g ztb ztd dr pz sl tp, wMom g zna znp znq pl sp be ti, wFut zf za3 rs rb ou ol, wMom g za3 zp3 zq3 pl3 sp3 be3 ti3]) 0 [(0, .ref zo), (1, .int t), (2, .int v), (3, .int m), (4, .int w)] [] := by
  refine r_aload_n (pc := 0) C dX8_odds_0 0 rfl ?_
  refine r_iload_n (pc := 1) C dX8_odds_1 1 rfl ?_
  obtain ⟨r_1, e_r_1⟩ : ∃ z : Int32, z = fX8_isTop tp t := ⟨_, rfl⟩
  have K_2 := ctX8_isTop l g zo zx zr ztb zna zps zim zkp zf zs zk ztd dr pz sl tp t 
  rw [← e_r_1] at K_2
  refine w_pI (pc := 2) C mv_X8_108 K_2 dX8_odds_2 (by decide) [0, 1] rfl (by decide) 0 rfl rfl (Nat.le_of_ble_eq_true rfl) ⟨Nat.zero_le _, Nat.zero_le _⟩ ?_
  refine r_ifeq (pc := 5) 35 C dX8_odds_5 (by decide) (fun c_3 => ?_) (fun c_3 => ?_)
  · refine r_iconst (pc := 35) (-1) C dX8_odds_35 rfl ?_
    have hf : fX8_odds dr pz sl tp pl sp be ti ou ol pl3 sp3 be3 ti3 t v m w = ((-1), ou, ol, pl3, sp3, be3, ti3) := by first | (simp only [fX8_odds, ← e_r_1, if_pos c_3]; done) | (subst e_r_1; simp only [fX8_odds, if_pos c_3]; done) | (subst e_r_1; rfl) | (subst e_r_1; simp [fX8_odds, if_pos c_3]; done)
    rw [hf] at hR
    exact hR _ _ dX8_odds_36
  · refine r_iload_n (pc := 8) C dX8_odds_8 2 rfl ?_
    refine r_iconst (pc := 9) 0 C dX8_odds_9 rfl ?_
    refine r_bipush (pc := 10) 10 C dX8_odds_10 rfl ?_
    obtain ⟨r_4, e_r_4⟩ : ∃ z : Int32, z = fX8_within v 0 10 := ⟨_, rfl⟩
    have K_5 := ctX8_within l g   v 0 10 
    rw [← e_r_4] at K_5
    refine x_pI (pc := 12) C ms_X8_75 K_5 dX8_odds_12 (by decide) [] rfl (by decide) rfl (Nat.le_of_ble_eq_true rfl) ⟨Nat.zero_le _, Nat.zero_le _⟩ ?_
    refine r_ifeq (pc := 15) 35 C dX8_odds_15 (by decide) (fun c_6 => ?_) (fun c_6 => ?_)
    · refine r_iconst (pc := 35) (-1) C dX8_odds_35 rfl ?_
      have hf : fX8_odds dr pz sl tp pl sp be ti ou ol pl3 sp3 be3 ti3 t v m w = ((-1), ou, ol, pl3, sp3, be3, ti3) := by first | (simp only [fX8_odds, ← e_r_1, ← e_r_4, if_neg c_3, if_pos c_6]; done) | (subst e_r_1 e_r_4; simp only [fX8_odds, if_neg c_3, if_pos c_6]; done) | (subst e_r_1 e_r_4; rfl) | (subst e_r_1 e_r_4; simp [fX8_odds, if_neg c_3, if_pos c_6]; done)
      rw [hf] at hR
      exact hR _ _ dX8_odds_36
    · refine r_iload_n (pc := 18) C dX8_odds_18 3 rfl ?_
      obtain ⟨r_7, e_r_7⟩ : ∃ z : Int32, z = fX8_isAhead m := ⟨_, rfl⟩
      have K_8 := ctX8_isAhead l g   m 
      rw [← e_r_7] at K_8
      refine x_pI (pc := 19) C ms_X8_169 K_8 dX8_odds_19 (by decide) [] rfl (by decide) rfl (Nat.le_of_ble_eq_true rfl) ⟨Nat.zero_le _, Nat.zero_le _⟩ ?_
      refine r_ifeq (pc := 22) 35 C dX8_odds_22 (by decide) (fun c_9 => ?_) (fun c_9 => ?_)
      · refine r_iconst (pc := 35) (-1) C dX8_odds_35 rfl ?_
        have hf : fX8_odds dr pz sl tp pl sp be ti ou ol pl3 sp3 be3 ti3 t v m w = ((-1), ou, ol, pl3, sp3, be3, ti3) := by first | (simp only [fX8_odds, ← e_r_1, ← e_r_4, ← e_r_7, if_neg c_3, if_neg c_6, if_pos c_9]; done) | (subst e_r_1 e_r_4 e_r_7; simp only [fX8_odds, if_neg c_3, if_neg c_6, if_pos c_9]; done) | (subst e_r_1 e_r_4 e_r_7; rfl) | (subst e_r_1 e_r_4 e_r_7; simp [fX8_odds, if_neg c_3, if_neg c_6, if_pos c_9]; done)
        rw [hf] at hR
        exact hR _ _ dX8_odds_36
      · refine r_iload (pc := 25) C dX8_odds_25 4 rfl ?_
        refine r_iconst (pc := 27) 0 C dX8_odds_27 rfl ?_
        refine r_iconst (pc := 28) 1 C dX8_odds_28 rfl ?_
        obtain ⟨r_10, e_r_10⟩ : ∃ z : Int32, z = fX8_within w 0 1 := ⟨_, rfl⟩
        have K_11 := ctX8_within l g   w 0 1 
        rw [← e_r_10] at K_11
        refine x_pI (pc := 29) C ms_X8_75 K_11 dX8_odds_29 (by decide) [] rfl (by decide) rfl (Nat.le_of_ble_eq_true rfl) ⟨Nat.zero_le _, Nat.zero_le _⟩ ?_
        refine r_ifne (pc := 32) 37 C dX8_odds_32 (by decide) (fun c_12 => ?_) (fun c_12 => ?_)
        · obtain ⟨h_13, qh_13⟩ := natc (x := t) (B := tp) (by omega) (isTop_nat (by rw [← e_r_1]; assumption))
          refine u_lvq [(0, .ref zo), (1, .int (nI t.toNatClampNeg)), (2, .int v), (3, .int m), (4, .int w)] (by rw [qh_13]) ?_
          obtain ⟨h_14, qh_14⟩ := natc (x := m) (B := 61) (by omega) (ahead_nat (by rw [← e_r_7]; assumption))
          refine u_lvq [(0, .ref zo), (1, .int (nI t.toNatClampNeg)), (2, .int v), (3, .int (nI m.toNatClampNeg)), (4, .int w)] (by rw [qh_14]) ?_
          refine r_aload_n (pc := 37) C dX8_odds_37 0 rfl ?_
          refine r_get (pc := 38) C fl_X8_57 dX8_odds_38 0 rfl rfl ?_
          refine r_aload_n (pc := 41) C dX8_odds_41 0 rfl ?_
          refine r_get (pc := 42) C fl_X8_28 dX8_odds_42 0 rfl rfl ?_
          refine r_aload_n (pc := 45) C dX8_odds_45 0 rfl ?_
          refine r_get (pc := 46) C fl_X8_35 dX8_odds_46 0 rfl rfl ?_
          refine r_iload_n (pc := 49) C dX8_odds_49 1 rfl ?_
          refine r_iload_n (pc := 50) C dX8_odds_50 2 rfl ?_
          refine r_iload_n (pc := 51) C dX8_odds_51 3 rfl ?_
          obtain ⟨ou_15, e_ou_15⟩ : ∃ z : Int32, z = (fX0_findOdds pl3 sp3 be3 ti3 dr pz sl pl sp be ti t.toNatClampNeg v m.toNatClampNeg).1 := ⟨_, rfl⟩
          obtain ⟨ol_16, e_ol_16⟩ : ∃ z : Int32, z = (fX0_findOdds pl3 sp3 be3 ti3 dr pz sl pl sp be ti t.toNatClampNeg v m.toNatClampNeg).2.1 := ⟨_, rfl⟩
          obtain ⟨pl_17, e_pl_17⟩ : ∃ z : Nat → Int32, z = (fX0_findOdds pl3 sp3 be3 ti3 dr pz sl pl sp be ti t.toNatClampNeg v m.toNatClampNeg).2.2.1 := ⟨_, rfl⟩
          obtain ⟨sp_18, e_sp_18⟩ : ∃ z : Nat → Int32, z = (fX0_findOdds pl3 sp3 be3 ti3 dr pz sl pl sp be ti t.toNatClampNeg v m.toNatClampNeg).2.2.2.1 := ⟨_, rfl⟩
          obtain ⟨be_19, e_be_19⟩ : ∃ z : Int32, z = (fX0_findOdds pl3 sp3 be3 ti3 dr pz sl pl sp be ti t.toNatClampNeg v m.toNatClampNeg).2.2.2.2.1 := ⟨_, rfl⟩
          obtain ⟨ti_20, e_ti_20⟩ : ∃ z : Int32, z = (fX0_findOdds pl3 sp3 be3 ti3 dr pz sl pl sp be ti t.toNatClampNeg v m.toNatClampNeg).2.2.2.2.2 := ⟨_, rfl⟩
          have K_21 := ctX0_findOdds l g zf za3 zp3 zq3 ztb ztd zna znp znq rs rb ou ol pl3 sp3 be3 ti3 dr pz sl tp pl sp be ti t.toNatClampNeg v m.toNatClampNeg (by omega) (by omega)
          rw [← e_ou_15, ← e_ol_16, ← e_pl_17, ← e_sp_18, ← e_be_19, ← e_ti_20] at K_21
          refine w_cV (pc := 52) [wSpn zo zx zr ztb zna zps zim zkp zf zs zk, wTol g ztb ztd dr pz sl tp, wMom g zna znp znq pl sp be ti, wFut zf za3 rs rb ou_15 ol_16, wMom g za3 zp3 zq3 pl_17 sp_18 be_19 ti_20] C mv_X8_192 K_21 dX8_odds_52 (by decide) [3, 4, 1, 2] rfl (by decide) (by simp only [List.map_cons, List.map_nil, adFut, adMom, adTol]) rfl 6 rfl rfl (Nat.le_of_ble_eq_true rfl) ⟨Nat.zero_le _, Nat.zero_le _⟩ ?_
          refine r_iload (pc := 55) C dX8_odds_55 4 rfl ?_
          refine r_ifne (pc := 57) 70 C dX8_odds_57 (by decide) (fun c_22 => ?_) (fun c_22 => ?_)
          · refine r_aload_n (pc := 70) C dX8_odds_70 0 rfl ?_
            refine r_get (pc := 71) C fl_X8_57 dX8_odds_71 0 rfl rfl ?_
            refine r_get (pc := 74) C fl_X8_199 dX8_odds_74 6 rfl rfl ?_
            have hf : fX8_odds dr pz sl tp pl sp be ti ou ol pl3 sp3 be3 ti3 t v m w = (ol_16, ou_15, ol_16, pl_17, sp_18, be_19, ti_20) := by first | (simp only [fX8_odds, ← e_r_1, ← e_r_4, ← e_r_7, ← e_r_10, ← e_ou_15, ← e_ol_16, ← e_pl_17, ← e_sp_18, ← e_be_19, ← e_ti_20, if_neg c_3, if_neg c_6, if_neg c_9, if_neg c_12, if_neg c_22]; done) | (subst e_r_1 e_r_4 e_r_7 e_r_10 e_ou_15 e_ol_16 e_pl_17 e_sp_18 e_be_19 e_ti_20; simp only [fX8_odds, if_neg c_3, if_neg c_6, if_neg c_9, if_neg c_12, if_neg c_22]; done) | (subst e_r_1 e_r_4 e_r_7 e_r_10 e_ou_15 e_ol_16 e_pl_17 e_sp_18 e_be_19 e_ti_20; rfl) | (subst e_r_1 e_r_4 e_r_7 e_r_10 e_ou_15 e_ol_16 e_pl_17 e_sp_18 e_be_19 e_ti_20; simp [fX8_odds, if_neg c_3, if_neg c_6, if_neg c_9, if_neg c_12, if_neg c_22]; done)
            rw [hf] at hR
            exact hR _ _ dX8_odds_77
          · refine r_aload_n (pc := 60) C dX8_odds_60 0 rfl ?_
            refine r_get (pc := 61) C fl_X8_57 dX8_odds_61 0 rfl rfl ?_
            refine r_get (pc := 64) C fl_X8_196 dX8_odds_64 6 rfl rfl ?_
            refine r_goto (pc := 67) 77 C dX8_odds_67 (by decide) ?_
            have hf : fX8_odds dr pz sl tp pl sp be ti ou ol pl3 sp3 be3 ti3 t v m w = (ou_15, ou_15, ol_16, pl_17, sp_18, be_19, ti_20) := by first | (simp only [fX8_odds, ← e_r_1, ← e_r_4, ← e_r_7, ← e_r_10, ← e_ou_15, ← e_ol_16, ← e_pl_17, ← e_sp_18, ← e_be_19, ← e_ti_20, if_neg c_3, if_neg c_6, if_neg c_9, if_neg c_12, if_pos c_22]; done) | (subst e_r_1 e_r_4 e_r_7 e_r_10 e_ou_15 e_ol_16 e_pl_17 e_sp_18 e_be_19 e_ti_20; simp only [fX8_odds, if_neg c_3, if_neg c_6, if_neg c_9, if_neg c_12, if_pos c_22]; done) | (subst e_r_1 e_r_4 e_r_7 e_r_10 e_ou_15 e_ol_16 e_pl_17 e_sp_18 e_be_19 e_ti_20; rfl) | (subst e_r_1 e_r_4 e_r_7 e_r_10 e_ou_15 e_ol_16 e_pl_17 e_sp_18 e_be_19 e_ti_20; simp [fX8_odds, if_neg c_3, if_neg c_6, if_neg c_9, if_neg c_12, if_pos c_22]; done)
            rw [hf] at hR
            exact hR _ _ dX8_odds_77
        · refine r_iconst (pc := 35) (-1) C dX8_odds_35 rfl ?_
          have hf : fX8_odds dr pz sl tp pl sp be ti ou ol pl3 sp3 be3 ti3 t v m w = ((-1), ou, ol, pl3, sp3, be3, ti3) := by first | (simp only [fX8_odds, ← e_r_1, ← e_r_4, ← e_r_7, ← e_r_10, if_neg c_3, if_neg c_6, if_neg c_9, if_pos c_12]; done) | (subst e_r_1 e_r_4 e_r_7 e_r_10; simp only [fX8_odds, if_neg c_3, if_neg c_6, if_neg c_9, if_pos c_12]; done) | (subst e_r_1 e_r_4 e_r_7 e_r_10; rfl) | (subst e_r_1 e_r_4 e_r_7 e_r_10; simp [fX8_odds, if_neg c_3, if_neg c_6, if_neg c_9, if_pos c_12]; done)
          rw [hf] at hR
          exact hR _ _ dX8_odds_36
theorem ctX8_odds (l : Launch) (g : Gl) (zo : Nat) (zx : Nat) (zr : Nat) (ztb : Nat) (zna : Nat) (zps : Nat) (zim : Nat) (zkp : Nat) (zf : Nat) (zs : Nat) (zk : Nat) (ztd : Nat) (znp : Nat) (znq : Nat) (za3 : Nat) (zp3 : Nat) (zq3 : Nat) (dr : Nat → Int32) (pz : Int32) (sl : Int32) (tp : Nat) (pl : Nat → Int32) (sp : Nat → Int32) (be : Int32) (ti : Int32) (rs : Int32) (rb : Nat) (ou : Int32) (ol : Int32) (pl3 : Nat → Int32) (sp3 : Nat → Int32) (be3 : Int32) (ti3 : Int32) (t : Int32) (v : Int32) (m : Int32) (w : Int32) (q0 : tp ≤ 6) : CtI l g yX8_odds cX8_odds 5 (some .int) 6 [.ref zo, .int t, .int v, .int m, .int w] (fl [wSpn zo zx zr ztb zna zps zim zkp zf zs zk, wTol g ztb ztd dr pz sl tp, wMom g zna znp znq pl sp be ti, wFut zf za3 rs rb ou ol, wMom g za3 zp3 zq3 pl3 sp3 be3 ti3]) ((fX8_odds dr pz sl tp pl sp be ti ou ol pl3 sp3 be3 ti3 t v m w).1) (fl [wSpn zo zx zr ztb zna zps zim zkp zf zs zk, wTol g ztb ztd dr pz sl tp, wMom g zna znp znq pl sp be ti, wFut zf za3 rs rb ((fX8_odds dr pz sl tp pl sp be ti ou ol pl3 sp3 be3 ti3 t v m w).2.1) ((fX8_odds dr pz sl tp pl sp be ti ou ol pl3 sp3 be3 ti3 t v m w).2.2.1), wMom g za3 zp3 zq3 ((fX8_odds dr pz sl tp pl sp be ti ou ol pl3 sp3 be3 ti3 t v m w).2.2.2.1) ((fX8_odds dr pz sl tp pl sp be ti ou ol pl3 sp3 be3 ti3 t v m w).2.2.2.2.1) ((fX8_odds dr pz sl tp pl sp be ti ou ol pl3 sp3 be3 ti3 t v m w).2.2.2.2.2.1) ((fX8_odds dr pz sl tp pl sp be ti ou ol pl3 sp3 be3 ti3 t v m w).2.2.2.2.2.2)]) := mkI .int rfl rfl [(0, .ref zo), (1, .int t), (2, .int v), (3, .int m), (4, .int w)] (by decide) (Nat.le_of_ble_eq_true rfl) rfl (fun X C hR => bX8_odds C zo zx zr ztb zna zps zim zkp zf zs zk ztd znp znq za3 zp3 zq3 dr pz sl tp pl sp be ti rs rb ou ol pl3 sp3 be3 ti3 t v m w q0 hR)

def fX8_sees (fiE : Nat → Int32) (btE : Nat → Int32) (suE : Nat → Int32) (knE : Nat) (v : Int32) (m : Int32) (w : Int32) : (Int32) × (Nat → Int32) × (Nat → Int32) × (Nat → Int32) × (Nat) := (let r_1 : Int32 := fX8_isSpin v; if r_1 = 0 then (((-1), fiE, btE, suE, knE)) else (let r_4 : Int32 := fX8_within m 1 20; if r_4 = 0 then (((-1), fiE, btE, suE, knE)) else (let r_7 : Int32 := fX8_within w 0 60; if r_7 = 0 then (((-1), fiE, btE, suE, knE)) else (let r_10 : Int32 := (fX5_add fiE btE suE knE v m w).1; let fi_11 : Nat → Int32 := (fX5_add fiE btE suE knE v m w).2.1; let bt_12 : Nat → Int32 := (fX5_add fiE btE suE knE v m w).2.2.1; let su_13 : Nat → Int32 := (fX5_add fiE btE suE knE v m w).2.2.2.1; let kn_14 : Nat := (fX5_add fiE btE suE knE v m w).2.2.2.2; if r_10 = 0 then (((-3), fi_11, bt_12, su_13, kn_14)) else (((nI kn_14), fi_11, bt_12, su_13, kn_14))))))
set_option maxHeartbeats 4000000 in
set_option maxRecDepth 100000 in
theorem bX8_sees {l : Launch} {g : Gl} {X : Cx} (C : Ok l g X RX8 cX8_sees 4 2) (zo : Nat) (zx : Nat) (zr : Nat) (ztb : Nat) (zna : Nat) (zps : Nat) (zim : Nat) (zkp : Nat) (zf : Nat) (zs : Nat) (zk : Nat) (zsa : Nat) (zsb : Nat) (zsc : Nat) (fiE : Nat → Int32) (btE : Nat → Int32) (suE : Nat → Int32) (knE : Nat) (v : Int32) (m : Int32) (w : Int32) (q0 : knE ≤ 6) (hR : RetI g X cX8_sees 4 0 0 ((fX8_sees fiE btE suE knE v m w).1) (fl [wSpn zo zx zr ztb zna zps zim zkp zf zs zk, wSee g zs zsa zsb zsc ((fX8_sees fiE btE suE knE v m w).2.1) ((fX8_sees fiE btE suE knE v m w).2.2.1) ((fX8_sees fiE btE suE knE v m w).2.2.2.1) ((fX8_sees fiE btE suE knE v m w).2.2.2.2)])) : Vw g X 4 0 0 (fl [wSpn zo zx zr ztb zna zps zim zkp zf zs zk, wSee g zs zsa zsb zsc fiE btE suE knE]) 0 [(0, .ref zo), (1, .int v), (2, .int m), (3, .int w)] [] := by
  refine r_iload_n (pc := 0) C dX8_sees_0 1 rfl ?_
  obtain ⟨r_1, e_r_1⟩ : ∃ z : Int32, z = fX8_isSpin v := ⟨_, rfl⟩
  have K_2 := ctX8_isSpin l g   v 
  rw [← e_r_1] at K_2
  refine x_pI (pc := 1) C ms_X8_202 K_2 dX8_sees_1 (by decide) [] rfl (by decide) rfl (Nat.le_of_ble_eq_true rfl) ⟨Nat.zero_le _, Nat.zero_le _⟩ ?_
  refine r_ifeq (pc := 4) 27 C dX8_sees_4 (by decide) (fun c_3 => ?_) (fun c_3 => ?_)
  · refine r_iconst (pc := 27) (-1) C dX8_sees_27 rfl ?_
    have hf : fX8_sees fiE btE suE knE v m w = ((-1), fiE, btE, suE, knE) := by first | (simp only [fX8_sees, ← e_r_1, if_pos c_3]; done) | (subst e_r_1; simp only [fX8_sees, if_pos c_3]; done) | (subst e_r_1; rfl) | (subst e_r_1; simp [fX8_sees, if_pos c_3]; done)
    rw [hf] at hR
    exact hR _ _ dX8_sees_28
  · refine r_iload_n (pc := 7) C dX8_sees_7 2 rfl ?_
    refine r_iconst (pc := 8) 1 C dX8_sees_8 rfl ?_
    refine r_bipush (pc := 9) 20 C dX8_sees_9 rfl ?_
    obtain ⟨r_4, e_r_4⟩ : ∃ z : Int32, z = fX8_within m 1 20 := ⟨_, rfl⟩
    have K_5 := ctX8_within l g   m 1 20 
    rw [← e_r_4] at K_5
    refine x_pI (pc := 11) C ms_X8_75 K_5 dX8_sees_11 (by decide) [] rfl (by decide) rfl (Nat.le_of_ble_eq_true rfl) ⟨Nat.zero_le _, Nat.zero_le _⟩ ?_
    refine r_ifeq (pc := 14) 27 C dX8_sees_14 (by decide) (fun c_6 => ?_) (fun c_6 => ?_)
    · refine r_iconst (pc := 27) (-1) C dX8_sees_27 rfl ?_
      have hf : fX8_sees fiE btE suE knE v m w = ((-1), fiE, btE, suE, knE) := by first | (simp only [fX8_sees, ← e_r_1, ← e_r_4, if_neg c_3, if_pos c_6]; done) | (subst e_r_1 e_r_4; simp only [fX8_sees, if_neg c_3, if_pos c_6]; done) | (subst e_r_1 e_r_4; rfl) | (subst e_r_1 e_r_4; simp [fX8_sees, if_neg c_3, if_pos c_6]; done)
      rw [hf] at hR
      exact hR _ _ dX8_sees_28
    · refine r_iload_n (pc := 17) C dX8_sees_17 3 rfl ?_
      refine r_iconst (pc := 18) 0 C dX8_sees_18 rfl ?_
      refine r_bipush (pc := 19) 60 C dX8_sees_19 rfl ?_
      obtain ⟨r_7, e_r_7⟩ : ∃ z : Int32, z = fX8_within w 0 60 := ⟨_, rfl⟩
      have K_8 := ctX8_within l g   w 0 60 
      rw [← e_r_7] at K_8
      refine x_pI (pc := 21) C ms_X8_75 K_8 dX8_sees_21 (by decide) [] rfl (by decide) rfl (Nat.le_of_ble_eq_true rfl) ⟨Nat.zero_le _, Nat.zero_le _⟩ ?_
      refine r_ifne (pc := 24) 29 C dX8_sees_24 (by decide) (fun c_9 => ?_) (fun c_9 => ?_)
      · refine r_aload_n (pc := 29) C dX8_sees_29 0 rfl ?_
        refine r_get (pc := 30) C fl_X8_64 dX8_sees_30 0 rfl rfl ?_
        refine r_iload_n (pc := 33) C dX8_sees_33 1 rfl ?_
        refine r_iload_n (pc := 34) C dX8_sees_34 2 rfl ?_
        refine r_iload_n (pc := 35) C dX8_sees_35 3 rfl ?_
        obtain ⟨r_10, e_r_10⟩ : ∃ z : Int32, z = (fX5_add fiE btE suE knE v m w).1 := ⟨_, rfl⟩
        obtain ⟨fi_11, e_fi_11⟩ : ∃ z : Nat → Int32, z = (fX5_add fiE btE suE knE v m w).2.1 := ⟨_, rfl⟩
        obtain ⟨bt_12, e_bt_12⟩ : ∃ z : Nat → Int32, z = (fX5_add fiE btE suE knE v m w).2.2.1 := ⟨_, rfl⟩
        obtain ⟨su_13, e_su_13⟩ : ∃ z : Nat → Int32, z = (fX5_add fiE btE suE knE v m w).2.2.2.1 := ⟨_, rfl⟩
        obtain ⟨kn_14, e_kn_14⟩ : ∃ z : Nat, z = (fX5_add fiE btE suE knE v m w).2.2.2.2 := ⟨_, rfl⟩
        have K_15 := ctX5_add l g zs zsa zsb zsc fiE btE suE knE v m w (by omega)
        rw [← e_r_10, ← e_fi_11, ← e_bt_12, ← e_su_13, ← e_kn_14] at K_15
        refine w_cI (pc := 36) [wSpn zo zx zr ztb zna zps zim zkp zf zs zk, wSee g zs zsa zsb zsc fi_11 bt_12 su_13 kn_14] C mv_X8_205 K_15 dX8_sees_36 (by decide) [1] rfl (by decide) (by simp only [List.map_cons, List.map_nil, adSee]) rfl 1 rfl rfl (Nat.le_of_ble_eq_true rfl) ⟨Nat.zero_le _, Nat.zero_le _⟩ ?_
        refine r_ifeq (pc := 39) 52 C dX8_sees_39 (by decide) (fun c_16 => ?_) (fun c_16 => ?_)
        · refine r_bipush (pc := 52) (-3) C dX8_sees_52 rfl ?_
          have hf : fX8_sees fiE btE suE knE v m w = ((-3), fi_11, bt_12, su_13, kn_14) := by first | (simp only [fX8_sees, ← e_r_1, ← e_r_4, ← e_r_7, ← e_r_10, ← e_fi_11, ← e_bt_12, ← e_su_13, ← e_kn_14, if_neg c_3, if_neg c_6, if_neg c_9, if_pos c_16]; done) | (subst e_r_1 e_r_4 e_r_7 e_r_10 e_fi_11 e_bt_12 e_su_13 e_kn_14; simp only [fX8_sees, if_neg c_3, if_neg c_6, if_neg c_9, if_pos c_16]; done) | (subst e_r_1 e_r_4 e_r_7 e_r_10 e_fi_11 e_bt_12 e_su_13 e_kn_14; rfl) | (subst e_r_1 e_r_4 e_r_7 e_r_10 e_fi_11 e_bt_12 e_su_13 e_kn_14; simp [fX8_sees, if_neg c_3, if_neg c_6, if_neg c_9, if_pos c_16]; done)
          rw [hf] at hR
          exact hR _ _ dX8_sees_54
        · refine r_aload_n (pc := 42) C dX8_sees_42 0 rfl ?_
          refine r_get (pc := 43) C fl_X8_64 dX8_sees_43 0 rfl rfl ?_
          refine r_get (pc := 46) C fl_X8_107 dX8_sees_46 1 rfl rfl ?_
          refine r_goto (pc := 49) 54 C dX8_sees_49 (by decide) ?_
          have hf : fX8_sees fiE btE suE knE v m w = ((nI kn_14), fi_11, bt_12, su_13, kn_14) := by first | (simp only [fX8_sees, ← e_r_1, ← e_r_4, ← e_r_7, ← e_r_10, ← e_fi_11, ← e_bt_12, ← e_su_13, ← e_kn_14, if_neg c_3, if_neg c_6, if_neg c_9, if_neg c_16]; done) | (subst e_r_1 e_r_4 e_r_7 e_r_10 e_fi_11 e_bt_12 e_su_13 e_kn_14; simp only [fX8_sees, if_neg c_3, if_neg c_6, if_neg c_9, if_neg c_16]; done) | (subst e_r_1 e_r_4 e_r_7 e_r_10 e_fi_11 e_bt_12 e_su_13 e_kn_14; rfl) | (subst e_r_1 e_r_4 e_r_7 e_r_10 e_fi_11 e_bt_12 e_su_13 e_kn_14; simp [fX8_sees, if_neg c_3, if_neg c_6, if_neg c_9, if_neg c_16]; done)
          rw [hf] at hR
          exact hR _ _ dX8_sees_54
      · refine r_iconst (pc := 27) (-1) C dX8_sees_27 rfl ?_
        have hf : fX8_sees fiE btE suE knE v m w = ((-1), fiE, btE, suE, knE) := by first | (simp only [fX8_sees, ← e_r_1, ← e_r_4, ← e_r_7, if_neg c_3, if_neg c_6, if_pos c_9]; done) | (subst e_r_1 e_r_4 e_r_7; simp only [fX8_sees, if_neg c_3, if_neg c_6, if_pos c_9]; done) | (subst e_r_1 e_r_4 e_r_7; rfl) | (subst e_r_1 e_r_4 e_r_7; simp [fX8_sees, if_neg c_3, if_neg c_6, if_pos c_9]; done)
        rw [hf] at hR
        exact hR _ _ dX8_sees_28
theorem ctX8_sees (l : Launch) (g : Gl) (zo : Nat) (zx : Nat) (zr : Nat) (ztb : Nat) (zna : Nat) (zps : Nat) (zim : Nat) (zkp : Nat) (zf : Nat) (zs : Nat) (zk : Nat) (zsa : Nat) (zsb : Nat) (zsc : Nat) (fiE : Nat → Int32) (btE : Nat → Int32) (suE : Nat → Int32) (knE : Nat) (v : Int32) (m : Int32) (w : Int32) (q0 : knE ≤ 6) : CtI l g yX8_sees cX8_sees 4 (some .int) 2 [.ref zo, .int v, .int m, .int w] (fl [wSpn zo zx zr ztb zna zps zim zkp zf zs zk, wSee g zs zsa zsb zsc fiE btE suE knE]) ((fX8_sees fiE btE suE knE v m w).1) (fl [wSpn zo zx zr ztb zna zps zim zkp zf zs zk, wSee g zs zsa zsb zsc ((fX8_sees fiE btE suE knE v m w).2.1) ((fX8_sees fiE btE suE knE v m w).2.2.1) ((fX8_sees fiE btE suE knE v m w).2.2.2.1) ((fX8_sees fiE btE suE knE v m w).2.2.2.2)]) := mkI .int rfl rfl [(0, .ref zo), (1, .int v), (2, .int m), (3, .int w)] (by decide) (Nat.le_of_ble_eq_true rfl) rfl (fun X C hR => bX8_sees C zo zx zr ztb zna zps zim zkp zf zs zk zsa zsb zsc fiE btE suE knE v m w q0 hR)

def fX8_forget (knE : Nat) : (Int32) × (Nat) := (((nI knE), 0))
set_option maxHeartbeats 4000000 in
set_option maxRecDepth 100000 in
theorem bX8_forget {l : Launch} {g : Gl} {X : Cx} (C : Ok l g X RX8 cX8_forget 2 0) (zo : Nat) (zx : Nat) (zr : Nat) (ztb : Nat) (zna : Nat) (zps : Nat) (zim : Nat) (zkp : Nat) (zf : Nat) (zs : Nat) (zk : Nat) (zsa : Nat) (zsb : Nat) (zsc : Nat) (fiE : Nat → Int32) (btE : Nat → Int32) (suE : Nat → Int32) (knE : Nat) (hR : RetI g X cX8_forget 2 0 0 ((fX8_forget knE).1) (fl [wSpn zo zx zr ztb zna zps zim zkp zf zs zk, wSee g zs zsa zsb zsc fiE btE suE ((fX8_forget knE).2)])) : Vw g X 2 0 0 (fl [wSpn zo zx zr ztb zna zps zim zkp zf zs zk, wSee g zs zsa zsb zsc fiE btE suE knE]) 0 [(0, .ref zo)] [] := by
  refine r_aload_n (pc := 0) C dX8_forget_0 0 rfl ?_
  refine r_get (pc := 1) C fl_X8_64 dX8_forget_1 0 rfl rfl ?_
  refine r_get (pc := 4) C fl_X8_107 dX8_forget_4 1 rfl rfl ?_
  refine r_istore_n (pc := 7) [(1, .int (nI knE)), (0, .ref zo)] C dX8_forget_7 (by decide) rfl ?_
  refine r_aload_n (pc := 8) C dX8_forget_8 1 rfl ?_
  refine r_get (pc := 9) C fl_X8_64 dX8_forget_9 0 rfl rfl ?_
  refine r_iconst (pc := 12) 0 C dX8_forget_12 rfl ?_
  refine r_put (pc := 13) (fl [wSpn zo zx zr ztb zna zps zim zkp zf zs zk, wSee g zs zsa zsb zsc fiE btE suE 0]) C fp_X8_107 dX8_forget_13 1 rfl (Nat.le_of_ble_eq_true rfl) rfl rfl rfl ?_
  refine r_iload_n (pc := 16) C dX8_forget_16 0 rfl ?_
  have hf : fX8_forget knE = ((nI knE), 0) := by first | rfl | (simp only [fX8_forget]; done) | (simp [fX8_forget]; done)
  rw [hf] at hR
  exact hR _ _ dX8_forget_17
theorem ctX8_forget (l : Launch) (g : Gl) (zo : Nat) (zx : Nat) (zr : Nat) (ztb : Nat) (zna : Nat) (zps : Nat) (zim : Nat) (zkp : Nat) (zf : Nat) (zs : Nat) (zk : Nat) (zsa : Nat) (zsb : Nat) (zsc : Nat) (fiE : Nat → Int32) (btE : Nat → Int32) (suE : Nat → Int32) (knE : Nat) : CtI l g yX8_forget cX8_forget 2 (some .int) 0 [.ref zo] (fl [wSpn zo zx zr ztb zna zps zim zkp zf zs zk, wSee g zs zsa zsb zsc fiE btE suE knE]) ((fX8_forget knE).1) (fl [wSpn zo zx zr ztb zna zps zim zkp zf zs zk, wSee g zs zsa zsb zsc fiE btE suE ((fX8_forget knE).2)]) := mkI .int rfl rfl [(0, .ref zo)] (by decide) (Nat.le_of_ble_eq_true rfl) rfl (fun X C hR => bX8_forget C zo zx zr ztb zna zps zim zkp zf zs zk zsa zsb zsc fiE btE suE knE hR)

def fX8_drags (fiE : Nat → Int32) (btE : Nat → Int32) (suE : Nat → Int32) (knE : Nat) (w : Int32) : (Int32) := (if w = 0 then (let r_4 : Int32 := fX5_howMany fiE btE suE knE; r_4) else (if w = 1 then (let r_6 : Int32 := fX5_least fiE btE suE knE; r_6) else (if w = 2 then (let r_8 : Int32 := fX5_greatest fiE btE suE knE; r_8) else ((-1)))))
set_option maxHeartbeats 4000000 in
set_option maxRecDepth 100000 in
theorem bX8_drags {l : Launch} {g : Gl} {X : Cx} (C : Ok l g X RX8 cX8_drags 2 4) (zo : Nat) (zx : Nat) (zr : Nat) (ztb : Nat) (zna : Nat) (zps : Nat) (zim : Nat) (zkp : Nat) (zf : Nat) (zs : Nat) (zk : Nat) (zsa : Nat) (zsb : Nat) (zsc : Nat) (fiE : Nat → Int32) (btE : Nat → Int32) (suE : Nat → Int32) (knE : Nat) (w : Int32) (q0 : knE ≤ 6) (hR : RetI g X cX8_drags 2 0 0 (fX8_drags fiE btE suE knE w) (fl [wSpn zo zx zr ztb zna zps zim zkp zf zs zk, wSee g zs zsa zsb zsc fiE btE suE knE])) : Vw g X 2 0 0 (fl [wSpn zo zx zr ztb zna zps zim zkp zf zs zk, wSee g zs zsa zsb zsc fiE btE suE knE]) 0 [(0, .ref zo), (1, .int w)] [] := by
  refine r_iload_n (pc := 0) C dX8_drags_0 1 rfl ?_
  by_cases c_1 : w = 0
  · refine r_tabIn (pc := 1) 0 27 28 C dX8_drags_1 c_1 (by decide) (by decide) (by decide) (by decide) ?_
    refine r_aload_n (pc := 28) C dX8_drags_28 0 rfl ?_
    refine r_get (pc := 29) C fl_X8_64 dX8_drags_29 0 rfl rfl ?_
    obtain ⟨r_4, e_r_4⟩ : ∃ z : Int32, z = fX5_howMany fiE btE suE knE := ⟨_, rfl⟩
    have K_5 := ctX5_howMany l g zs zsa zsb zsc fiE btE suE knE  (by omega)
    rw [← e_r_4] at K_5
    refine w_pI (pc := 32) C mv_X8_207 K_5 dX8_drags_32 (by decide) [1] rfl (by decide) 1 rfl rfl (Nat.le_of_ble_eq_true rfl) ⟨Nat.zero_le _, Nat.zero_le _⟩ ?_
    have hf : fX8_drags fiE btE suE knE w = r_4 := by first | (simp only [fX8_drags, ← e_r_4, if_pos c_1]; done) | (subst e_r_4; simp only [fX8_drags, if_pos c_1]; done) | (subst e_r_4; rfl) | (subst e_r_4; simp [fX8_drags, if_pos c_1]; done)
    rw [hf] at hR
    exact hR _ _ dX8_drags_35
  by_cases c_2 : w = 1
  · refine r_tabIn (pc := 1) 1 35 36 C dX8_drags_1 c_2 (by decide) (by decide) (by decide) (by decide) ?_
    refine r_aload_n (pc := 36) C dX8_drags_36 0 rfl ?_
    refine r_get (pc := 37) C fl_X8_64 dX8_drags_37 0 rfl rfl ?_
    obtain ⟨r_6, e_r_6⟩ : ∃ z : Int32, z = fX5_least fiE btE suE knE := ⟨_, rfl⟩
    have K_7 := ctX5_least l g zs zsa zsb zsc fiE btE suE knE  (by omega)
    rw [← e_r_6] at K_7
    refine w_pI (pc := 40) C mv_X8_210 K_7 dX8_drags_40 (by decide) [1] rfl (by decide) 1 rfl rfl (Nat.le_of_ble_eq_true rfl) ⟨Nat.zero_le _, Nat.zero_le _⟩ ?_
    have hf : fX8_drags fiE btE suE knE w = r_6 := by first | (simp only [fX8_drags, ← e_r_6, if_neg c_1, if_pos c_2]; done) | (subst e_r_6; simp only [fX8_drags, if_neg c_1, if_pos c_2]; done) | (subst e_r_6; rfl) | (subst e_r_6; simp [fX8_drags, if_neg c_1, if_pos c_2]; done)
    rw [hf] at hR
    exact hR _ _ dX8_drags_43
  by_cases c_3 : w = 2
  · refine r_tabIn (pc := 1) 2 43 44 C dX8_drags_1 c_3 (by decide) (by decide) (by decide) (by decide) ?_
    refine r_aload_n (pc := 44) C dX8_drags_44 0 rfl ?_
    refine r_get (pc := 45) C fl_X8_64 dX8_drags_45 0 rfl rfl ?_
    obtain ⟨r_8, e_r_8⟩ : ∃ z : Int32, z = fX5_greatest fiE btE suE knE := ⟨_, rfl⟩
    have K_9 := ctX5_greatest l g zs zsa zsb zsc fiE btE suE knE  (by omega)
    rw [← e_r_8] at K_9
    refine w_pI (pc := 48) C mv_X8_213 K_9 dX8_drags_48 (by decide) [1] rfl (by decide) 1 rfl rfl (Nat.le_of_ble_eq_true rfl) ⟨Nat.zero_le _, Nat.zero_le _⟩ ?_
    have hf : fX8_drags fiE btE suE knE w = r_8 := by first | (simp only [fX8_drags, ← e_r_8, if_neg c_1, if_neg c_2, if_pos c_3]; done) | (subst e_r_8; simp only [fX8_drags, if_neg c_1, if_neg c_2, if_pos c_3]; done) | (subst e_r_8; rfl) | (subst e_r_8; simp [fX8_drags, if_neg c_1, if_neg c_2, if_pos c_3]; done)
    rw [hf] at hR
    exact hR _ _ dX8_drags_51
  refine r_tabOut (pc := 1) 52 C dX8_drags_1 (by have t0 := lv_neT (a := 0) c_1 (by decide); have t1 := lv_neT (a := 1) c_2 (by decide); have t2 := lv_neT (a := 2) c_3 (by decide); omega) (by decide) ?_
  refine r_iconst (pc := 52) (-1) C dX8_drags_52 rfl ?_
  have hf : fX8_drags fiE btE suE knE w = (-1) := by first | (simp only [fX8_drags, if_neg c_1, if_neg c_2, if_neg c_3]; done) | rfl | (simp [fX8_drags, if_neg c_1, if_neg c_2, if_neg c_3]; done)
  rw [hf] at hR
  exact hR _ _ dX8_drags_53
theorem ctX8_drags (l : Launch) (g : Gl) (zo : Nat) (zx : Nat) (zr : Nat) (ztb : Nat) (zna : Nat) (zps : Nat) (zim : Nat) (zkp : Nat) (zf : Nat) (zs : Nat) (zk : Nat) (zsa : Nat) (zsb : Nat) (zsc : Nat) (fiE : Nat → Int32) (btE : Nat → Int32) (suE : Nat → Int32) (knE : Nat) (w : Int32) (q0 : knE ≤ 6) : CtI l g yX8_drags cX8_drags 2 (some .int) 4 [.ref zo, .int w] (fl [wSpn zo zx zr ztb zna zps zim zkp zf zs zk, wSee g zs zsa zsb zsc fiE btE suE knE]) (fX8_drags fiE btE suE knE w) (fl [wSpn zo zx zr ztb zna zps zim zkp zf zs zk, wSee g zs zsa zsb zsc fiE btE suE knE]) := mkI .int rfl rfl [(0, .ref zo), (1, .int w)] (by decide) (Nat.le_of_ble_eq_true rfl) rfl (fun X C hR => bX8_drags C zo zx zr ztb zna zps zim zkp zf zs zk zsa zsb zsc fiE btE suE knE w q0 hR)

def fX8_look (fiE : Nat → Int32) (btE : Nat → Int32) (suE : Nat → Int32) (knE : Nat) (v : Int32) : (Int32) := (let r_1 : Int32 := fX8_isSpin v; if r_1 = 0 then ((-1)) else (let r_4 : Int32 := fX5_bestWait fiE btE suE knE v; r_4))
set_option maxHeartbeats 4000000 in
set_option maxRecDepth 100000 in
theorem bX8_look {l : Launch} {g : Gl} {X : Cx} (C : Ok l g X RX8 cX8_look 2 6) (zo : Nat) (zx : Nat) (zr : Nat) (ztb : Nat) (zna : Nat) (zps : Nat) (zim : Nat) (zkp : Nat) (zf : Nat) (zs : Nat) (zk : Nat) (zsa : Nat) (zsb : Nat) (zsc : Nat) (fiE : Nat → Int32) (btE : Nat → Int32) (suE : Nat → Int32) (knE : Nat) (v : Int32) (q0 : knE ≤ 6) (hR : RetI g X cX8_look 2 0 0 (fX8_look fiE btE suE knE v) (fl [wSpn zo zx zr ztb zna zps zim zkp zf zs zk, wSee g zs zsa zsb zsc fiE btE suE knE])) : Vw g X 2 0 0 (fl [wSpn zo zx zr ztb zna zps zim zkp zf zs zk, wSee g zs zsa zsb zsc fiE btE suE knE]) 0 [(0, .ref zo), (1, .int v)] [] := by
  refine r_iload_n (pc := 0) C dX8_look_0 1 rfl ?_
  obtain ⟨r_1, e_r_1⟩ : ∃ z : Int32, z = fX8_isSpin v := ⟨_, rfl⟩
  have K_2 := ctX8_isSpin l g   v 
  rw [← e_r_1] at K_2
  refine x_pI (pc := 1) C ms_X8_202 K_2 dX8_look_1 (by decide) [] rfl (by decide) rfl (Nat.le_of_ble_eq_true rfl) ⟨Nat.zero_le _, Nat.zero_le _⟩ ?_
  refine r_ifeq (pc := 4) 18 C dX8_look_4 (by decide) (fun c_3 => ?_) (fun c_3 => ?_)
  · refine r_iconst (pc := 18) (-1) C dX8_look_18 rfl ?_
    have hf : fX8_look fiE btE suE knE v = (-1) := by first | (simp only [fX8_look, ← e_r_1, if_pos c_3]; done) | (subst e_r_1; simp only [fX8_look, if_pos c_3]; done) | (subst e_r_1; rfl) | (subst e_r_1; simp [fX8_look, if_pos c_3]; done)
    rw [hf] at hR
    exact hR _ _ dX8_look_19
  · refine r_aload_n (pc := 7) C dX8_look_7 0 rfl ?_
    refine r_get (pc := 8) C fl_X8_64 dX8_look_8 0 rfl rfl ?_
    refine r_iload_n (pc := 11) C dX8_look_11 1 rfl ?_
    obtain ⟨r_4, e_r_4⟩ : ∃ z : Int32, z = fX5_bestWait fiE btE suE knE v := ⟨_, rfl⟩
    have K_5 := ctX5_bestWait l g zs zsa zsb zsc fiE btE suE knE v (by omega)
    rw [← e_r_4] at K_5
    refine w_pI (pc := 12) C mv_X8_216 K_5 dX8_look_12 (by decide) [1] rfl (by decide) 1 rfl rfl (Nat.le_of_ble_eq_true rfl) ⟨Nat.zero_le _, Nat.zero_le _⟩ ?_
    refine r_goto (pc := 15) 19 C dX8_look_15 (by decide) ?_
    have hf : fX8_look fiE btE suE knE v = r_4 := by first | (simp only [fX8_look, ← e_r_1, ← e_r_4, if_neg c_3]; done) | (subst e_r_1 e_r_4; simp only [fX8_look, if_neg c_3]; done) | (subst e_r_1 e_r_4; rfl) | (subst e_r_1 e_r_4; simp [fX8_look, if_neg c_3]; done)
    rw [hf] at hR
    exact hR _ _ dX8_look_19
theorem ctX8_look (l : Launch) (g : Gl) (zo : Nat) (zx : Nat) (zr : Nat) (ztb : Nat) (zna : Nat) (zps : Nat) (zim : Nat) (zkp : Nat) (zf : Nat) (zs : Nat) (zk : Nat) (zsa : Nat) (zsb : Nat) (zsc : Nat) (fiE : Nat → Int32) (btE : Nat → Int32) (suE : Nat → Int32) (knE : Nat) (v : Int32) (q0 : knE ≤ 6) : CtI l g yX8_look cX8_look 2 (some .int) 6 [.ref zo, .int v] (fl [wSpn zo zx zr ztb zna zps zim zkp zf zs zk, wSee g zs zsa zsb zsc fiE btE suE knE]) (fX8_look fiE btE suE knE v) (fl [wSpn zo zx zr ztb zna zps zim zkp zf zs zk, wSee g zs zsa zsb zsc fiE btE suE knE]) := mkI .int rfl rfl [(0, .ref zo), (1, .int v)] (by decide) (Nat.le_of_ble_eq_true rfl) rfl (fun X C hR => bX8_look C zo zx zr ztb zna zps zim zkp zf zs zk zsa zsb zsc fiE btE suE knE v q0 hR)

def fX8_rate (dr : Nat → Int32) (tp : Nat) (sp : Nat → Int32) (be : Int32) (tr : Int64) (w : Int32) (t : Int32) : (Int32) × (Int64) := (let r_1 : Int32 := fX8_isTop tp t; if r_1 = 0 then (((-1000000), tr)) else (if w = 0 then (let r_11 : Int32 := (fX1_asTop tr sp t.toNatClampNeg).1; let tr_12 : Int64 := (fX1_asTop tr sp t.toNatClampNeg).2; (r_11, tr_12)) else (if w = 1 then (let r_14 : Int32 := (fX1_asPeg tr dr sp t.toNatClampNeg).1; let tr_15 : Int64 := (fX1_asPeg tr dr sp t.toNatClampNeg).2; (r_14, tr_15)) else (if w = 2 then (let r_17 : Int32 := (fX1_asHummer tr sp t.toNatClampNeg).1; let tr_18 : Int64 := (fX1_asHummer tr sp t.toNatClampNeg).2; (r_17, tr_18)) else (if w = 3 then (let r_20 : Int32 := (fX1_asWhipper tr dr sp t.toNatClampNeg).1; let tr_21 : Int64 := (fX1_asWhipper tr dr sp t.toNatClampNeg).2; (r_20, tr_21)) else (if w = 4 then (let r_23 : Int32 := (fX1_asDisc tr sp t.toNatClampNeg).1; let tr_24 : Int64 := (fX1_asDisc tr sp t.toNatClampNeg).2; (r_23, tr_24)) else (if w = 5 then (let r_26 : Int32 := (fX1_asAcorn tr sp be t.toNatClampNeg).1; let tr_27 : Int64 := (fX1_asAcorn tr sp be t.toNatClampNeg).2; (r_26, tr_27)) else (((-1000000), tr)))))))))
set_option maxHeartbeats 4000000 in
set_option maxRecDepth 100000 in
theorem bX8_rate {l : Launch} {g : Gl} {X : Cx} (C : Ok l g X RX8 cX8_rate 3 5) (zo : Nat) (zx : Nat) (zr : Nat) (ztb : Nat) (zna : Nat) (zps : Nat) (zim : Nat) (zkp : Nat) (zf : Nat) (zs : Nat) (zk : Nat) (ztd : Nat) (znp : Nat) (znq : Nat) (dr : Nat → Int32) (pz : Int32) (sl : Int32) (tp : Nat) (pl : Nat → Int32) (sp : Nat → Int32) (be : Int32) (ti : Int32) (tr : Int64) (w : Int32) (t : Int32) (q0 : tp ≤ 6) (hR : RetI g X cX8_rate 3 0 0 ((fX8_rate dr tp sp be tr w t).1) (fl [wSpn zo zx zr ztb zna zps zim zkp zf zs zk, wTol g ztb ztd dr pz sl tp, wMom g zna znp znq pl sp be ti, wKin zk ((fX8_rate dr tp sp be tr w t).2)])) : Vw g X 3 0 0 (fl [wSpn zo zx zr ztb zna zps zim zkp zf zs zk, wTol g ztb ztd dr pz sl tp, wMom g zna znp znq pl sp be ti, wKin zk tr]) 0 [(0, .ref zo), (1, .int w), (2, .int t)] [] := by
  refine r_aload_n (pc := 0) C dX8_rate_0 0 rfl ?_
  refine r_iload_n (pc := 1) C dX8_rate_1 2 rfl ?_
  obtain ⟨r_1, e_r_1⟩ : ∃ z : Int32, z = fX8_isTop tp t := ⟨_, rfl⟩
  have K_2 := ctX8_isTop l g zo zx zr ztb zna zps zim zkp zf zs zk ztd dr pz sl tp t 
  rw [← e_r_1] at K_2
  refine w_pI (pc := 2) C mv_X8_108 K_2 dX8_rate_2 (by decide) [0, 1] rfl (by decide) 0 rfl rfl (Nat.le_of_ble_eq_true rfl) ⟨Nat.zero_le _, Nat.zero_le _⟩ ?_
  refine r_ifne (pc := 5) 11 C dX8_rate_5 (by decide) (fun c_3 => ?_) (fun c_3 => ?_)
  · obtain ⟨h_4, qh_4⟩ := natc (x := t) (B := tp) (by omega) (isTop_nat (by rw [← e_r_1]; assumption))
    refine u_lvq [(0, .ref zo), (1, .int w), (2, .int (nI t.toNatClampNeg))] (by rw [qh_4]) ?_
    refine r_iload_n (pc := 11) C dX8_rate_11 1 rfl ?_
    by_cases c_5 : w = 0
    · refine r_tabIn (pc := 12) 0 40 52 C dX8_rate_12 c_5 (by decide) (by decide) (by decide) (by decide) ?_
      refine r_aload_n (pc := 52) C dX8_rate_52 0 rfl ?_
      refine r_get (pc := 53) C fl_X8_71 dX8_rate_53 0 rfl rfl ?_
      refine r_aload_n (pc := 56) C dX8_rate_56 0 rfl ?_
      refine r_get (pc := 57) C fl_X8_35 dX8_rate_57 0 rfl rfl ?_
      refine r_iload_n (pc := 60) C dX8_rate_60 2 rfl ?_
      obtain ⟨r_11, e_r_11⟩ : ∃ z : Int32, z = (fX1_asTop tr sp t.toNatClampNeg).1 := ⟨_, rfl⟩
      obtain ⟨tr_12, e_tr_12⟩ : ∃ z : Int64, z = (fX1_asTop tr sp t.toNatClampNeg).2 := ⟨_, rfl⟩
      have K_13 := ctX1_asTop l g zk zna znp znq tr pl sp be ti t.toNatClampNeg (by omega)
      rw [← e_r_11, ← e_tr_12] at K_13
      refine w_cI (pc := 61) [wSpn zo zx zr ztb zna zps zim zkp zf zs zk, wTol g ztb ztd dr pz sl tp, wMom g zna znp znq pl sp be ti, wKin zk tr_12] C mv_X8_220 K_13 dX8_rate_61 (by decide) [3, 2] rfl (by decide) (by simp only [List.map_cons, List.map_nil, adKin, adMom]) rfl 6 rfl rfl (Nat.le_of_ble_eq_true rfl) ⟨Nat.zero_le _, Nat.zero_le _⟩ ?_
      have hf : fX8_rate dr tp sp be tr w t = (r_11, tr_12) := by first | (simp only [fX8_rate, ← e_r_1, ← e_r_11, ← e_tr_12, if_neg c_3, if_pos c_5]; done) | (subst e_r_1 e_r_11 e_tr_12; simp only [fX8_rate, if_neg c_3, if_pos c_5]; done) | (subst e_r_1 e_r_11 e_tr_12; rfl) | (subst e_r_1 e_r_11 e_tr_12; simp [fX8_rate, if_neg c_3, if_pos c_5]; done)
      rw [hf] at hR
      exact hR _ _ dX8_rate_64
    by_cases c_6 : w = 1
    · refine r_tabIn (pc := 12) 1 53 65 C dX8_rate_12 c_6 (by decide) (by decide) (by decide) (by decide) ?_
      refine r_aload_n (pc := 65) C dX8_rate_65 0 rfl ?_
      refine r_get (pc := 66) C fl_X8_71 dX8_rate_66 0 rfl rfl ?_
      refine r_aload_n (pc := 69) C dX8_rate_69 0 rfl ?_
      refine r_get (pc := 70) C fl_X8_28 dX8_rate_70 0 rfl rfl ?_
      refine r_aload_n (pc := 73) C dX8_rate_73 0 rfl ?_
      refine r_get (pc := 74) C fl_X8_35 dX8_rate_74 0 rfl rfl ?_
      refine r_iload_n (pc := 77) C dX8_rate_77 2 rfl ?_
      obtain ⟨r_14, e_r_14⟩ : ∃ z : Int32, z = (fX1_asPeg tr dr sp t.toNatClampNeg).1 := ⟨_, rfl⟩
      obtain ⟨tr_15, e_tr_15⟩ : ∃ z : Int64, z = (fX1_asPeg tr dr sp t.toNatClampNeg).2 := ⟨_, rfl⟩
      have K_16 := ctX1_asPeg l g zk ztb ztd zna znp znq tr dr pz sl tp pl sp be ti t.toNatClampNeg (by omega)
      rw [← e_r_14, ← e_tr_15] at K_16
      refine w_cI (pc := 78) [wSpn zo zx zr ztb zna zps zim zkp zf zs zk, wTol g ztb ztd dr pz sl tp, wMom g zna znp znq pl sp be ti, wKin zk tr_15] C mv_X8_224 K_16 dX8_rate_78 (by decide) [3, 1, 2] rfl (by decide) (by simp only [List.map_cons, List.map_nil, adKin, adMom, adTol]) rfl 6 rfl rfl (Nat.le_of_ble_eq_true rfl) ⟨Nat.zero_le _, Nat.zero_le _⟩ ?_
      have hf : fX8_rate dr tp sp be tr w t = (r_14, tr_15) := by first | (simp only [fX8_rate, ← e_r_1, ← e_r_14, ← e_tr_15, if_neg c_3, if_neg c_5, if_pos c_6]; done) | (subst e_r_1 e_r_14 e_tr_15; simp only [fX8_rate, if_neg c_3, if_neg c_5, if_pos c_6]; done) | (subst e_r_1 e_r_14 e_tr_15; rfl) | (subst e_r_1 e_r_14 e_tr_15; simp [fX8_rate, if_neg c_3, if_neg c_5, if_pos c_6]; done)
      rw [hf] at hR
      exact hR _ _ dX8_rate_81
    by_cases c_7 : w = 2
    · refine r_tabIn (pc := 12) 2 70 82 C dX8_rate_12 c_7 (by decide) (by decide) (by decide) (by decide) ?_
      refine r_aload_n (pc := 82) C dX8_rate_82 0 rfl ?_
      refine r_get (pc := 83) C fl_X8_71 dX8_rate_83 0 rfl rfl ?_
      refine r_aload_n (pc := 86) C dX8_rate_86 0 rfl ?_
      refine r_get (pc := 87) C fl_X8_35 dX8_rate_87 0 rfl rfl ?_
      refine r_iload_n (pc := 90) C dX8_rate_90 2 rfl ?_
      obtain ⟨r_17, e_r_17⟩ : ∃ z : Int32, z = (fX1_asHummer tr sp t.toNatClampNeg).1 := ⟨_, rfl⟩
      obtain ⟨tr_18, e_tr_18⟩ : ∃ z : Int64, z = (fX1_asHummer tr sp t.toNatClampNeg).2 := ⟨_, rfl⟩
      have K_19 := ctX1_asHummer l g zk zna znp znq tr pl sp be ti t.toNatClampNeg (by omega)
      rw [← e_r_17, ← e_tr_18] at K_19
      refine w_cI (pc := 91) [wSpn zo zx zr ztb zna zps zim zkp zf zs zk, wTol g ztb ztd dr pz sl tp, wMom g zna znp znq pl sp be ti, wKin zk tr_18] C mv_X8_227 K_19 dX8_rate_91 (by decide) [3, 2] rfl (by decide) (by simp only [List.map_cons, List.map_nil, adKin, adMom]) rfl 6 rfl rfl (Nat.le_of_ble_eq_true rfl) ⟨Nat.zero_le _, Nat.zero_le _⟩ ?_
      have hf : fX8_rate dr tp sp be tr w t = (r_17, tr_18) := by first | (simp only [fX8_rate, ← e_r_1, ← e_r_17, ← e_tr_18, if_neg c_3, if_neg c_5, if_neg c_6, if_pos c_7]; done) | (subst e_r_1 e_r_17 e_tr_18; simp only [fX8_rate, if_neg c_3, if_neg c_5, if_neg c_6, if_pos c_7]; done) | (subst e_r_1 e_r_17 e_tr_18; rfl) | (subst e_r_1 e_r_17 e_tr_18; simp [fX8_rate, if_neg c_3, if_neg c_5, if_neg c_6, if_pos c_7]; done)
      rw [hf] at hR
      exact hR _ _ dX8_rate_94
    by_cases c_8 : w = 3
    · refine r_tabIn (pc := 12) 3 83 95 C dX8_rate_12 c_8 (by decide) (by decide) (by decide) (by decide) ?_
      refine r_aload_n (pc := 95) C dX8_rate_95 0 rfl ?_
      refine r_get (pc := 96) C fl_X8_71 dX8_rate_96 0 rfl rfl ?_
      refine r_aload_n (pc := 99) C dX8_rate_99 0 rfl ?_
      refine r_get (pc := 100) C fl_X8_28 dX8_rate_100 0 rfl rfl ?_
      refine r_aload_n (pc := 103) C dX8_rate_103 0 rfl ?_
      refine r_get (pc := 104) C fl_X8_35 dX8_rate_104 0 rfl rfl ?_
      refine r_iload_n (pc := 107) C dX8_rate_107 2 rfl ?_
      obtain ⟨r_20, e_r_20⟩ : ∃ z : Int32, z = (fX1_asWhipper tr dr sp t.toNatClampNeg).1 := ⟨_, rfl⟩
      obtain ⟨tr_21, e_tr_21⟩ : ∃ z : Int64, z = (fX1_asWhipper tr dr sp t.toNatClampNeg).2 := ⟨_, rfl⟩
      have K_22 := ctX1_asWhipper l g zk ztb ztd zna znp znq tr dr pz sl tp pl sp be ti t.toNatClampNeg (by omega)
      rw [← e_r_20, ← e_tr_21] at K_22
      refine w_cI (pc := 108) [wSpn zo zx zr ztb zna zps zim zkp zf zs zk, wTol g ztb ztd dr pz sl tp, wMom g zna znp znq pl sp be ti, wKin zk tr_21] C mv_X8_230 K_22 dX8_rate_108 (by decide) [3, 1, 2] rfl (by decide) (by simp only [List.map_cons, List.map_nil, adKin, adMom, adTol]) rfl 6 rfl rfl (Nat.le_of_ble_eq_true rfl) ⟨Nat.zero_le _, Nat.zero_le _⟩ ?_
      have hf : fX8_rate dr tp sp be tr w t = (r_20, tr_21) := by first | (simp only [fX8_rate, ← e_r_1, ← e_r_20, ← e_tr_21, if_neg c_3, if_neg c_5, if_neg c_6, if_neg c_7, if_pos c_8]; done) | (subst e_r_1 e_r_20 e_tr_21; simp only [fX8_rate, if_neg c_3, if_neg c_5, if_neg c_6, if_neg c_7, if_pos c_8]; done) | (subst e_r_1 e_r_20 e_tr_21; rfl) | (subst e_r_1 e_r_20 e_tr_21; simp [fX8_rate, if_neg c_3, if_neg c_5, if_neg c_6, if_neg c_7, if_pos c_8]; done)
      rw [hf] at hR
      exact hR _ _ dX8_rate_111
    by_cases c_9 : w = 4
    · refine r_tabIn (pc := 12) 4 100 112 C dX8_rate_12 c_9 (by decide) (by decide) (by decide) (by decide) ?_
      refine r_aload_n (pc := 112) C dX8_rate_112 0 rfl ?_
      refine r_get (pc := 113) C fl_X8_71 dX8_rate_113 0 rfl rfl ?_
      refine r_aload_n (pc := 116) C dX8_rate_116 0 rfl ?_
      refine r_get (pc := 117) C fl_X8_35 dX8_rate_117 0 rfl rfl ?_
      refine r_iload_n (pc := 120) C dX8_rate_120 2 rfl ?_
      obtain ⟨r_23, e_r_23⟩ : ∃ z : Int32, z = (fX1_asDisc tr sp t.toNatClampNeg).1 := ⟨_, rfl⟩
      obtain ⟨tr_24, e_tr_24⟩ : ∃ z : Int64, z = (fX1_asDisc tr sp t.toNatClampNeg).2 := ⟨_, rfl⟩
      have K_25 := ctX1_asDisc l g zk zna znp znq tr pl sp be ti t.toNatClampNeg (by omega)
      rw [← e_r_23, ← e_tr_24] at K_25
      refine w_cI (pc := 121) [wSpn zo zx zr ztb zna zps zim zkp zf zs zk, wTol g ztb ztd dr pz sl tp, wMom g zna znp znq pl sp be ti, wKin zk tr_24] C mv_X8_233 K_25 dX8_rate_121 (by decide) [3, 2] rfl (by decide) (by simp only [List.map_cons, List.map_nil, adKin, adMom]) rfl 6 rfl rfl (Nat.le_of_ble_eq_true rfl) ⟨Nat.zero_le _, Nat.zero_le _⟩ ?_
      have hf : fX8_rate dr tp sp be tr w t = (r_23, tr_24) := by first | (simp only [fX8_rate, ← e_r_1, ← e_r_23, ← e_tr_24, if_neg c_3, if_neg c_5, if_neg c_6, if_neg c_7, if_neg c_8, if_pos c_9]; done) | (subst e_r_1 e_r_23 e_tr_24; simp only [fX8_rate, if_neg c_3, if_neg c_5, if_neg c_6, if_neg c_7, if_neg c_8, if_pos c_9]; done) | (subst e_r_1 e_r_23 e_tr_24; rfl) | (subst e_r_1 e_r_23 e_tr_24; simp [fX8_rate, if_neg c_3, if_neg c_5, if_neg c_6, if_neg c_7, if_neg c_8, if_pos c_9]; done)
      rw [hf] at hR
      exact hR _ _ dX8_rate_124
    by_cases c_10 : w = 5
    · refine r_tabIn (pc := 12) 5 113 125 C dX8_rate_12 c_10 (by decide) (by decide) (by decide) (by decide) ?_
      refine r_aload_n (pc := 125) C dX8_rate_125 0 rfl ?_
      refine r_get (pc := 126) C fl_X8_71 dX8_rate_126 0 rfl rfl ?_
      refine r_aload_n (pc := 129) C dX8_rate_129 0 rfl ?_
      refine r_get (pc := 130) C fl_X8_35 dX8_rate_130 0 rfl rfl ?_
      refine r_iload_n (pc := 133) C dX8_rate_133 2 rfl ?_
      obtain ⟨r_26, e_r_26⟩ : ∃ z : Int32, z = (fX1_asAcorn tr sp be t.toNatClampNeg).1 := ⟨_, rfl⟩
      obtain ⟨tr_27, e_tr_27⟩ : ∃ z : Int64, z = (fX1_asAcorn tr sp be t.toNatClampNeg).2 := ⟨_, rfl⟩
      have K_28 := ctX1_asAcorn l g zk zna znp znq tr pl sp be ti t.toNatClampNeg (by omega)
      rw [← e_r_26, ← e_tr_27] at K_28
      refine w_cI (pc := 134) [wSpn zo zx zr ztb zna zps zim zkp zf zs zk, wTol g ztb ztd dr pz sl tp, wMom g zna znp znq pl sp be ti, wKin zk tr_27] C mv_X8_236 K_28 dX8_rate_134 (by decide) [3, 2] rfl (by decide) (by simp only [List.map_cons, List.map_nil, adKin, adMom]) rfl 6 rfl rfl (Nat.le_of_ble_eq_true rfl) ⟨Nat.zero_le _, Nat.zero_le _⟩ ?_
      have hf : fX8_rate dr tp sp be tr w t = (r_26, tr_27) := by first | (simp only [fX8_rate, ← e_r_1, ← e_r_26, ← e_tr_27, if_neg c_3, if_neg c_5, if_neg c_6, if_neg c_7, if_neg c_8, if_neg c_9, if_pos c_10]; done) | (subst e_r_1 e_r_26 e_tr_27; simp only [fX8_rate, if_neg c_3, if_neg c_5, if_neg c_6, if_neg c_7, if_neg c_8, if_neg c_9, if_pos c_10]; done) | (subst e_r_1 e_r_26 e_tr_27; rfl) | (subst e_r_1 e_r_26 e_tr_27; simp [fX8_rate, if_neg c_3, if_neg c_5, if_neg c_6, if_neg c_7, if_neg c_8, if_neg c_9, if_pos c_10]; done)
      rw [hf] at hR
      exact hR _ _ dX8_rate_137
    refine r_tabOut (pc := 12) 138 C dX8_rate_12 (by have t0 := lv_neT (a := 0) c_5 (by decide); have t1 := lv_neT (a := 1) c_6 (by decide); have t2 := lv_neT (a := 2) c_7 (by decide); have t3 := lv_neT (a := 3) c_8 (by decide); have t4 := lv_neT (a := 4) c_9 (by decide); have t5 := lv_neT (a := 5) c_10 (by decide); omega) (by decide) ?_
    refine r_ldc (pc := 138) C dX8_rate_138 kc_X8_219 ?_
    have hf : fX8_rate dr tp sp be tr w t = ((-1000000), tr) := by first | (simp only [fX8_rate, ← e_r_1, if_neg c_3, if_neg c_5, if_neg c_6, if_neg c_7, if_neg c_8, if_neg c_9, if_neg c_10]; done) | (subst e_r_1; simp only [fX8_rate, if_neg c_3, if_neg c_5, if_neg c_6, if_neg c_7, if_neg c_8, if_neg c_9, if_neg c_10]; done) | (subst e_r_1; rfl) | (subst e_r_1; simp [fX8_rate, if_neg c_3, if_neg c_5, if_neg c_6, if_neg c_7, if_neg c_8, if_neg c_9, if_neg c_10]; done)
    rw [hf] at hR
    exact hR _ _ dX8_rate_140
  · refine r_ldc (pc := 8) C dX8_rate_8 kc_X8_219 ?_
    have hf : fX8_rate dr tp sp be tr w t = ((-1000000), tr) := by first | (simp only [fX8_rate, ← e_r_1, if_pos c_3]; done) | (subst e_r_1; simp only [fX8_rate, if_pos c_3]; done) | (subst e_r_1; rfl) | (subst e_r_1; simp [fX8_rate, if_pos c_3]; done)
    rw [hf] at hR
    exact hR _ _ dX8_rate_10
theorem ctX8_rate (l : Launch) (g : Gl) (zo : Nat) (zx : Nat) (zr : Nat) (ztb : Nat) (zna : Nat) (zps : Nat) (zim : Nat) (zkp : Nat) (zf : Nat) (zs : Nat) (zk : Nat) (ztd : Nat) (znp : Nat) (znq : Nat) (dr : Nat → Int32) (pz : Int32) (sl : Int32) (tp : Nat) (pl : Nat → Int32) (sp : Nat → Int32) (be : Int32) (ti : Int32) (tr : Int64) (w : Int32) (t : Int32) (q0 : tp ≤ 6) : CtI l g yX8_rate cX8_rate 3 (some .int) 5 [.ref zo, .int w, .int t] (fl [wSpn zo zx zr ztb zna zps zim zkp zf zs zk, wTol g ztb ztd dr pz sl tp, wMom g zna znp znq pl sp be ti, wKin zk tr]) ((fX8_rate dr tp sp be tr w t).1) (fl [wSpn zo zx zr ztb zna zps zim zkp zf zs zk, wTol g ztb ztd dr pz sl tp, wMom g zna znp znq pl sp be ti, wKin zk ((fX8_rate dr tp sp be tr w t).2)]) := mkI .int rfl rfl [(0, .ref zo), (1, .int w), (2, .int t)] (by decide) (Nat.le_of_ble_eq_true rfl) rfl (fun X C hR => bX8_rate C zo zx zr ztb zna zps zim zkp zf zs zk ztd znp znq dr pz sl tp pl sp be ti tr w t q0 hR)

def fX8_count (ln : Nat) (pz : Int32) (sl : Int32) (tp : Nat) (knE : Nat) (w : Int32) : (Int32) := (if w = 0 then (pz) else (if w = 1 then ((nI tp)) else (if w = 2 then (sl) else (if w = 3 then ((nI knE)) else (if w = 4 then ((nI ln)) else ((-1)))))))
set_option maxHeartbeats 4000000 in
set_option maxRecDepth 100000 in
theorem bX8_count {l : Launch} {g : Gl} {X : Cx} (C : Ok l g X RX8 cX8_count 2 0) (zo : Nat) (zx : Nat) (zr : Nat) (ztb : Nat) (zna : Nat) (zps : Nat) (zim : Nat) (zkp : Nat) (zf : Nat) (zs : Nat) (zk : Nat) (zxa : Nat) (ztd : Nat) (zsa : Nat) (zsb : Nat) (zsc : Nat) (le : Nat → Int32) (ln : Nat) (dr : Nat → Int32) (pz : Int32) (sl : Int32) (tp : Nat) (fiE : Nat → Int32) (btE : Nat → Int32) (suE : Nat → Int32) (knE : Nat) (w : Int32) (hR : RetI g X cX8_count 2 0 0 (fX8_count ln pz sl tp knE w) (fl [wSpn zo zx zr ztb zna zps zim zkp zf zs zk, wTex g zx zxa le ln, wTol g ztb ztd dr pz sl tp, wSee g zs zsa zsb zsc fiE btE suE knE])) : Vw g X 2 0 0 (fl [wSpn zo zx zr ztb zna zps zim zkp zf zs zk, wTex g zx zxa le ln, wTol g ztb ztd dr pz sl tp, wSee g zs zsa zsb zsc fiE btE suE knE]) 0 [(0, .ref zo), (1, .int w)] [] := by
  refine r_iload_n (pc := 0) C dX8_count_0 1 rfl ?_
  by_cases c_1 : w = 0
  · refine r_tabIn (pc := 1) 0 35 36 C dX8_count_1 c_1 (by decide) (by decide) (by decide) (by decide) ?_
    refine r_aload_n (pc := 36) C dX8_count_36 0 rfl ?_
    refine r_get (pc := 37) C fl_X8_28 dX8_count_37 0 rfl rfl ?_
    refine r_get (pc := 40) C fl_X8_242 dX8_count_40 3 rfl rfl ?_
    have hf : fX8_count ln pz sl tp knE w = pz := by first | (simp only [fX8_count, if_pos c_1]; done) | rfl | (simp [fX8_count, if_pos c_1]; done)
    rw [hf] at hR
    exact hR _ _ dX8_count_43
  by_cases c_2 : w = 1
  · refine r_tabIn (pc := 1) 1 43 44 C dX8_count_1 c_2 (by decide) (by decide) (by decide) (by decide) ?_
    refine r_aload_n (pc := 44) C dX8_count_44 0 rfl ?_
    refine r_get (pc := 45) C fl_X8_28 dX8_count_45 0 rfl rfl ?_
    refine r_get (pc := 48) C fl_X8_245 dX8_count_48 3 rfl rfl ?_
    have hf : fX8_count ln pz sl tp knE w = (nI tp) := by first | (simp only [fX8_count, if_neg c_1, if_pos c_2]; done) | rfl | (simp [fX8_count, if_neg c_1, if_pos c_2]; done)
    rw [hf] at hR
    exact hR _ _ dX8_count_51
  by_cases c_3 : w = 2
  · refine r_tabIn (pc := 1) 2 51 52 C dX8_count_1 c_3 (by decide) (by decide) (by decide) (by decide) ?_
    refine r_aload_n (pc := 52) C dX8_count_52 0 rfl ?_
    refine r_get (pc := 53) C fl_X8_28 dX8_count_53 0 rfl rfl ?_
    refine r_get (pc := 56) C fl_X8_248 dX8_count_56 3 rfl rfl ?_
    have hf : fX8_count ln pz sl tp knE w = sl := by first | (simp only [fX8_count, if_neg c_1, if_neg c_2, if_pos c_3]; done) | rfl | (simp [fX8_count, if_neg c_1, if_neg c_2, if_pos c_3]; done)
    rw [hf] at hR
    exact hR _ _ dX8_count_59
  by_cases c_4 : w = 3
  · refine r_tabIn (pc := 1) 3 59 60 C dX8_count_1 c_4 (by decide) (by decide) (by decide) (by decide) ?_
    refine r_aload_n (pc := 60) C dX8_count_60 0 rfl ?_
    refine r_get (pc := 61) C fl_X8_64 dX8_count_61 0 rfl rfl ?_
    refine r_get (pc := 64) C fl_X8_107 dX8_count_64 5 rfl rfl ?_
    have hf : fX8_count ln pz sl tp knE w = (nI knE) := by first | (simp only [fX8_count, if_neg c_1, if_neg c_2, if_neg c_3, if_pos c_4]; done) | rfl | (simp [fX8_count, if_neg c_1, if_neg c_2, if_neg c_3, if_pos c_4]; done)
    rw [hf] at hR
    exact hR _ _ dX8_count_67
  by_cases c_5 : w = 4
  · refine r_tabIn (pc := 1) 4 67 68 C dX8_count_1 c_5 (by decide) (by decide) (by decide) (by decide) ?_
    refine r_aload_n (pc := 68) C dX8_count_68 0 rfl ?_
    refine r_get (pc := 69) C fl_X8_10 dX8_count_69 0 rfl rfl ?_
    refine r_get (pc := 72) C fl_X8_83 dX8_count_72 1 rfl rfl ?_
    have hf : fX8_count ln pz sl tp knE w = (nI ln) := by first | (simp only [fX8_count, if_neg c_1, if_neg c_2, if_neg c_3, if_neg c_4, if_pos c_5]; done) | rfl | (simp [fX8_count, if_neg c_1, if_neg c_2, if_neg c_3, if_neg c_4, if_pos c_5]; done)
    rw [hf] at hR
    exact hR _ _ dX8_count_75
  refine r_tabOut (pc := 1) 76 C dX8_count_1 (by have t0 := lv_neT (a := 0) c_1 (by decide); have t1 := lv_neT (a := 1) c_2 (by decide); have t2 := lv_neT (a := 2) c_3 (by decide); have t3 := lv_neT (a := 3) c_4 (by decide); have t4 := lv_neT (a := 4) c_5 (by decide); omega) (by decide) ?_
  refine r_iconst (pc := 76) (-1) C dX8_count_76 rfl ?_
  have hf : fX8_count ln pz sl tp knE w = (-1) := by first | (simp only [fX8_count, if_neg c_1, if_neg c_2, if_neg c_3, if_neg c_4, if_neg c_5]; done) | rfl | (simp [fX8_count, if_neg c_1, if_neg c_2, if_neg c_3, if_neg c_4, if_neg c_5]; done)
  rw [hf] at hR
  exact hR _ _ dX8_count_77
theorem ctX8_count (l : Launch) (g : Gl) (zo : Nat) (zx : Nat) (zr : Nat) (ztb : Nat) (zna : Nat) (zps : Nat) (zim : Nat) (zkp : Nat) (zf : Nat) (zs : Nat) (zk : Nat) (zxa : Nat) (ztd : Nat) (zsa : Nat) (zsb : Nat) (zsc : Nat) (le : Nat → Int32) (ln : Nat) (dr : Nat → Int32) (pz : Int32) (sl : Int32) (tp : Nat) (fiE : Nat → Int32) (btE : Nat → Int32) (suE : Nat → Int32) (knE : Nat) (w : Int32) : CtI l g yX8_count cX8_count 2 (some .int) 0 [.ref zo, .int w] (fl [wSpn zo zx zr ztb zna zps zim zkp zf zs zk, wTex g zx zxa le ln, wTol g ztb ztd dr pz sl tp, wSee g zs zsa zsb zsc fiE btE suE knE]) (fX8_count ln pz sl tp knE w) (fl [wSpn zo zx zr ztb zna zps zim zkp zf zs zk, wTex g zx zxa le ln, wTol g ztb ztd dr pz sl tp, wSee g zs zsa zsb zsc fiE btE suE knE]) := mkI .int rfl rfl [(0, .ref zo), (1, .int w)] (by decide) (Nat.le_of_ble_eq_true rfl) rfl (fun X C hR => bX8_count C zo zx zr ztb zna zps zim zkp zf zs zk zxa ztd zsa zsb zsc le ln dr pz sl tp fiE btE suE knE w hR)

def fX8_trace (tr : Int64) : (Int64) := (tr)
set_option maxHeartbeats 4000000 in
set_option maxRecDepth 100000 in
theorem bX8_trace {l : Launch} {g : Gl} {X : Cx} (C : Ok l g X RX8 cX8_trace 1 0) (zo : Nat) (zx : Nat) (zr : Nat) (ztb : Nat) (zna : Nat) (zps : Nat) (zim : Nat) (zkp : Nat) (zf : Nat) (zs : Nat) (zk : Nat) (tr : Int64) (hR : RetL g X cX8_trace 1 0 0 (fX8_trace tr) (fl [wSpn zo zx zr ztb zna zps zim zkp zf zs zk, wKin zk tr])) : Vw g X 1 0 0 (fl [wSpn zo zx zr ztb zna zps zim zkp zf zs zk, wKin zk tr]) 0 [(0, .ref zo)] [] := by
  refine r_aload_n (pc := 0) C dX8_trace_0 0 rfl ?_
  refine r_get (pc := 1) C fl_X8_71 dX8_trace_1 0 rfl rfl ?_
  refine r_get (pc := 4) C fl_X8_251 dX8_trace_4 1 rfl rfl ?_
  have hf : fX8_trace tr = tr := by first | rfl | (simp only [fX8_trace]; done) | (simp [fX8_trace]; done)
  rw [hf] at hR
  exact hR _ _ dX8_trace_7
theorem ctX8_trace (l : Launch) (g : Gl) (zo : Nat) (zx : Nat) (zr : Nat) (ztb : Nat) (zna : Nat) (zps : Nat) (zim : Nat) (zkp : Nat) (zf : Nat) (zs : Nat) (zk : Nat) (tr : Int64) : CtL l g yX8_trace cX8_trace 1 (some .long) 0 [.ref zo] (fl [wSpn zo zx zr ztb zna zps zim zkp zf zs zk, wKin zk tr]) (fX8_trace tr) (fl [wSpn zo zx zr ztb zna zps zim zkp zf zs zk, wKin zk tr]) := mkL [(0, .ref zo)] (by decide) (Nat.le_of_ble_eq_true rfl) rfl (fun X C hR => bX8_trace C zo zx zr ztb zna zps zim zkp zf zs zk tr hR)
