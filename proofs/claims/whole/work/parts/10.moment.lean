def fJ6_bitCount_0f7a4 (x : Int32) : (Int32) := (let y_1 : Int32 := x - (((x.toUInt32 >>> ((1 : Int32).toUInt32 &&& Int32.toUInt32 31)).toInt32) &&& 1431655765); let y_2 : Int32 := (y_1 &&& 858993459) + (((y_1.toUInt32 >>> ((2 : Int32).toUInt32 &&& Int32.toUInt32 31)).toInt32) &&& 858993459); let y_3 : Int32 := (y_2 + ((y_2.toUInt32 >>> ((4 : Int32).toUInt32 &&& Int32.toUInt32 31)).toInt32)) &&& 252645135; let y_4 : Int32 := y_3 + ((y_3.toUInt32 >>> ((8 : Int32).toUInt32 &&& Int32.toUInt32 31)).toInt32); let y_5 : Int32 := y_4 + ((y_4.toUInt32 >>> ((16 : Int32).toUInt32 &&& Int32.toUInt32 31)).toInt32); (y_5 &&& 63))
set_option maxHeartbeats 4000000 in
set_option maxRecDepth 100000 in
theorem bJ6_bitCount_0f7a4 {l : Launch} {g : Gl} {X : Cx} (C : Ok l g X RJ6 cJ6_bitCount_0f7a4 1 0) (x : Int32) (hR : RetI g X cJ6_bitCount_0f7a4 1 0 0 (fJ6_bitCount_0f7a4 x) (fl [])) : Vw g X 1 0 0 (fl []) 0 [(0, .int x)] [] := by
  refine r_iload_n (pc := 0) C dJ6_bitCount_0f7a4_0 0 rfl ?_
  refine r_iload_n (pc := 1) C dJ6_bitCount_0f7a4_1 0 rfl ?_
  refine r_iconst (pc := 2) 1 C dJ6_bitCount_0f7a4_2 rfl ?_
  refine r_iushr (pc := 3) C dJ6_bitCount_0f7a4_3 ?_
  refine r_ldcw (pc := 4) C dJ6_bitCount_0f7a4_4 kc_J6_265 ?_
  refine r_iand (pc := 7) C dJ6_bitCount_0f7a4_7 ?_
  refine r_isub (pc := 8) C dJ6_bitCount_0f7a4_8 ?_
  refine u_int (fun y_1 e_y_1 => ?_)
  refine r_istore_n (pc := 9) [(0, .int y_1)] C dJ6_bitCount_0f7a4_9 (by decide) rfl ?_
  refine r_iload_n (pc := 10) C dJ6_bitCount_0f7a4_10 0 rfl ?_
  refine r_ldcw (pc := 11) C dJ6_bitCount_0f7a4_11 kc_J6_266 ?_
  refine r_iand (pc := 14) C dJ6_bitCount_0f7a4_14 ?_
  refine r_iload_n (pc := 15) C dJ6_bitCount_0f7a4_15 0 rfl ?_
  refine r_iconst (pc := 16) 2 C dJ6_bitCount_0f7a4_16 rfl ?_
  refine r_iushr (pc := 17) C dJ6_bitCount_0f7a4_17 ?_
  refine r_ldcw (pc := 18) C dJ6_bitCount_0f7a4_18 kc_J6_266 ?_
  refine r_iand (pc := 21) C dJ6_bitCount_0f7a4_21 ?_
  refine r_iadd (pc := 22) C dJ6_bitCount_0f7a4_22 ?_
  refine u_int (fun y_2 e_y_2 => ?_)
  refine r_istore_n (pc := 23) [(0, .int y_2)] C dJ6_bitCount_0f7a4_23 (by decide) rfl ?_
  refine r_iload_n (pc := 24) C dJ6_bitCount_0f7a4_24 0 rfl ?_
  refine r_iload_n (pc := 25) C dJ6_bitCount_0f7a4_25 0 rfl ?_
  refine r_iconst (pc := 26) 4 C dJ6_bitCount_0f7a4_26 rfl ?_
  refine r_iushr (pc := 27) C dJ6_bitCount_0f7a4_27 ?_
  refine r_iadd (pc := 28) C dJ6_bitCount_0f7a4_28 ?_
  refine r_ldcw (pc := 29) C dJ6_bitCount_0f7a4_29 kc_J6_267 ?_
  refine r_iand (pc := 32) C dJ6_bitCount_0f7a4_32 ?_
  refine u_int (fun y_3 e_y_3 => ?_)
  refine r_istore_n (pc := 33) [(0, .int y_3)] C dJ6_bitCount_0f7a4_33 (by decide) rfl ?_
  refine r_iload_n (pc := 34) C dJ6_bitCount_0f7a4_34 0 rfl ?_
  refine r_iload_n (pc := 35) C dJ6_bitCount_0f7a4_35 0 rfl ?_
  refine r_bipush (pc := 36) 8 C dJ6_bitCount_0f7a4_36 rfl ?_
  refine r_iushr (pc := 38) C dJ6_bitCount_0f7a4_38 ?_
  refine r_iadd (pc := 39) C dJ6_bitCount_0f7a4_39 ?_
  refine u_int (fun y_4 e_y_4 => ?_)
  refine r_istore_n (pc := 40) [(0, .int y_4)] C dJ6_bitCount_0f7a4_40 (by decide) rfl ?_
  refine r_iload_n (pc := 41) C dJ6_bitCount_0f7a4_41 0 rfl ?_
  refine r_iload_n (pc := 42) C dJ6_bitCount_0f7a4_42 0 rfl ?_
  refine r_bipush (pc := 43) 16 C dJ6_bitCount_0f7a4_43 rfl ?_
  refine r_iushr (pc := 45) C dJ6_bitCount_0f7a4_45 ?_
  refine r_iadd (pc := 46) C dJ6_bitCount_0f7a4_46 ?_
  refine u_int (fun y_5 e_y_5 => ?_)
  refine r_istore_n (pc := 47) [(0, .int y_5)] C dJ6_bitCount_0f7a4_47 (by decide) rfl ?_
  refine r_iload_n (pc := 48) C dJ6_bitCount_0f7a4_48 0 rfl ?_
  refine r_bipush (pc := 49) 63 C dJ6_bitCount_0f7a4_49 rfl ?_
  refine r_iand (pc := 51) C dJ6_bitCount_0f7a4_51 ?_
  have hf : fJ6_bitCount_0f7a4 x = (y_5 &&& 63) := by first | (simp only [fJ6_bitCount_0f7a4, ← e_y_1, ← e_y_2, ← e_y_3, ← e_y_4, ← e_y_5]; done) | (subst e_y_1 e_y_2 e_y_3 e_y_4 e_y_5; rfl) | (subst e_y_1 e_y_2 e_y_3 e_y_4 e_y_5; simp only [fJ6_bitCount_0f7a4]; done)
  rw [hf] at hR
  exact hR _ _ dJ6_bitCount_0f7a4_52
theorem ctJ6_bitCount_0f7a4 (l : Launch) (g : Gl) (x : Int32) : CtI l g yJ6_bitCount_0f7a4 cJ6_bitCount_0f7a4 1 (some .int) 0 [.int x] (fl []) (fJ6_bitCount_0f7a4 x) (fl []) := mkI .int rfl rfl [(0, .int x)] (by decide) (Nat.le_of_ble_eq_true rfl) rfl (fun X C hR => bJ6_bitCount_0f7a4 C x hR)

def fX2_stands (sp : Nat → Int32) (t : Nat) : (Int32) := (if (sp t) ≤ 0 then (0) else (1))
set_option maxHeartbeats 4000000 in
set_option maxRecDepth 100000 in
theorem bX2_stands {l : Launch} {g : Gl} {X : Cx} (C : Ok l g X RX2 cX2_stands 2 0) (za : Nat) (zp : Nat) (zq : Nat) (pl : Nat → Int32) (sp : Nat → Int32) (be : Int32) (ti : Int32) (t : Nat) (q0 : t < 6) (hR : RetI g X cX2_stands 2 0 0 (fX2_stands sp t) (fl [wMom g za zp zq pl sp be ti])) : Vw g X 2 0 0 (fl [wMom g za zp zq pl sp be ti]) 0 [(0, .ref za), (1, .int (nI t))] [] := by
  refine r_aload_n (pc := 0) C dX2_stands_0 0 rfl ?_
  refine r_get (pc := 1) C fl_X2_15 dX2_stands_1 0 rfl rfl ?_
  refine r_iload_n (pc := 4) C dX2_stands_4 1 rfl ?_
  refine r_iald (pc := 5) t C dX2_stands_5 2 rfl rfl (by omega) (by decide) ?_
  refine r_ifle (pc := 6) 13 C dX2_stands_6 (by decide) (fun c_1 => ?_) (fun c_1 => ?_)
  · refine r_iconst (pc := 13) 0 C dX2_stands_13 rfl ?_
    have hf : fX2_stands sp t = 0 := by first | (simp only [fX2_stands, if_pos c_1]; done) | rfl | (simp [fX2_stands, if_pos c_1]; done)
    rw [hf] at hR
    exact hR _ _ dX2_stands_14
  · refine r_iconst (pc := 9) 1 C dX2_stands_9 rfl ?_
    refine r_goto (pc := 10) 14 C dX2_stands_10 (by decide) ?_
    have hf : fX2_stands sp t = 1 := by first | (simp only [fX2_stands, if_neg c_1]; done) | rfl | (simp [fX2_stands, if_neg c_1]; done)
    rw [hf] at hR
    exact hR _ _ dX2_stands_14
theorem zX2_stands (sp : Nat → Int32) (t : Nat) : fX2_stands sp t = 0 ∨ fX2_stands sp t = 1 := by unfold fX2_stands; repeat (first | split | simp)
theorem ctX2_stands (l : Launch) (g : Gl) (za : Nat) (zp : Nat) (zq : Nat) (pl : Nat → Int32) (sp : Nat → Int32) (be : Int32) (ti : Int32) (t : Nat) (q0 : t < 6) : CtI l g yX2_stands cX2_stands 2 (some .boolean) 0 [.ref za, .int (nI t)] (fl [wMom g za zp zq pl sp be ti]) (fX2_stands sp t) (fl [wMom g za zp zq pl sp be ti]) := mkI .boolean rfl (nar_b (zX2_stands sp t)) [(0, .ref za), (1, .int (nI t))] (by decide) (Nat.le_of_ble_eq_true rfl) rfl (fun X C hR => bX2_stands C za zp zq pl sp be ti t q0 hR)

def fX2_spins (pl : Nat → Int32) (sp : Nat → Int32) (t : Nat) (v : Int32) : (Nat → Int32) × (Nat → Int32) := (if v ≤ 0 then (let sp_2 : Nat → Int32 := upd sp t 0; let pl_3 : Nat → Int32 := upd pl t (-9); (pl_3, sp_2)) else (let sp_4 : Nat → Int32 := upd sp t v; (pl, sp_4)))
set_option maxHeartbeats 4000000 in
set_option maxRecDepth 100000 in
theorem bX2_spins {l : Launch} {g : Gl} {X : Cx} (C : Ok l g X RX2 cX2_spins 3 0) (za : Nat) (zp : Nat) (zq : Nat) (pl : Nat → Int32) (sp : Nat → Int32) (be : Int32) (ti : Int32) (t : Nat) (v : Int32) (q0 : t < 6) (hR : RetV g X cX2_spins 3 0 0 (fl [wMom g za zp zq ((fX2_spins pl sp t v).1) ((fX2_spins pl sp t v).2) be ti])) : Vw g X 3 0 0 (fl [wMom g za zp zq pl sp be ti]) 0 [(0, .ref za), (1, .int (nI t)), (2, .int v)] [] := by
  refine r_iload_n (pc := 0) C dX2_spins_0 2 rfl ?_
  refine r_ifle (pc := 1) 14 C dX2_spins_1 (by decide) (fun c_1 => ?_) (fun c_1 => ?_)
  · refine r_aload_n (pc := 14) C dX2_spins_14 0 rfl ?_
    refine r_get (pc := 15) C fl_X2_15 dX2_spins_15 0 rfl rfl ?_
    refine r_iload_n (pc := 18) C dX2_spins_18 1 rfl ?_
    refine r_iconst (pc := 19) 0 C dX2_spins_19 rfl ?_
    obtain ⟨sp_2, e_sp_2⟩ : ∃ z : Nat → Int32, z = upd sp t 0 := ⟨_, rfl⟩
    refine r_iast (pc := 20) t (fl [wMom g za zp zq pl sp_2 be ti]) C dX2_spins_20 2 rfl rfl (by omega) (by decide) (by rw [← e_sp_2]; rfl) ?_
    refine r_aload_n (pc := 21) C dX2_spins_21 0 rfl ?_
    refine r_get (pc := 22) C fl_X2_9 dX2_spins_22 0 rfl rfl ?_
    refine r_iload_n (pc := 25) C dX2_spins_25 1 rfl ?_
    refine r_bipush (pc := 26) (-9) C dX2_spins_26 rfl ?_
    obtain ⟨pl_3, e_pl_3⟩ : ∃ z : Nat → Int32, z = upd pl t (-9) := ⟨_, rfl⟩
    refine r_iast (pc := 28) t (fl [wMom g za zp zq pl_3 sp_2 be ti]) C dX2_spins_28 1 rfl rfl (by omega) (by decide) (by rw [← e_pl_3]; rfl) ?_
    have hf : fX2_spins pl sp t v = (pl_3, sp_2) := by first | (simp only [fX2_spins, ← e_sp_2, ← e_pl_3, if_pos c_1]; done) | (subst e_sp_2 e_pl_3; simp only [fX2_spins, if_pos c_1]; done) | (subst e_sp_2 e_pl_3; rfl) | (subst e_sp_2 e_pl_3; simp [fX2_spins, if_pos c_1]; done)
    rw [hf] at hR
    exact hR _ _ dX2_spins_29
  · refine r_aload_n (pc := 4) C dX2_spins_4 0 rfl ?_
    refine r_get (pc := 5) C fl_X2_15 dX2_spins_5 0 rfl rfl ?_
    refine r_iload_n (pc := 8) C dX2_spins_8 1 rfl ?_
    refine r_iload_n (pc := 9) C dX2_spins_9 2 rfl ?_
    obtain ⟨sp_4, e_sp_4⟩ : ∃ z : Nat → Int32, z = upd sp t v := ⟨_, rfl⟩
    refine r_iast (pc := 10) t (fl [wMom g za zp zq pl sp_4 be ti]) C dX2_spins_10 2 rfl rfl (by omega) (by decide) (by rw [← e_sp_4]; rfl) ?_
    refine r_goto (pc := 11) 29 C dX2_spins_11 (by decide) ?_
    have hf : fX2_spins pl sp t v = (pl, sp_4) := by first | (simp only [fX2_spins, ← e_sp_4, if_neg c_1]; done) | (subst e_sp_4; simp only [fX2_spins, if_neg c_1]; done) | (subst e_sp_4; rfl) | (subst e_sp_4; simp [fX2_spins, if_neg c_1]; done)
    rw [hf] at hR
    exact hR _ _ dX2_spins_29
theorem ctX2_spins (l : Launch) (g : Gl) (za : Nat) (zp : Nat) (zq : Nat) (pl : Nat → Int32) (sp : Nat → Int32) (be : Int32) (ti : Int32) (t : Nat) (v : Int32) (q0 : t < 6) : CtV l g yX2_spins cX2_spins 3 0 [.ref za, .int (nI t), .int v] (fl [wMom g za zp zq pl sp be ti]) (fl [wMom g za zp zq ((fX2_spins pl sp t v).1) ((fX2_spins pl sp t v).2) be ti]) := mkV [(0, .ref za), (1, .int (nI t)), (2, .int v)] (by decide) (Nat.le_of_ble_eq_true rfl) rfl (fun X C hR => bX2_spins C za zp zq pl sp be ti t v q0 hR)

def lX2_reset_12  : Nat → (Nat) → (Nat → Int32) → (Nat → Int32) → (Nat → Int32) × (Nat → Int32)
  | 0, x1_1, pl0_1, sp0_1 => ((pl0_1, sp0_1))
  | n + 1, x1_1, pl0_1, sp0_1 => (let pl_4 : Nat → Int32 := (fX2_spins pl0_1 sp0_1 x1_1 0).1; let sp_5 : Nat → Int32 := (fX2_spins pl0_1 sp0_1 x1_1 0).2; lX2_reset_12 n (x1_1 + 1) pl_4 sp_5)
def fX2_reset (pl : Nat → Int32) (sp : Nat → Int32) : (Nat → Int32) × (Nat → Int32) × (Int32) × (Int32) := (let o1 := lX2_reset_12 6 0 pl sp; let pl0_7 : Nat → Int32 := o1.1; let sp0_8 : Nat → Int32 := o1.2; (pl0_7, sp0_8, 0, 0))
set_option maxHeartbeats 4000000 in
set_option maxRecDepth 100000 in
theorem bX2_reset {l : Launch} {g : Gl} {X : Cx} (C : Ok l g X RX2 cX2_reset 2 1) (za : Nat) (zp : Nat) (zq : Nat) (pl : Nat → Int32) (sp : Nat → Int32) (be : Int32) (ti : Int32) (hR : RetV g X cX2_reset 2 0 0 (fl [wMom g za zp zq ((fX2_reset pl sp).1) ((fX2_reset pl sp).2.1) ((fX2_reset pl sp).2.2.1) ((fX2_reset pl sp).2.2.2)])) : Vw g X 2 0 0 (fl [wMom g za zp zq pl sp be ti]) 0 [(0, .ref za)] [] := by
  refine r_aload_n (pc := 0) C dX2_reset_0 0 rfl ?_
  refine r_iconst (pc := 1) 0 C dX2_reset_1 rfl ?_
  refine r_put (pc := 2) (fl [wMom g za zp zq pl sp 0 ti]) C fp_X2_18 dX2_reset_2 0 rfl (Nat.le_of_ble_eq_true rfl) rfl rfl rfl ?_
  refine r_aload_n (pc := 5) C dX2_reset_5 0 rfl ?_
  refine r_iconst (pc := 6) 0 C dX2_reset_6 rfl ?_
  refine r_put (pc := 7) (fl [wMom g za zp zq pl sp 0 0]) C fp_X2_22 dX2_reset_7 0 rfl (Nat.le_of_ble_eq_true rfl) rfl rfl rfl ?_
  refine r_iconst (pc := 10) 0 C dX2_reset_10 rfl ?_
  refine r_istore_n (pc := 11) [(1, .int 0), (0, .ref za)] C dX2_reset_11 (by decide) rfl ?_
  have hX1 : ∀ (pl0_7 : Nat → Int32) (sp0_8 : Nat → Int32) , (pl0_7 = (lX2_reset_12 6 0 pl sp).1) → (sp0_8 = (lX2_reset_12 6 0 pl sp).2) → Vw g X 2 0 0 (fl [wMom g za zp zq pl0_7 sp0_8 0 0]) 30 [] [] := by
    intro pl0_7 sp0_8 e_pl0_7 e_sp0_8 
    have hf : fX2_reset pl sp = (pl0_7, sp0_8, 0, 0) := by first | (simp only [fX2_reset, ← e_pl0_7, ← e_sp0_8]; done) | (subst e_pl0_7 e_sp0_8; rfl) | (subst e_pl0_7 e_sp0_8; simp only [fX2_reset]; done)
    rw [hf] at hR
    exact hR _ _ dX2_reset_30
  have hL1 : ∀ (n : Nat) (x1_1 : Nat) (pl0_1 : Nat → Int32) (sp0_1 : Nat → Int32) , (x1_1 + n = 6) → lX2_reset_12 n x1_1 pl0_1 sp0_1 = lX2_reset_12 6 0 pl sp → Vw g X 2 0 0 (fl [wMom g za zp zq pl0_1 sp0_1 0 0]) 12 [(0, .ref za), (1, .int (nI x1_1))] [] := by
    intro n
    induction n with
    | zero =>
      intro x1_1 pl0_1 sp0_1 hr1 hV1
      refine r_iload_n (pc := 12) C dX2_reset_12 1 rfl ?_
      refine r_bipush (pc := 13) 6 C dX2_reset_13 rfl ?_
      refine r_icmpgeN (pc := 15) x1_1 6 30 C dX2_reset_15 (by decide) rfl rfl (by omega) (by omega) (fun _ => ?_) (fun c_2 => absurd (by omega) c_2)
      refine u_lv [] [] rfl ?_
      exact hX1 _ _ (by rw [← hV1]; first | rfl | (simp only [lX2_reset_12]; done) | (simp [lX2_reset_12]; done)) (by rw [← hV1]; first | rfl | (simp only [lX2_reset_12]; done) | (simp [lX2_reset_12]; done))
    | succ n ih =>
      intro x1_1 pl0_1 sp0_1 hr1 hV1
      refine r_iload_n (pc := 12) C dX2_reset_12 1 rfl ?_
      refine r_bipush (pc := 13) 6 C dX2_reset_13 rfl ?_
      refine r_icmpgeN (pc := 15) x1_1 6 30 C dX2_reset_15 (by decide) rfl rfl (by omega) (by omega) (fun c_3 => absurd c_3 (by omega)) (fun _ => ?_)
      refine r_aload_n (pc := 18) C dX2_reset_18 0 rfl ?_
      refine r_iload_n (pc := 19) C dX2_reset_19 1 rfl ?_
      refine r_iconst (pc := 20) 0 C dX2_reset_20 rfl ?_
      obtain ⟨pl_4, e_pl_4⟩ : ∃ z : Nat → Int32, z = (fX2_spins pl0_1 sp0_1 x1_1 0).1 := ⟨_, rfl⟩
      obtain ⟨sp_5, e_sp_5⟩ : ∃ z : Nat → Int32, z = (fX2_spins pl0_1 sp0_1 x1_1 0).2 := ⟨_, rfl⟩
      have K_6 := ctX2_spins l g za zp zq pl0_1 sp0_1 0 0 x1_1 0 (by omega)
      rw [← e_pl_4, ← e_sp_5] at K_6
      refine w_cV (pc := 21) [wMom g za zp zq pl_4 sp_5 0 0] C mv_X2_28 K_6 dX2_reset_21 (by decide) [0] rfl (by decide) (by simp only [List.map_cons, List.map_nil, adMom]) rfl 0 rfl rfl (Nat.le_of_ble_eq_true rfl) ⟨Nat.zero_le _, Nat.zero_le _⟩ ?_
      refine r_iinc (pc := 24) (nI (x1_1 + 1)) [(1, .int (nI (x1_1 + 1))), (0, .ref za)] C dX2_reset_24 1 rfl (inc1 _) (by decide) rfl ?_
      refine r_goto (pc := 27) 12 C dX2_reset_27 (by decide) ?_
      refine u_lv [(0, .ref za), (1, .int (nI (x1_1 + 1)))] [1, 0] rfl ?_
      exact ih (x1_1 + 1) pl_4 sp_5 (by omega) (by rw [← hV1]; first | (simp only [lX2_reset_12, ← e_pl_4, ← e_sp_5]; done) | (subst e_pl_4 e_sp_5; rfl) | (subst e_pl_4 e_sp_5; simp only [lX2_reset_12]; done))
  refine u_lv [(0, .ref za), (1, .int 0)] [1, 0] rfl ?_
  exact hL1 6 0 pl sp (by omega) rfl
theorem ctX2_reset (l : Launch) (g : Gl) (za : Nat) (zp : Nat) (zq : Nat) (pl : Nat → Int32) (sp : Nat → Int32) (be : Int32) (ti : Int32) : CtV l g yX2_reset cX2_reset 2 1 [.ref za] (fl [wMom g za zp zq pl sp be ti]) (fl [wMom g za zp zq ((fX2_reset pl sp).1) ((fX2_reset pl sp).2.1) ((fX2_reset pl sp).2.2.1) ((fX2_reset pl sp).2.2.2)]) := mkV [(0, .ref za)] (by decide) (Nat.le_of_ble_eq_true rfl) rfl (fun X C hR => bX2_reset C za zp zq pl sp be ti hR)

def fX2_copy (pl : Nat → Int32) (sp : Nat → Int32) (pl2 : Nat → Int32) (sp2 : Nat → Int32) (be2 : Int32) (ti2 : Int32) : (Nat → Int32) × (Nat → Int32) × (Int32) × (Int32) := (let pl_1 : Nat → Int32 := va_cpy pl2 pl 0 0 6; let sp_2 : Nat → Int32 := va_cpy sp2 sp 0 0 6; (pl_1, sp_2, be2, ti2))
set_option maxHeartbeats 4000000 in
set_option maxRecDepth 100000 in
theorem bX2_copy {l : Launch} {g : Gl} {X : Cx} (C : Ok l g X RX2 cX2_copy 2 1) (za : Nat) (zp : Nat) (zq : Nat) (za2 : Nat) (zp2 : Nat) (zq2 : Nat) (pl : Nat → Int32) (sp : Nat → Int32) (be : Int32) (ti : Int32) (pl2 : Nat → Int32) (sp2 : Nat → Int32) (be2 : Int32) (ti2 : Int32) (hR : RetV g X cX2_copy 2 0 0 (fl [wMom g za zp zq ((fX2_copy pl sp pl2 sp2 be2 ti2).1) ((fX2_copy pl sp pl2 sp2 be2 ti2).2.1) ((fX2_copy pl sp pl2 sp2 be2 ti2).2.2.1) ((fX2_copy pl sp pl2 sp2 be2 ti2).2.2.2), wMom g za2 zp2 zq2 pl2 sp2 be2 ti2])) : Vw g X 2 0 0 (fl [wMom g za zp zq pl sp be ti, wMom g za2 zp2 zq2 pl2 sp2 be2 ti2]) 0 [(0, .ref za), (1, .ref za2)] [] := by
  refine r_aload_n (pc := 0) C dX2_copy_0 0 rfl ?_
  refine r_aload_n (pc := 1) C dX2_copy_1 1 rfl ?_
  refine r_get (pc := 2) C fl_X2_18 dX2_copy_2 3 rfl rfl ?_
  refine r_put (pc := 5) (fl [wMom g za zp zq pl sp be2 ti, wMom g za2 zp2 zq2 pl2 sp2 be2 ti2]) C fp_X2_18 dX2_copy_5 0 rfl (Nat.le_of_ble_eq_true rfl) rfl rfl rfl ?_
  refine r_aload_n (pc := 8) C dX2_copy_8 0 rfl ?_
  refine r_aload_n (pc := 9) C dX2_copy_9 1 rfl ?_
  refine r_get (pc := 10) C fl_X2_22 dX2_copy_10 3 rfl rfl ?_
  refine r_put (pc := 13) (fl [wMom g za zp zq pl sp be2 ti2, wMom g za2 zp2 zq2 pl2 sp2 be2 ti2]) C fp_X2_22 dX2_copy_13 0 rfl (Nat.le_of_ble_eq_true rfl) rfl rfl rfl ?_
  refine r_aload_n (pc := 16) C dX2_copy_16 1 rfl ?_
  refine r_get (pc := 17) C fl_X2_9 dX2_copy_17 3 rfl rfl ?_
  refine r_iconst (pc := 20) 0 C dX2_copy_20 rfl ?_
  refine r_aload_n (pc := 21) C dX2_copy_21 0 rfl ?_
  refine r_get (pc := 22) C fl_X2_9 dX2_copy_22 0 rfl rfl ?_
  refine r_iconst (pc := 25) 0 C dX2_copy_25 rfl ?_
  refine r_bipush (pc := 26) 6 C dX2_copy_26 rfl ?_
  obtain ⟨pl_1, e_pl_1⟩ : ∃ z : Nat → Int32, z = va_cpy pl2 pl 0 0 6 := ⟨_, rfl⟩
  refine r_copyi (pc := 28) 6 (fl [wMom g za zp zq pl_1 sp be2 ti2, wMom g za2 zp2 zq2 pl2 sp2 be2 ti2]) C dX2_copy_28 ac_X2_32 sna sst siz (by decide) 4 1 rfl rfl rfl rfl rfl (by decide) (by decide) (by decide) (Nat.le_of_ble_eq_true rfl) (by rw [← e_pl_1]; rfl) ?_
  refine r_aload_n (pc := 31) C dX2_copy_31 1 rfl ?_
  refine r_get (pc := 32) C fl_X2_15 dX2_copy_32 3 rfl rfl ?_
  refine r_iconst (pc := 35) 0 C dX2_copy_35 rfl ?_
  refine r_aload_n (pc := 36) C dX2_copy_36 0 rfl ?_
  refine r_get (pc := 37) C fl_X2_15 dX2_copy_37 0 rfl rfl ?_
  refine r_iconst (pc := 40) 0 C dX2_copy_40 rfl ?_
  refine r_bipush (pc := 41) 6 C dX2_copy_41 rfl ?_
  obtain ⟨sp_2, e_sp_2⟩ : ∃ z : Nat → Int32, z = va_cpy sp2 sp 0 0 6 := ⟨_, rfl⟩
  refine r_copyi (pc := 43) 6 (fl [wMom g za zp zq pl_1 sp_2 be2 ti2, wMom g za2 zp2 zq2 pl2 sp2 be2 ti2]) C dX2_copy_43 ac_X2_32 sna sst siz (by decide) 5 2 rfl rfl rfl rfl rfl (by decide) (by decide) (by decide) (Nat.le_of_ble_eq_true rfl) (by rw [← e_sp_2]; rfl) ?_
  have hf : fX2_copy pl sp pl2 sp2 be2 ti2 = (pl_1, sp_2, be2, ti2) := by first | (simp only [fX2_copy, ← e_pl_1, ← e_sp_2]; done) | (subst e_pl_1 e_sp_2; rfl) | (subst e_pl_1 e_sp_2; simp only [fX2_copy]; done)
  rw [hf] at hR
  exact hR _ _ dX2_copy_46
theorem ctX2_copy (l : Launch) (g : Gl) (za : Nat) (zp : Nat) (zq : Nat) (za2 : Nat) (zp2 : Nat) (zq2 : Nat) (pl : Nat → Int32) (sp : Nat → Int32) (be : Int32) (ti : Int32) (pl2 : Nat → Int32) (sp2 : Nat → Int32) (be2 : Int32) (ti2 : Int32) : CtV l g yX2_copy cX2_copy 2 1 [.ref za, .ref za2] (fl [wMom g za zp zq pl sp be ti, wMom g za2 zp2 zq2 pl2 sp2 be2 ti2]) (fl [wMom g za zp zq ((fX2_copy pl sp pl2 sp2 be2 ti2).1) ((fX2_copy pl sp pl2 sp2 be2 ti2).2.1) ((fX2_copy pl sp pl2 sp2 be2 ti2).2.2.1) ((fX2_copy pl sp pl2 sp2 be2 ti2).2.2.2), wMom g za2 zp2 zq2 pl2 sp2 be2 ti2]) := mkV [(0, .ref za), (1, .ref za2)] (by decide) (Nat.le_of_ble_eq_true rfl) rfl (fun X C hR => bX2_copy C za zp zq za2 zp2 zq2 pl sp be ti pl2 sp2 be2 ti2 hR)

def lX2_who_2 (sp : Nat → Int32) (pl : Nat → Int32) (w : Int32) : Nat → (Nat) → (Int32)
  | 0, x2_1 => ((-9))
  | n + 1, x2_1 => (let r_4 : Int32 := fX2_stands sp x2_1; if r_4 = 0 then (lX2_who_2 sp pl w n (x2_1 + 1)) else (if (pl x2_1) = w then ((nI x2_1)) else (lX2_who_2 sp pl w n (x2_1 + 1))))
def fX2_who (pl : Nat → Int32) (sp : Nat → Int32) (w : Int32) : (Int32) := (lX2_who_2 sp pl w 6 0)
set_option maxHeartbeats 4000000 in
set_option maxRecDepth 100000 in
theorem bX2_who {l : Launch} {g : Gl} {X : Cx} (C : Ok l g X RX2 cX2_who 3 1) (za : Nat) (zp : Nat) (zq : Nat) (pl : Nat → Int32) (sp : Nat → Int32) (be : Int32) (ti : Int32) (w : Int32) (hR : RetI g X cX2_who 3 0 0 (fX2_who pl sp w) (fl [wMom g za zp zq pl sp be ti])) : Vw g X 3 0 0 (fl [wMom g za zp zq pl sp be ti]) 0 [(0, .ref za), (1, .int w)] [] := by
  refine r_iconst (pc := 0) 0 C dX2_who_0 rfl ?_
  refine r_istore_n (pc := 1) [(2, .int 0), (0, .ref za), (1, .int w)] C dX2_who_1 (by decide) rfl ?_
  have hF1 : fX2_who pl sp w = lX2_who_2 sp pl w 6 0 := by first | rfl | (simp only [fX2_who]; done) | (simp [fX2_who]; done)
  have hL1 : ∀ (n : Nat) (x2_1 : Nat) , (x2_1 + n = 6) → lX2_who_2 sp pl w n x2_1 = lX2_who_2 sp pl w 6 0 → Vw g X 3 0 0 (fl [wMom g za zp zq pl sp be ti]) 2 [(0, .ref za), (1, .int w), (2, .int (nI x2_1))] [] := by
    intro n
    induction n with
    | zero =>
      intro x2_1 hr1 hV1
      refine r_iload_n (pc := 2) C dX2_who_2 2 rfl ?_
      refine r_bipush (pc := 3) 6 C dX2_who_3 rfl ?_
      refine r_icmpgeN (pc := 5) x2_1 6 34 C dX2_who_5 (by decide) rfl rfl (by omega) (by omega) (fun _ => ?_) (fun c_2 => absurd (by omega) c_2)
      refine r_bipush (pc := 34) (-9) C dX2_who_34 rfl ?_
      have hf : fX2_who pl sp w = (-9) := hF1.trans (hV1.symm.trans (by first | rfl | (simp only [lX2_who_2]; done) | (simp [lX2_who_2]; done)))
      rw [hf] at hR
      exact hR _ _ dX2_who_36
    | succ n ih =>
      intro x2_1 hr1 hV1
      refine r_iload_n (pc := 2) C dX2_who_2 2 rfl ?_
      refine r_bipush (pc := 3) 6 C dX2_who_3 rfl ?_
      refine r_icmpgeN (pc := 5) x2_1 6 34 C dX2_who_5 (by decide) rfl rfl (by omega) (by omega) (fun c_3 => absurd c_3 (by omega)) (fun _ => ?_)
      refine r_aload_n (pc := 8) C dX2_who_8 0 rfl ?_
      refine r_iload_n (pc := 9) C dX2_who_9 2 rfl ?_
      obtain ⟨r_4, e_r_4⟩ : ∃ z : Int32, z = fX2_stands sp x2_1 := ⟨_, rfl⟩
      have K_5 := ctX2_stands l g za zp zq pl sp be ti x2_1 (by omega)
      rw [← e_r_4] at K_5
      refine w_pI (pc := 10) C mv_X2_38 K_5 dX2_who_10 (by decide) [0] rfl (by decide) 0 rfl rfl (Nat.le_of_ble_eq_true rfl) ⟨Nat.zero_le _, Nat.zero_le _⟩ ?_
      refine r_ifeq (pc := 13) 28 C dX2_who_13 (by decide) (fun c_6 => ?_) (fun c_6 => ?_)
      · refine r_iinc (pc := 28) (nI (x2_1 + 1)) [(2, .int (nI (x2_1 + 1))), (0, .ref za), (1, .int w)] C dX2_who_28 2 rfl (inc1 _) (by decide) rfl ?_
        refine r_goto (pc := 31) 2 C dX2_who_31 (by decide) ?_
        refine u_lv [(0, .ref za), (1, .int w), (2, .int (nI (x2_1 + 1)))] [1, 2, 0] rfl ?_
        exact ih (x2_1 + 1) (by omega) (by rw [← hV1]; first | (simp only [lX2_who_2, ← e_r_4, if_pos c_6]; done) | (subst e_r_4; simp only [lX2_who_2, if_pos c_6]; done) | (subst e_r_4; rfl) | (subst e_r_4; simp [lX2_who_2, if_pos c_6]; done))
      · refine r_aload_n (pc := 16) C dX2_who_16 0 rfl ?_
        refine r_get (pc := 17) C fl_X2_9 dX2_who_17 0 rfl rfl ?_
        refine r_iload_n (pc := 20) C dX2_who_20 2 rfl ?_
        refine r_iald (pc := 21) x2_1 C dX2_who_21 1 rfl rfl (by omega) (by decide) ?_
        refine r_iload_n (pc := 22) C dX2_who_22 1 rfl ?_
        refine r_icmpne (pc := 23) 28 C dX2_who_23 (by decide) (fun c_7 => ?_) (fun c_7 => ?_)
        · refine r_iinc (pc := 28) (nI (x2_1 + 1)) [(2, .int (nI (x2_1 + 1))), (0, .ref za), (1, .int w)] C dX2_who_28 2 rfl (inc1 _) (by decide) rfl ?_
          refine r_goto (pc := 31) 2 C dX2_who_31 (by decide) ?_
          refine u_lv [(0, .ref za), (1, .int w), (2, .int (nI (x2_1 + 1)))] [1, 2, 0] rfl ?_
          exact ih (x2_1 + 1) (by omega) (by rw [← hV1]; first | (simp only [lX2_who_2, ← e_r_4, if_neg c_6, if_neg c_7]; done) | (subst e_r_4; simp only [lX2_who_2, if_neg c_6, if_neg c_7]; done) | (subst e_r_4; rfl) | (subst e_r_4; simp [lX2_who_2, if_neg c_6, if_neg c_7]; done))
        · refine r_iload_n (pc := 26) C dX2_who_26 2 rfl ?_
          have hf : fX2_who pl sp w = (nI x2_1) := hF1.trans (hV1.symm.trans (by first | (simp only [lX2_who_2, ← e_r_4, if_neg c_6, if_pos c_7]; done) | (subst e_r_4; simp only [lX2_who_2, if_neg c_6, if_pos c_7]; done) | (subst e_r_4; rfl) | (subst e_r_4; simp [lX2_who_2, if_neg c_6, if_pos c_7]; done)))
          rw [hf] at hR
          exact hR _ _ dX2_who_27
  refine u_lv [(0, .ref za), (1, .int w), (2, .int 0)] [1, 2, 0] rfl ?_
  exact hL1 6 0 (by omega) rfl
theorem ctX2_who (l : Launch) (g : Gl) (za : Nat) (zp : Nat) (zq : Nat) (pl : Nat → Int32) (sp : Nat → Int32) (be : Int32) (ti : Int32) (w : Int32) : CtI l g yX2_who cX2_who 3 (some .int) 1 [.ref za, .int w] (fl [wMom g za zp zq pl sp be ti]) (fX2_who pl sp w) (fl [wMom g za zp zq pl sp be ti]) := mkI .int rfl rfl [(0, .ref za), (1, .int w)] (by decide) (Nat.le_of_ble_eq_true rfl) rfl (fun X C hR => bX2_who C za zp zq pl sp be ti w hR)

def lX2_standing_4 (sp : Nat → Int32) : Nat → (Int32) → (Nat) → (Int32)
  | 0, x1_1, x2_1 => (x1_1)
  | n + 1, x1_1, x2_1 => (let r_4 : Int32 := fX2_stands sp x2_1; if r_4 = 0 then (lX2_standing_4 sp n x1_1 (x2_1 + 1)) else (let y_7 : Int32 := x1_1 ||| (1 <<< ((nI x2_1) &&& 31)); lX2_standing_4 sp n y_7 (x2_1 + 1)))
def fX2_standing (sp : Nat → Int32) : (Int32) := (let x1_8 : Int32 := lX2_standing_4 sp 6 0 0; x1_8)
set_option maxHeartbeats 4000000 in
set_option maxRecDepth 100000 in
theorem bX2_standing {l : Launch} {g : Gl} {X : Cx} (C : Ok l g X RX2 cX2_standing 3 1) (za : Nat) (zp : Nat) (zq : Nat) (pl : Nat → Int32) (sp : Nat → Int32) (be : Int32) (ti : Int32) (hR : RetI g X cX2_standing 3 0 0 (fX2_standing sp) (fl [wMom g za zp zq pl sp be ti])) : Vw g X 3 0 0 (fl [wMom g za zp zq pl sp be ti]) 0 [(0, .ref za)] [] := by
  refine r_iconst (pc := 0) 0 C dX2_standing_0 rfl ?_
  refine r_istore_n (pc := 1) [(1, .int 0), (0, .ref za)] C dX2_standing_1 (by decide) rfl ?_
  refine r_iconst (pc := 2) 0 C dX2_standing_2 rfl ?_
  refine r_istore_n (pc := 3) [(2, .int 0), (1, .int 0), (0, .ref za)] C dX2_standing_3 (by decide) rfl ?_
  have hX1 : ∀ (x1_8 : Int32) , (x1_8 = lX2_standing_4 sp 6 0 0) → Vw g X 3 0 0 (fl [wMom g za zp zq pl sp be ti]) 30 [(1, .int x1_8)] [] := by
    intro x1_8 e_x1_8 
    refine r_iload_n (pc := 30) C dX2_standing_30 0 rfl ?_
    have hf : fX2_standing sp = x1_8 := by first | (simp only [fX2_standing, ← e_x1_8]; done) | (subst e_x1_8; rfl) | (subst e_x1_8; simp only [fX2_standing]; done)
    rw [hf] at hR
    exact hR _ _ dX2_standing_31
  have hL1 : ∀ (n : Nat) (x1_1 : Int32) (x2_1 : Nat) , (x2_1 + n = 6) → lX2_standing_4 sp n x1_1 x2_1 = lX2_standing_4 sp 6 0 0 → Vw g X 3 0 0 (fl [wMom g za zp zq pl sp be ti]) 4 [(0, .ref za), (1, .int x1_1), (2, .int (nI x2_1))] [] := by
    intro n
    induction n with
    | zero =>
      intro x1_1 x2_1 hr1 hV1
      refine r_iload_n (pc := 4) C dX2_standing_4 2 rfl ?_
      refine r_bipush (pc := 5) 6 C dX2_standing_5 rfl ?_
      refine r_icmpgeN (pc := 7) x2_1 6 30 C dX2_standing_7 (by decide) rfl rfl (by omega) (by omega) (fun _ => ?_) (fun c_2 => absurd (by omega) c_2)
      refine u_lv [(1, .int x1_1)] [1] rfl ?_
      exact hX1 _ (by rw [← hV1]; first | rfl | (simp only [lX2_standing_4]; done) | (simp [lX2_standing_4]; done))
    | succ n ih =>
      intro x1_1 x2_1 hr1 hV1
      refine r_iload_n (pc := 4) C dX2_standing_4 2 rfl ?_
      refine r_bipush (pc := 5) 6 C dX2_standing_5 rfl ?_
      refine r_icmpgeN (pc := 7) x2_1 6 30 C dX2_standing_7 (by decide) rfl rfl (by omega) (by omega) (fun c_3 => absurd c_3 (by omega)) (fun _ => ?_)
      refine r_aload_n (pc := 10) C dX2_standing_10 0 rfl ?_
      refine r_iload_n (pc := 11) C dX2_standing_11 2 rfl ?_
      obtain ⟨r_4, e_r_4⟩ : ∃ z : Int32, z = fX2_stands sp x2_1 := ⟨_, rfl⟩
      have K_5 := ctX2_stands l g za zp zq pl sp be ti x2_1 (by omega)
      rw [← e_r_4] at K_5
      refine w_pI (pc := 12) C mv_X2_38 K_5 dX2_standing_12 (by decide) [0] rfl (by decide) 0 rfl rfl (Nat.le_of_ble_eq_true rfl) ⟨Nat.zero_le _, Nat.zero_le _⟩ ?_
      refine r_ifeq (pc := 15) 24 C dX2_standing_15 (by decide) (fun c_6 => ?_) (fun c_6 => ?_)
      · refine r_iinc (pc := 24) (nI (x2_1 + 1)) [(2, .int (nI (x2_1 + 1))), (0, .ref za), (1, .int x1_1)] C dX2_standing_24 2 rfl (inc1 _) (by decide) rfl ?_
        refine r_goto (pc := 27) 4 C dX2_standing_27 (by decide) ?_
        refine u_lv [(0, .ref za), (1, .int x1_1), (2, .int (nI (x2_1 + 1)))] [1, 2, 0] rfl ?_
        exact ih x1_1 (x2_1 + 1) (by omega) (by rw [← hV1]; first | (simp only [lX2_standing_4, ← e_r_4, if_pos c_6]; done) | (subst e_r_4; simp only [lX2_standing_4, if_pos c_6]; done) | (subst e_r_4; rfl) | (subst e_r_4; simp [lX2_standing_4, if_pos c_6]; done))
      · refine r_iload_n (pc := 18) C dX2_standing_18 1 rfl ?_
        refine r_iconst (pc := 19) 1 C dX2_standing_19 rfl ?_
        refine r_iload_n (pc := 20) C dX2_standing_20 2 rfl ?_
        refine r_ishl (pc := 21) C dX2_standing_21 ?_
        refine r_ior (pc := 22) C dX2_standing_22 ?_
        refine u_int (fun y_7 e_y_7 => ?_)
        refine r_istore_n (pc := 23) [(1, .int y_7), (0, .ref za), (2, .int (nI x2_1))] C dX2_standing_23 (by decide) rfl ?_
        refine r_iinc (pc := 24) (nI (x2_1 + 1)) [(2, .int (nI (x2_1 + 1))), (1, .int y_7), (0, .ref za)] C dX2_standing_24 2 rfl (inc1 _) (by decide) rfl ?_
        refine r_goto (pc := 27) 4 C dX2_standing_27 (by decide) ?_
        refine u_lv [(0, .ref za), (1, .int y_7), (2, .int (nI (x2_1 + 1)))] [2, 1, 0] rfl ?_
        exact ih y_7 (x2_1 + 1) (by omega) (by rw [← hV1]; first | (simp only [lX2_standing_4, ← e_r_4, ← e_y_7, if_neg c_6]; done) | (subst e_r_4 e_y_7; simp only [lX2_standing_4, if_neg c_6]; done) | (subst e_r_4 e_y_7; rfl) | (subst e_r_4 e_y_7; simp [lX2_standing_4, if_neg c_6]; done))
  refine u_lv [(0, .ref za), (1, .int 0), (2, .int 0)] [2, 1, 0] rfl ?_
  exact hL1 6 0 0 (by omega) rfl
theorem ctX2_standing (l : Launch) (g : Gl) (za : Nat) (zp : Nat) (zq : Nat) (pl : Nat → Int32) (sp : Nat → Int32) (be : Int32) (ti : Int32) : CtI l g yX2_standing cX2_standing 3 (some .int) 1 [.ref za] (fl [wMom g za zp zq pl sp be ti]) (fX2_standing sp) (fl [wMom g za zp zq pl sp be ti]) := mkI .int rfl rfl [(0, .ref za)] (by decide) (Nat.le_of_ble_eq_true rfl) rfl (fun X C hR => bX2_standing C za zp zq pl sp be ti hR)

def fX2_howMany (sp : Nat → Int32) : (Int32) := (let r_1 : Int32 := fX2_standing sp; let r_3 : Int32 := fJ6_bitCount_0f7a4 r_1; r_3)
set_option maxHeartbeats 4000000 in
set_option maxRecDepth 100000 in
theorem bX2_howMany {l : Launch} {g : Gl} {X : Cx} (C : Ok l g X RX2 cX2_howMany 1 2) (za : Nat) (zp : Nat) (zq : Nat) (pl : Nat → Int32) (sp : Nat → Int32) (be : Int32) (ti : Int32) (hR : RetI g X cX2_howMany 1 0 0 (fX2_howMany sp) (fl [wMom g za zp zq pl sp be ti])) : Vw g X 1 0 0 (fl [wMom g za zp zq pl sp be ti]) 0 [(0, .ref za)] [] := by
  refine r_aload_n (pc := 0) C dX2_howMany_0 0 rfl ?_
  obtain ⟨r_1, e_r_1⟩ : ∃ z : Int32, z = fX2_standing sp := ⟨_, rfl⟩
  have K_2 := ctX2_standing l g za zp zq pl sp be ti  
  rw [← e_r_1] at K_2
  refine w_pI (pc := 1) C mv_X2_42 K_2 dX2_howMany_1 (by decide) [0] rfl (by decide) 0 rfl rfl (Nat.le_of_ble_eq_true rfl) ⟨Nat.zero_le _, Nat.zero_le _⟩ ?_
  obtain ⟨r_3, e_r_3⟩ : ∃ z : Int32, z = fJ6_bitCount_0f7a4 r_1 := ⟨_, rfl⟩
  have K_4 := ctJ6_bitCount_0f7a4 l g   r_1 
  rw [← e_r_3] at K_4
  refine x_pI (pc := 4) C ms_X2_46 K_4 dX2_howMany_4 (by decide) [] rfl (by decide) rfl (Nat.le_of_ble_eq_true rfl) ⟨Nat.zero_le _, Nat.zero_le _⟩ ?_
  have hf : fX2_howMany sp = r_3 := by first | (simp only [fX2_howMany, ← e_r_1, ← e_r_3]; done) | (subst e_r_1 e_r_3; rfl) | (subst e_r_1 e_r_3; simp only [fX2_howMany]; done)
  rw [hf] at hR
  exact hR _ _ dX2_howMany_7
theorem ctX2_howMany (l : Launch) (g : Gl) (za : Nat) (zp : Nat) (zq : Nat) (pl : Nat → Int32) (sp : Nat → Int32) (be : Int32) (ti : Int32) : CtI l g yX2_howMany cX2_howMany 1 (some .int) 2 [.ref za] (fl [wMom g za zp zq pl sp be ti]) (fX2_howMany sp) (fl [wMom g za zp zq pl sp be ti]) := mkI .int rfl rfl [(0, .ref za)] (by decide) (Nat.le_of_ble_eq_true rfl) rfl (fun X C hR => bX2_howMany C za zp zq pl sp be ti hR)

def lX2_lowest_2 (sp : Nat → Int32) : Nat → (Nat) → (Int32)
  | 0, x1_1 => ((-9))
  | n + 1, x1_1 => (let r_4 : Int32 := fX2_stands sp x1_1; if r_4 = 0 then (lX2_lowest_2 sp n (x1_1 + 1)) else ((nI x1_1)))
def fX2_lowest (sp : Nat → Int32) : (Int32) := (lX2_lowest_2 sp 6 0)
set_option maxHeartbeats 4000000 in
set_option maxRecDepth 100000 in
theorem bX2_lowest {l : Launch} {g : Gl} {X : Cx} (C : Ok l g X RX2 cX2_lowest 2 1) (za : Nat) (zp : Nat) (zq : Nat) (pl : Nat → Int32) (sp : Nat → Int32) (be : Int32) (ti : Int32) (hR : RetI g X cX2_lowest 2 0 0 (fX2_lowest sp) (fl [wMom g za zp zq pl sp be ti])) : Vw g X 2 0 0 (fl [wMom g za zp zq pl sp be ti]) 0 [(0, .ref za)] [] := by
  refine r_iconst (pc := 0) 0 C dX2_lowest_0 rfl ?_
  refine r_istore_n (pc := 1) [(1, .int 0), (0, .ref za)] C dX2_lowest_1 (by decide) rfl ?_
  have hF1 : fX2_lowest sp = lX2_lowest_2 sp 6 0 := by first | rfl | (simp only [fX2_lowest]; done) | (simp [fX2_lowest]; done)
  have hL1 : ∀ (n : Nat) (x1_1 : Nat) , (x1_1 + n = 6) → lX2_lowest_2 sp n x1_1 = lX2_lowest_2 sp 6 0 → Vw g X 2 0 0 (fl [wMom g za zp zq pl sp be ti]) 2 [(0, .ref za), (1, .int (nI x1_1))] [] := by
    intro n
    induction n with
    | zero =>
      intro x1_1 hr1 hV1
      refine r_iload_n (pc := 2) C dX2_lowest_2 1 rfl ?_
      refine r_bipush (pc := 3) 6 C dX2_lowest_3 rfl ?_
      refine r_icmpgeN (pc := 5) x1_1 6 24 C dX2_lowest_5 (by decide) rfl rfl (by omega) (by omega) (fun _ => ?_) (fun c_2 => absurd (by omega) c_2)
      refine r_bipush (pc := 24) (-9) C dX2_lowest_24 rfl ?_
      have hf : fX2_lowest sp = (-9) := hF1.trans (hV1.symm.trans (by first | rfl | (simp only [lX2_lowest_2]; done) | (simp [lX2_lowest_2]; done)))
      rw [hf] at hR
      exact hR _ _ dX2_lowest_26
    | succ n ih =>
      intro x1_1 hr1 hV1
      refine r_iload_n (pc := 2) C dX2_lowest_2 1 rfl ?_
      refine r_bipush (pc := 3) 6 C dX2_lowest_3 rfl ?_
      refine r_icmpgeN (pc := 5) x1_1 6 24 C dX2_lowest_5 (by decide) rfl rfl (by omega) (by omega) (fun c_3 => absurd c_3 (by omega)) (fun _ => ?_)
      refine r_aload_n (pc := 8) C dX2_lowest_8 0 rfl ?_
      refine r_iload_n (pc := 9) C dX2_lowest_9 1 rfl ?_
      obtain ⟨r_4, e_r_4⟩ : ∃ z : Int32, z = fX2_stands sp x1_1 := ⟨_, rfl⟩
      have K_5 := ctX2_stands l g za zp zq pl sp be ti x1_1 (by omega)
      rw [← e_r_4] at K_5
      refine w_pI (pc := 10) C mv_X2_38 K_5 dX2_lowest_10 (by decide) [0] rfl (by decide) 0 rfl rfl (Nat.le_of_ble_eq_true rfl) ⟨Nat.zero_le _, Nat.zero_le _⟩ ?_
      refine r_ifeq (pc := 13) 18 C dX2_lowest_13 (by decide) (fun c_6 => ?_) (fun c_6 => ?_)
      · refine r_iinc (pc := 18) (nI (x1_1 + 1)) [(1, .int (nI (x1_1 + 1))), (0, .ref za)] C dX2_lowest_18 1 rfl (inc1 _) (by decide) rfl ?_
        refine r_goto (pc := 21) 2 C dX2_lowest_21 (by decide) ?_
        refine u_lv [(0, .ref za), (1, .int (nI (x1_1 + 1)))] [1, 0] rfl ?_
        exact ih (x1_1 + 1) (by omega) (by rw [← hV1]; first | (simp only [lX2_lowest_2, ← e_r_4, if_pos c_6]; done) | (subst e_r_4; simp only [lX2_lowest_2, if_pos c_6]; done) | (subst e_r_4; rfl) | (subst e_r_4; simp [lX2_lowest_2, if_pos c_6]; done))
      · refine r_iload_n (pc := 16) C dX2_lowest_16 1 rfl ?_
        have hf : fX2_lowest sp = (nI x1_1) := hF1.trans (hV1.symm.trans (by first | (simp only [lX2_lowest_2, ← e_r_4, if_neg c_6]; done) | (subst e_r_4; simp only [lX2_lowest_2, if_neg c_6]; done) | (subst e_r_4; rfl) | (subst e_r_4; simp [lX2_lowest_2, if_neg c_6]; done)))
        rw [hf] at hR
        exact hR _ _ dX2_lowest_17
  refine u_lv [(0, .ref za), (1, .int 0)] [1, 0] rfl ?_
  exact hL1 6 0 (by omega) rfl
theorem ctX2_lowest (l : Launch) (g : Gl) (za : Nat) (zp : Nat) (zq : Nat) (pl : Nat → Int32) (sp : Nat → Int32) (be : Int32) (ti : Int32) : CtI l g yX2_lowest cX2_lowest 2 (some .int) 1 [.ref za] (fl [wMom g za zp zq pl sp be ti]) (fX2_lowest sp) (fl [wMom g za zp zq pl sp be ti]) := mkI .int rfl rfl [(0, .ref za)] (by decide) (Nat.le_of_ble_eq_true rfl) rfl (fun X C hR => bX2_lowest C za zp zq pl sp be ti hR)

def lX2_allSpins_4 (sp : Nat → Int32) : Nat → (Int32) → (Nat) → (Int32)
  | 0, x1_1, x2_1 => (x1_1)
  | n + 1, x1_1, x2_1 => (lX2_allSpins_4 sp n (x1_1 + (sp x2_1)) (x2_1 + 1))
def fX2_allSpins (sp : Nat → Int32) : (Int32) := (let x1_4 : Int32 := lX2_allSpins_4 sp 6 0 0; x1_4)
set_option maxHeartbeats 4000000 in
set_option maxRecDepth 100000 in
theorem bX2_allSpins {l : Launch} {g : Gl} {X : Cx} (C : Ok l g X RX2 cX2_allSpins 3 0) (za : Nat) (zp : Nat) (zq : Nat) (pl : Nat → Int32) (sp : Nat → Int32) (be : Int32) (ti : Int32) (hR : RetI g X cX2_allSpins 3 0 0 (fX2_allSpins sp) (fl [wMom g za zp zq pl sp be ti])) : Vw g X 3 0 0 (fl [wMom g za zp zq pl sp be ti]) 0 [(0, .ref za)] [] := by
  refine r_iconst (pc := 0) 0 C dX2_allSpins_0 rfl ?_
  refine r_istore_n (pc := 1) [(1, .int 0), (0, .ref za)] C dX2_allSpins_1 (by decide) rfl ?_
  refine r_iconst (pc := 2) 0 C dX2_allSpins_2 rfl ?_
  refine r_istore_n (pc := 3) [(2, .int 0), (1, .int 0), (0, .ref za)] C dX2_allSpins_3 (by decide) rfl ?_
  have hX1 : ∀ (x1_4 : Int32) , (x1_4 = lX2_allSpins_4 sp 6 0 0) → Vw g X 3 0 0 (fl [wMom g za zp zq pl sp be ti]) 25 [(1, .int x1_4)] [] := by
    intro x1_4 e_x1_4 
    refine r_iload_n (pc := 25) C dX2_allSpins_25 0 rfl ?_
    have hf : fX2_allSpins sp = x1_4 := by first | (simp only [fX2_allSpins, ← e_x1_4]; done) | (subst e_x1_4; rfl) | (subst e_x1_4; simp only [fX2_allSpins]; done)
    rw [hf] at hR
    exact hR _ _ dX2_allSpins_26
  have hL1 : ∀ (n : Nat) (x1_1 : Int32) (x2_1 : Nat) , (x2_1 + n = 6) → lX2_allSpins_4 sp n x1_1 x2_1 = lX2_allSpins_4 sp 6 0 0 → Vw g X 3 0 0 (fl [wMom g za zp zq pl sp be ti]) 4 [(0, .ref za), (1, .int x1_1), (2, .int (nI x2_1))] [] := by
    intro n
    induction n with
    | zero =>
      intro x1_1 x2_1 hr1 hV1
      refine r_iload_n (pc := 4) C dX2_allSpins_4 2 rfl ?_
      refine r_bipush (pc := 5) 6 C dX2_allSpins_5 rfl ?_
      refine r_icmpgeN (pc := 7) x2_1 6 25 C dX2_allSpins_7 (by decide) rfl rfl (by omega) (by omega) (fun _ => ?_) (fun c_2 => absurd (by omega) c_2)
      refine u_lv [(1, .int x1_1)] [1] rfl ?_
      exact hX1 _ (by rw [← hV1]; first | rfl | (simp only [lX2_allSpins_4]; done) | (simp [lX2_allSpins_4]; done))
    | succ n ih =>
      intro x1_1 x2_1 hr1 hV1
      refine r_iload_n (pc := 4) C dX2_allSpins_4 2 rfl ?_
      refine r_bipush (pc := 5) 6 C dX2_allSpins_5 rfl ?_
      refine r_icmpgeN (pc := 7) x2_1 6 25 C dX2_allSpins_7 (by decide) rfl rfl (by omega) (by omega) (fun c_3 => absurd c_3 (by omega)) (fun _ => ?_)
      refine r_iload_n (pc := 10) C dX2_allSpins_10 1 rfl ?_
      refine r_aload_n (pc := 11) C dX2_allSpins_11 0 rfl ?_
      refine r_get (pc := 12) C fl_X2_15 dX2_allSpins_12 0 rfl rfl ?_
      refine r_iload_n (pc := 15) C dX2_allSpins_15 2 rfl ?_
      refine r_iald (pc := 16) x2_1 C dX2_allSpins_16 2 rfl rfl (by omega) (by decide) ?_
      refine r_iadd (pc := 17) C dX2_allSpins_17 ?_
      refine r_istore_n (pc := 18) [(1, .int (x1_1 + (sp x2_1))), (0, .ref za), (2, .int (nI x2_1))] C dX2_allSpins_18 (by decide) rfl ?_
      refine r_iinc (pc := 19) (nI (x2_1 + 1)) [(2, .int (nI (x2_1 + 1))), (1, .int (x1_1 + (sp x2_1))), (0, .ref za)] C dX2_allSpins_19 2 rfl (inc1 _) (by decide) rfl ?_
      refine r_goto (pc := 22) 4 C dX2_allSpins_22 (by decide) ?_
      refine u_lv [(0, .ref za), (1, .int (x1_1 + (sp x2_1))), (2, .int (nI (x2_1 + 1)))] [2, 1, 0] rfl ?_
      exact ih (x1_1 + (sp x2_1)) (x2_1 + 1) (by omega) (by rw [← hV1]; first | rfl | (simp only [lX2_allSpins_4]; done) | (simp [lX2_allSpins_4]; done))
  refine u_lv [(0, .ref za), (1, .int 0), (2, .int 0)] [2, 1, 0] rfl ?_
  exact hL1 6 0 0 (by omega) rfl
theorem ctX2_allSpins (l : Launch) (g : Gl) (za : Nat) (zp : Nat) (zq : Nat) (pl : Nat → Int32) (sp : Nat → Int32) (be : Int32) (ti : Int32) : CtI l g yX2_allSpins cX2_allSpins 3 (some .int) 0 [.ref za] (fl [wMom g za zp zq pl sp be ti]) (fX2_allSpins sp) (fl [wMom g za zp zq pl sp be ti]) := mkI .int rfl rfl [(0, .ref za)] (by decide) (Nat.le_of_ble_eq_true rfl) rfl (fun X C hR => bX2_allSpins C za zp zq pl sp be ti hR)

def fX2_whipped (sp : Nat → Int32) (t : Nat) (v : Int32) : (Nat → Int32) := (let r_1 : Int32 := if ((sp t) + v) < 60 then ((sp t) + v) else 60; let sp_2 : Nat → Int32 := upd sp t r_1; sp_2)
set_option maxHeartbeats 4000000 in
set_option maxRecDepth 100000 in
theorem bX2_whipped {l : Launch} {g : Gl} {X : Cx} (C : Ok l g X RX2 cX2_whipped 3 1) (za : Nat) (zp : Nat) (zq : Nat) (pl : Nat → Int32) (sp : Nat → Int32) (be : Int32) (ti : Int32) (t : Nat) (v : Int32) (q0 : t < 6) (hR : RetV g X cX2_whipped 3 0 0 (fl [wMom g za zp zq pl (fX2_whipped sp t v) be ti])) : Vw g X 3 0 0 (fl [wMom g za zp zq pl sp be ti]) 0 [(0, .ref za), (1, .int (nI t)), (2, .int v)] [] := by
  refine r_aload_n (pc := 0) C dX2_whipped_0 0 rfl ?_
  refine r_get (pc := 1) C fl_X2_15 dX2_whipped_1 0 rfl rfl ?_
  refine r_iload_n (pc := 4) C dX2_whipped_4 1 rfl ?_
  refine r_bipush (pc := 5) 60 C dX2_whipped_5 rfl ?_
  refine r_aload_n (pc := 7) C dX2_whipped_7 0 rfl ?_
  refine r_get (pc := 8) C fl_X2_15 dX2_whipped_8 0 rfl rfl ?_
  refine r_iload_n (pc := 11) C dX2_whipped_11 1 rfl ?_
  refine r_iald (pc := 12) t C dX2_whipped_12 2 rfl rfl (by omega) (by decide) ?_
  refine r_iload_n (pc := 13) C dX2_whipped_13 2 rfl ?_
  refine r_iadd (pc := 14) C dX2_whipped_14 ?_
  refine r_mmin (pc := 15) C dX2_whipped_15 ma_X2_52 mst_min miz mco_min (by decide) (Nat.le_of_ble_eq_true rfl) ⟨Nat.zero_le _, Nat.zero_le _⟩ ?_
  refine u_int (fun r_1 e_r_1 => ?_)
  obtain ⟨sp_2, e_sp_2⟩ : ∃ z : Nat → Int32, z = upd sp t r_1 := ⟨_, rfl⟩
  refine r_iast (pc := 18) t (fl [wMom g za zp zq pl sp_2 be ti]) C dX2_whipped_18 2 rfl rfl (by omega) (by decide) (by rw [← e_sp_2]; rfl) ?_
  have hf : fX2_whipped sp t v = sp_2 := by first | (simp only [fX2_whipped, ← e_r_1, ← e_sp_2]; done) | (subst e_r_1 e_sp_2; rfl) | (subst e_r_1 e_sp_2; simp only [fX2_whipped]; done)
  rw [hf] at hR
  exact hR _ _ dX2_whipped_19
theorem ctX2_whipped (l : Launch) (g : Gl) (za : Nat) (zp : Nat) (zq : Nat) (pl : Nat → Int32) (sp : Nat → Int32) (be : Int32) (ti : Int32) (t : Nat) (v : Int32) (q0 : t < 6) : CtV l g yX2_whipped cX2_whipped 3 1 [.ref za, .int (nI t), .int v] (fl [wMom g za zp zq pl sp be ti]) (fl [wMom g za zp zq pl (fX2_whipped sp t v) be ti]) := mkV [(0, .ref za), (1, .int (nI t)), (2, .int v)] (by decide) (Nat.le_of_ble_eq_true rfl) rfl (fun X C hR => bX2_whipped C za zp zq pl sp be ti t v q0 hR)

theorem who_nat0 (pl sp : Nat → Int32) (w : Int32) : ∀ n i, i + n = 6 → (lX2_who_2 sp pl w n i = -9 ∨ ∃ j, j < 6 ∧ lX2_who_2 sp pl w n i = nI j)
  | 0, i, h => Or.inl rfl
  | n + 1, i, h => by
    have ih := who_nat0 pl sp w n (i + 1) (by omega)
    simp only [lX2_who_2]
    repeat' split
    all_goals first | exact ih | exact Or.inr ⟨i, by omega, rfl⟩
theorem who_nat {pl sp : Nat → Int32} {w : Int32} (h : ¬ fX2_who pl sp w = -9) : ∃ j, j < 6 ∧ fX2_who pl sp w = nI j := (who_nat0 pl sp w 6 0 rfl).resolve_left h
def lX2_slowDown_2 (dr : Nat → Int32) : Nat → (Nat) → (Nat → Int32) → (Nat → Int32) → (Nat → Int32) × (Nat → Int32)
  | 0, x2_1, pl0_1, sp0_1 => ((pl0_1, sp0_1))
  | n + 1, x2_1, pl0_1, sp0_1 => (let r_4 : Int32 := fX2_stands sp0_1 x2_1; if r_4 = 0 then (lX2_slowDown_2 dr n (x2_1 + 1) pl0_1 sp0_1) else (let pl_7 : Nat → Int32 := (fX2_spins pl0_1 sp0_1 x2_1 ((sp0_1 x2_1) - (dr x2_1))).1; let sp_8 : Nat → Int32 := (fX2_spins pl0_1 sp0_1 x2_1 ((sp0_1 x2_1) - (dr x2_1))).2; lX2_slowDown_2 dr n (x2_1 + 1) pl_7 sp_8))
def fX2_slowDown (pl : Nat → Int32) (sp : Nat → Int32) (dr : Nat → Int32) : (Nat → Int32) × (Nat → Int32) := (let o1 := lX2_slowDown_2 dr 6 0 pl sp; let pl0_10 : Nat → Int32 := o1.1; let sp0_11 : Nat → Int32 := o1.2; (pl0_10, sp0_11))
set_option maxHeartbeats 4000000 in
set_option maxRecDepth 100000 in
theorem bX2_slowDown {l : Launch} {g : Gl} {X : Cx} (C : Ok l g X RX2 cX2_slowDown 3 1) (za : Nat) (zp : Nat) (zq : Nat) (zb : Nat) (zd : Nat) (pl : Nat → Int32) (sp : Nat → Int32) (be : Int32) (ti : Int32) (dr : Nat → Int32) (pz : Int32) (sl : Int32) (tp : Nat) (hR : RetV g X cX2_slowDown 3 0 0 (fl [wMom g za zp zq ((fX2_slowDown pl sp dr).1) ((fX2_slowDown pl sp dr).2) be ti, wTol g zb zd dr pz sl tp])) : Vw g X 3 0 0 (fl [wMom g za zp zq pl sp be ti, wTol g zb zd dr pz sl tp]) 0 [(0, .ref za), (1, .ref zb)] [] := by
  refine r_iconst (pc := 0) 0 C dX2_slowDown_0 rfl ?_
  refine r_istore_n (pc := 1) [(2, .int 0), (0, .ref za), (1, .ref zb)] C dX2_slowDown_1 (by decide) rfl ?_
  have hX1 : ∀ (pl0_10 : Nat → Int32) (sp0_11 : Nat → Int32) , (pl0_10 = (lX2_slowDown_2 dr 6 0 pl sp).1) → (sp0_11 = (lX2_slowDown_2 dr 6 0 pl sp).2) → Vw g X 3 0 0 (fl [wMom g za zp zq pl0_10 sp0_11 be ti, wTol g zb zd dr pz sl tp]) 40 [] [] := by
    intro pl0_10 sp0_11 e_pl0_10 e_sp0_11 
    have hf : fX2_slowDown pl sp dr = (pl0_10, sp0_11) := by first | (simp only [fX2_slowDown, ← e_pl0_10, ← e_sp0_11]; done) | (subst e_pl0_10 e_sp0_11; rfl) | (subst e_pl0_10 e_sp0_11; simp only [fX2_slowDown]; done)
    rw [hf] at hR
    exact hR _ _ dX2_slowDown_40
  have hL1 : ∀ (n : Nat) (x2_1 : Nat) (pl0_1 : Nat → Int32) (sp0_1 : Nat → Int32) , (x2_1 + n = 6) → lX2_slowDown_2 dr n x2_1 pl0_1 sp0_1 = lX2_slowDown_2 dr 6 0 pl sp → Vw g X 3 0 0 (fl [wMom g za zp zq pl0_1 sp0_1 be ti, wTol g zb zd dr pz sl tp]) 2 [(0, .ref za), (1, .ref zb), (2, .int (nI x2_1))] [] := by
    intro n
    induction n with
    | zero =>
      intro x2_1 pl0_1 sp0_1 hr1 hV1
      refine r_iload_n (pc := 2) C dX2_slowDown_2 2 rfl ?_
      refine r_bipush (pc := 3) 6 C dX2_slowDown_3 rfl ?_
      refine r_icmpgeN (pc := 5) x2_1 6 40 C dX2_slowDown_5 (by decide) rfl rfl (by omega) (by omega) (fun _ => ?_) (fun c_2 => absurd (by omega) c_2)
      refine u_lv [] [] rfl ?_
      exact hX1 _ _ (by rw [← hV1]; first | rfl | (simp only [lX2_slowDown_2]; done) | (simp [lX2_slowDown_2]; done)) (by rw [← hV1]; first | rfl | (simp only [lX2_slowDown_2]; done) | (simp [lX2_slowDown_2]; done))
    | succ n ih =>
      intro x2_1 pl0_1 sp0_1 hr1 hV1
      refine r_iload_n (pc := 2) C dX2_slowDown_2 2 rfl ?_
      refine r_bipush (pc := 3) 6 C dX2_slowDown_3 rfl ?_
      refine r_icmpgeN (pc := 5) x2_1 6 40 C dX2_slowDown_5 (by decide) rfl rfl (by omega) (by omega) (fun c_3 => absurd c_3 (by omega)) (fun _ => ?_)
      refine r_aload_n (pc := 8) C dX2_slowDown_8 0 rfl ?_
      refine r_iload_n (pc := 9) C dX2_slowDown_9 2 rfl ?_
      obtain ⟨r_4, e_r_4⟩ : ∃ z : Int32, z = fX2_stands sp0_1 x2_1 := ⟨_, rfl⟩
      have K_5 := ctX2_stands l g za zp zq pl0_1 sp0_1 be ti x2_1 (by omega)
      rw [← e_r_4] at K_5
      refine w_pI (pc := 10) C mv_X2_38 K_5 dX2_slowDown_10 (by decide) [0] rfl (by decide) 0 rfl rfl (Nat.le_of_ble_eq_true rfl) ⟨Nat.zero_le _, Nat.zero_le _⟩ ?_
      refine r_ifeq (pc := 13) 34 C dX2_slowDown_13 (by decide) (fun c_6 => ?_) (fun c_6 => ?_)
      · refine r_iinc (pc := 34) (nI (x2_1 + 1)) [(2, .int (nI (x2_1 + 1))), (0, .ref za), (1, .ref zb)] C dX2_slowDown_34 2 rfl (inc1 _) (by decide) rfl ?_
        refine r_goto (pc := 37) 2 C dX2_slowDown_37 (by decide) ?_
        refine u_lv [(0, .ref za), (1, .ref zb), (2, .int (nI (x2_1 + 1)))] [1, 2, 0] rfl ?_
        exact ih (x2_1 + 1) pl0_1 sp0_1 (by omega) (by rw [← hV1]; first | (simp only [lX2_slowDown_2, ← e_r_4, if_pos c_6]; done) | (subst e_r_4; simp only [lX2_slowDown_2, if_pos c_6]; done) | (subst e_r_4; rfl) | (subst e_r_4; simp [lX2_slowDown_2, if_pos c_6]; done))
      · refine r_aload_n (pc := 16) C dX2_slowDown_16 0 rfl ?_
        refine r_iload_n (pc := 17) C dX2_slowDown_17 2 rfl ?_
        refine r_aload_n (pc := 18) C dX2_slowDown_18 0 rfl ?_
        refine r_get (pc := 19) C fl_X2_15 dX2_slowDown_19 0 rfl rfl ?_
        refine r_iload_n (pc := 22) C dX2_slowDown_22 2 rfl ?_
        refine r_iald (pc := 23) x2_1 C dX2_slowDown_23 2 rfl rfl (by omega) (by decide) ?_
        refine r_aload_n (pc := 24) C dX2_slowDown_24 1 rfl ?_
        refine r_get (pc := 25) C fl_X2_68 dX2_slowDown_25 3 rfl rfl ?_
        refine r_iload_n (pc := 28) C dX2_slowDown_28 2 rfl ?_
        refine r_iald (pc := 29) x2_1 C dX2_slowDown_29 4 rfl rfl (by omega) (by decide) ?_
        refine r_isub (pc := 30) C dX2_slowDown_30 ?_
        obtain ⟨pl_7, e_pl_7⟩ : ∃ z : Nat → Int32, z = (fX2_spins pl0_1 sp0_1 x2_1 ((sp0_1 x2_1) - (dr x2_1))).1 := ⟨_, rfl⟩
        obtain ⟨sp_8, e_sp_8⟩ : ∃ z : Nat → Int32, z = (fX2_spins pl0_1 sp0_1 x2_1 ((sp0_1 x2_1) - (dr x2_1))).2 := ⟨_, rfl⟩
        have K_9 := ctX2_spins l g za zp zq pl0_1 sp0_1 be ti x2_1 ((sp0_1 x2_1) - (dr x2_1)) (by omega)
        rw [← e_pl_7, ← e_sp_8] at K_9
        refine w_cV (pc := 31) [wMom g za zp zq pl_7 sp_8 be ti, wTol g zb zd dr pz sl tp] C mv_X2_28 K_9 dX2_slowDown_31 (by decide) [0] rfl (by decide) (by simp only [List.map_cons, List.map_nil, adMom]) rfl 0 rfl rfl (Nat.le_of_ble_eq_true rfl) ⟨Nat.zero_le _, Nat.zero_le _⟩ ?_
        refine r_iinc (pc := 34) (nI (x2_1 + 1)) [(2, .int (nI (x2_1 + 1))), (0, .ref za), (1, .ref zb)] C dX2_slowDown_34 2 rfl (inc1 _) (by decide) rfl ?_
        refine r_goto (pc := 37) 2 C dX2_slowDown_37 (by decide) ?_
        refine u_lv [(0, .ref za), (1, .ref zb), (2, .int (nI (x2_1 + 1)))] [1, 2, 0] rfl ?_
        exact ih (x2_1 + 1) pl_7 sp_8 (by omega) (by rw [← hV1]; first | (simp only [lX2_slowDown_2, ← e_r_4, ← e_pl_7, ← e_sp_8, if_neg c_6]; done) | (subst e_r_4 e_pl_7 e_sp_8; simp only [lX2_slowDown_2, if_neg c_6]; done) | (subst e_r_4 e_pl_7 e_sp_8; rfl) | (subst e_r_4 e_pl_7 e_sp_8; simp [lX2_slowDown_2, if_neg c_6]; done))
  refine u_lv [(0, .ref za), (1, .ref zb), (2, .int 0)] [1, 2, 0] rfl ?_
  exact hL1 6 0 pl sp (by omega) rfl
theorem ctX2_slowDown (l : Launch) (g : Gl) (za : Nat) (zp : Nat) (zq : Nat) (zb : Nat) (zd : Nat) (pl : Nat → Int32) (sp : Nat → Int32) (be : Int32) (ti : Int32) (dr : Nat → Int32) (pz : Int32) (sl : Int32) (tp : Nat) : CtV l g yX2_slowDown cX2_slowDown 3 1 [.ref za, .ref zb] (fl [wMom g za zp zq pl sp be ti, wTol g zb zd dr pz sl tp]) (fl [wMom g za zp zq ((fX2_slowDown pl sp dr).1) ((fX2_slowDown pl sp dr).2) be ti, wTol g zb zd dr pz sl tp]) := mkV [(0, .ref za), (1, .ref zb)] (by decide) (Nat.le_of_ble_eq_true rfl) rfl (fun X C hR => bX2_slowDown C za zp zq zb zd pl sp be ti dr pz sl tp hR)

def fX2_neighbour (ti : Int32) (fr : Int32) (pp : Int32) : (Int32) := (if ti = 1 then (if pp ≤ (fr + 1) then (0) else ((fr + 1))) else (if fr ≤ 0 then ((pp - 1)) else ((fr - 1))))
set_option maxHeartbeats 4000000 in
set_option maxRecDepth 100000 in
theorem bX2_neighbour {l : Launch} {g : Gl} {X : Cx} (C : Ok l g X RX2 cX2_neighbour 3 0) (za : Nat) (zp : Nat) (zq : Nat) (pl : Nat → Int32) (sp : Nat → Int32) (be : Int32) (ti : Int32) (fr : Int32) (pp : Int32) (hR : RetI g X cX2_neighbour 3 0 0 (fX2_neighbour ti fr pp) (fl [wMom g za zp zq pl sp be ti])) : Vw g X 3 0 0 (fl [wMom g za zp zq pl sp be ti]) 0 [(0, .ref za), (1, .int fr), (2, .int pp)] [] := by
  refine r_aload_n (pc := 0) C dX2_neighbour_0 0 rfl ?_
  refine r_get (pc := 1) C fl_X2_22 dX2_neighbour_1 0 rfl rfl ?_
  refine r_iconst (pc := 4) 1 C dX2_neighbour_4 rfl ?_
  refine r_icmpne (pc := 5) 23 C dX2_neighbour_5 (by decide) (fun c_1 => ?_) (fun c_1 => ?_)
  · refine r_iload_n (pc := 23) C dX2_neighbour_23 1 rfl ?_
    refine r_ifle (pc := 24) 33 C dX2_neighbour_24 (by decide) (fun c_2 => ?_) (fun c_2 => ?_)
    · refine r_iload_n (pc := 33) C dX2_neighbour_33 2 rfl ?_
      refine r_iconst (pc := 34) 1 C dX2_neighbour_34 rfl ?_
      refine r_isub (pc := 35) C dX2_neighbour_35 ?_
      have hf : fX2_neighbour ti fr pp = (pp - 1) := by first | (simp only [fX2_neighbour, if_neg c_1, if_pos c_2]; done) | rfl | (simp [fX2_neighbour, if_neg c_1, if_pos c_2]; done)
      rw [hf] at hR
      exact hR _ _ dX2_neighbour_36
    · refine r_iload_n (pc := 27) C dX2_neighbour_27 1 rfl ?_
      refine r_iconst (pc := 28) 1 C dX2_neighbour_28 rfl ?_
      refine r_isub (pc := 29) C dX2_neighbour_29 ?_
      refine r_goto (pc := 30) 36 C dX2_neighbour_30 (by decide) ?_
      have hf : fX2_neighbour ti fr pp = (fr - 1) := by first | (simp only [fX2_neighbour, if_neg c_1, if_neg c_2]; done) | rfl | (simp [fX2_neighbour, if_neg c_1, if_neg c_2]; done)
      rw [hf] at hR
      exact hR _ _ dX2_neighbour_36
  · refine r_iload_n (pc := 8) C dX2_neighbour_8 1 rfl ?_
    refine r_iconst (pc := 9) 1 C dX2_neighbour_9 rfl ?_
    refine r_iadd (pc := 10) C dX2_neighbour_10 ?_
    refine r_iload_n (pc := 11) C dX2_neighbour_11 2 rfl ?_
    refine r_icmpge (pc := 12) 21 C dX2_neighbour_12 (by decide) (fun c_3 => ?_) (fun c_3 => ?_)
    · refine r_iconst (pc := 21) 0 C dX2_neighbour_21 rfl ?_
      have hf : fX2_neighbour ti fr pp = 0 := by first | (simp only [fX2_neighbour, if_pos c_1, if_pos c_3]; done) | rfl | (simp [fX2_neighbour, if_pos c_1, if_pos c_3]; done)
      rw [hf] at hR
      exact hR _ _ dX2_neighbour_22
    · refine r_iload_n (pc := 15) C dX2_neighbour_15 1 rfl ?_
      refine r_iconst (pc := 16) 1 C dX2_neighbour_16 rfl ?_
      refine r_iadd (pc := 17) C dX2_neighbour_17 ?_
      refine r_goto (pc := 18) 22 C dX2_neighbour_18 (by decide) ?_
      have hf : fX2_neighbour ti fr pp = (fr + 1) := by first | (simp only [fX2_neighbour, if_pos c_1, if_neg c_3]; done) | rfl | (simp [fX2_neighbour, if_pos c_1, if_neg c_3]; done)
      rw [hf] at hR
      exact hR _ _ dX2_neighbour_22
theorem ctX2_neighbour (l : Launch) (g : Gl) (za : Nat) (zp : Nat) (zq : Nat) (pl : Nat → Int32) (sp : Nat → Int32) (be : Int32) (ti : Int32) (fr : Int32) (pp : Int32) : CtI l g yX2_neighbour cX2_neighbour 3 (some .int) 0 [.ref za, .int fr, .int pp] (fl [wMom g za zp zq pl sp be ti]) (fX2_neighbour ti fr pp) (fl [wMom g za zp zq pl sp be ti]) := mkI .int rfl rfl [(0, .ref za), (1, .int fr), (2, .int pp)] (by decide) (Nat.le_of_ble_eq_true rfl) rfl (fun X C hR => bX2_neighbour C za zp zq pl sp be ti fr pp hR)

def fX2_meet (pl : Nat → Int32) (sp : Nat → Int32) (t : Nat) (u : Nat) : (Nat → Int32) × (Nat → Int32) := (let w_2 : Int32 := (if (sp t) ≤ (sp u) then (0) else (1)); let w_5 : Nat := (if w_2 = 0 then (u) else (t)); let w_8 : Nat := (if w_2 = 0 then (t) else (u)); let pl_10 : Nat → Int32 := (fX2_spins pl sp w_8 0).1; let sp_11 : Nat → Int32 := (fX2_spins pl sp w_8 0).2; let pl_13 : Nat → Int32 := (fX2_spins pl_10 sp_11 w_5 ((sp_11 w_5) - 5)).1; let sp_14 : Nat → Int32 := (fX2_spins pl_10 sp_11 w_5 ((sp_11 w_5) - 5)).2; (pl_13, sp_14))
set_option maxHeartbeats 4000000 in
set_option maxRecDepth 100000 in
theorem bX2_meet {l : Launch} {g : Gl} {X : Cx} (C : Ok l g X RX2 cX2_meet 5 1) (za : Nat) (zp : Nat) (zq : Nat) (pl : Nat → Int32) (sp : Nat → Int32) (be : Int32) (ti : Int32) (t : Nat) (u : Nat) (q0 : t < 6) (q1 : u < 6) (hR : RetV g X cX2_meet 5 0 0 (fl [wMom g za zp zq ((fX2_meet pl sp t u).1) ((fX2_meet pl sp t u).2) be ti])) : Vw g X 5 0 0 (fl [wMom g za zp zq pl sp be ti]) 0 [(0, .ref za), (1, .int (nI t)), (2, .int (nI u))] [] := by
  refine r_aload_n (pc := 0) C dX2_meet_0 0 rfl ?_
  refine r_get (pc := 1) C fl_X2_15 dX2_meet_1 0 rfl rfl ?_
  refine r_iload_n (pc := 4) C dX2_meet_4 1 rfl ?_
  refine r_iald (pc := 5) t C dX2_meet_5 2 rfl rfl (by omega) (by decide) ?_
  refine r_aload_n (pc := 6) C dX2_meet_6 0 rfl ?_
  refine r_get (pc := 7) C fl_X2_15 dX2_meet_7 0 rfl rfl ?_
  refine r_iload_n (pc := 10) C dX2_meet_10 2 rfl ?_
  refine r_iald (pc := 11) u C dX2_meet_11 2 rfl rfl (by omega) (by decide) ?_
  have hJ_3 : ∀ (w_2 : Int32) , (w_2 = (if (sp t) ≤ (sp u) then (0) else (1))) → Vw g X 5 0 0 (fl [wMom g za zp zq pl sp be ti]) 20 [(0, .ref za), (1, .int (nI t)), (2, .int (nI u))] [.int w_2] := by
    intro w_2 e_w_2
    refine r_istore_n (pc := 20) [(3, .int w_2), (0, .ref za), (1, .int (nI t)), (2, .int (nI u))] C dX2_meet_20 (by decide) rfl ?_
    refine r_iload_n (pc := 21) C dX2_meet_21 0 rfl ?_
    have hJ_6 : ∀ (w_5 : Nat) , (w_5 = (if w_2 = 0 then (u) else (t))) → Vw g X 5 0 0 (fl [wMom g za zp zq pl sp be ti]) 30 [(0, .ref za), (1, .int (nI t)), (2, .int (nI u)), (3, .int w_2)] [.int (nI w_5)] := by
      intro w_5 e_w_5
      have m_w_5 : w_5 = u ∨ w_5 = t := by rw [e_w_5]; (repeat' split) <;> simp
      refine r_istore (pc := 30) [(4, .int (nI w_5)), (0, .ref za), (1, .int (nI t)), (2, .int (nI u)), (3, .int w_2)] C dX2_meet_30 (by decide) rfl ?_
      refine r_aload_n (pc := 32) C dX2_meet_32 1 rfl ?_
      refine r_iload_n (pc := 33) C dX2_meet_33 4 rfl ?_
      have hJ_9 : ∀ (w_8 : Nat) , (w_8 = (if w_2 = 0 then (t) else (u))) → Vw g X 5 0 0 (fl [wMom g za zp zq pl sp be ti]) 42 [(0, .ref za), (4, .int (nI w_5))] [.int (nI w_8), .ref za] := by
        intro w_8 e_w_8
        have m_w_8 : w_8 = t ∨ w_8 = u := by rw [e_w_8]; (repeat' split) <;> simp
        refine r_iconst (pc := 42) 0 C dX2_meet_42 rfl ?_
        obtain ⟨pl_10, e_pl_10⟩ : ∃ z : Nat → Int32, z = (fX2_spins pl sp w_8 0).1 := ⟨_, rfl⟩
        obtain ⟨sp_11, e_sp_11⟩ : ∃ z : Nat → Int32, z = (fX2_spins pl sp w_8 0).2 := ⟨_, rfl⟩
        have K_12 := ctX2_spins l g za zp zq pl sp be ti w_8 0 (by omega)
        rw [← e_pl_10, ← e_sp_11] at K_12
        refine w_cV (pc := 43) [wMom g za zp zq pl_10 sp_11 be ti] C mv_X2_28 K_12 dX2_meet_43 (by decide) [0] rfl (by decide) (by simp only [List.map_cons, List.map_nil, adMom]) rfl 0 rfl rfl (Nat.le_of_ble_eq_true rfl) ⟨Nat.zero_le _, Nat.zero_le _⟩ ?_
        refine r_aload_n (pc := 46) C dX2_meet_46 0 rfl ?_
        refine r_iload (pc := 47) C dX2_meet_47 1 rfl ?_
        refine r_aload_n (pc := 49) C dX2_meet_49 0 rfl ?_
        refine r_get (pc := 50) C fl_X2_15 dX2_meet_50 0 rfl rfl ?_
        refine r_iload (pc := 53) C dX2_meet_53 1 rfl ?_
        refine r_iald (pc := 55) w_5 C dX2_meet_55 2 rfl rfl (by omega) (by decide) ?_
        refine r_iconst (pc := 56) 5 C dX2_meet_56 rfl ?_
        refine r_isub (pc := 57) C dX2_meet_57 ?_
        obtain ⟨pl_13, e_pl_13⟩ : ∃ z : Nat → Int32, z = (fX2_spins pl_10 sp_11 w_5 ((sp_11 w_5) - 5)).1 := ⟨_, rfl⟩
        obtain ⟨sp_14, e_sp_14⟩ : ∃ z : Nat → Int32, z = (fX2_spins pl_10 sp_11 w_5 ((sp_11 w_5) - 5)).2 := ⟨_, rfl⟩
        have K_15 := ctX2_spins l g za zp zq pl_10 sp_11 be ti w_5 ((sp_11 w_5) - 5) (by omega)
        rw [← e_pl_13, ← e_sp_14] at K_15
        refine w_cV (pc := 58) [wMom g za zp zq pl_13 sp_14 be ti] C mv_X2_28 K_15 dX2_meet_58 (by decide) [0] rfl (by decide) (by simp only [List.map_cons, List.map_nil, adMom]) rfl 0 rfl rfl (Nat.le_of_ble_eq_true rfl) ⟨Nat.zero_le _, Nat.zero_le _⟩ ?_
        have hf : fX2_meet pl sp t u = (pl_13, sp_14) := by first | (simp only [fX2_meet, ← e_w_2, ← e_w_5, ← e_w_8, ← e_pl_10, ← e_sp_11, ← e_pl_13, ← e_sp_14]; done) | (subst e_w_2 e_w_5 e_w_8 e_pl_10 e_sp_11 e_pl_13 e_sp_14; rfl) | (subst e_w_2 e_w_5 e_w_8 e_pl_10 e_sp_11 e_pl_13 e_sp_14; simp only [fX2_meet]; done)
        rw [hf] at hR
        exact hR _ _ dX2_meet_61
      refine r_ifeq (pc := 34) 41 C dX2_meet_34 (by decide) (fun c_7 => ?_) (fun c_7 => ?_)
      · refine r_iload_n (pc := 41) C dX2_meet_41 2 rfl ?_
        refine u_lv [(0, .ref za), (4, .int (nI w_5))] [1, 0] rfl ?_
        exact hJ_9 _ (by first | (simp only [if_pos c_7]; done) | rfl | (simp [if_pos c_7]; done))
      · refine r_iload_n (pc := 37) C dX2_meet_37 3 rfl ?_
        refine r_goto (pc := 38) 42 C dX2_meet_38 (by decide) ?_
        refine u_lv [(0, .ref za), (4, .int (nI w_5))] [1, 0] rfl ?_
        exact hJ_9 _ (by first | (simp only [if_neg c_7]; done) | rfl | (simp [if_neg c_7]; done))
    refine r_ifeq (pc := 22) 29 C dX2_meet_22 (by decide) (fun c_4 => ?_) (fun c_4 => ?_)
    · refine r_iload_n (pc := 29) C dX2_meet_29 3 rfl ?_
      refine u_lv [(0, .ref za), (1, .int (nI t)), (2, .int (nI u)), (3, .int w_2)] [1, 2, 3, 0] rfl ?_
      exact hJ_6 _ (by first | (simp only [if_pos c_4]; done) | rfl | (simp [if_pos c_4]; done))
    · refine r_iload_n (pc := 25) C dX2_meet_25 2 rfl ?_
      refine r_goto (pc := 26) 30 C dX2_meet_26 (by decide) ?_
      refine u_lv [(0, .ref za), (1, .int (nI t)), (2, .int (nI u)), (3, .int w_2)] [1, 2, 3, 0] rfl ?_
      exact hJ_6 _ (by first | (simp only [if_neg c_4]; done) | rfl | (simp [if_neg c_4]; done))
  refine r_icmple (pc := 12) 19 C dX2_meet_12 (by decide) (fun c_1 => ?_) (fun c_1 => ?_)
  · refine r_iconst (pc := 19) 0 C dX2_meet_19 rfl ?_
    exact hJ_3 _ (by first | (simp only [if_pos c_1]; done) | rfl | (simp [if_pos c_1]; done))
  · refine r_iconst (pc := 15) 1 C dX2_meet_15 rfl ?_
    refine r_goto (pc := 16) 20 C dX2_meet_16 (by decide) ?_
    exact hJ_3 _ (by first | (simp only [if_neg c_1]; done) | rfl | (simp [if_neg c_1]; done))
theorem ctX2_meet (l : Launch) (g : Gl) (za : Nat) (zp : Nat) (zq : Nat) (pl : Nat → Int32) (sp : Nat → Int32) (be : Int32) (ti : Int32) (t : Nat) (u : Nat) (q0 : t < 6) (q1 : u < 6) : CtV l g yX2_meet cX2_meet 5 1 [.ref za, .int (nI t), .int (nI u)] (fl [wMom g za zp zq pl sp be ti]) (fl [wMom g za zp zq ((fX2_meet pl sp t u).1) ((fX2_meet pl sp t u).2) be ti]) := mkV [(0, .ref za), (1, .int (nI t)), (2, .int (nI u))] (by decide) (Nat.le_of_ble_eq_true rfl) rfl (fun X C hR => bX2_meet C za zp zq pl sp be ti t u q0 q1 hR)

def lX2_wander_2 (sl : Int32) (ti : Int32) (pz : Int32) : Nat → (Nat) → (Nat → Int32) → (Nat → Int32) → (Nat → Int32) × (Nat → Int32)
  | 0, x2_1, pl0_1, sp0_1 => ((pl0_1, sp0_1))
  | n + 1, x2_1, pl0_1, sp0_1 => (let r_4 : Int32 := fX2_stands sp0_1 x2_1; if r_4 = 0 then (lX2_wander_2 sl ti pz n (x2_1 + 1) pl0_1 sp0_1) else (if (sp0_1 x2_1) ≤ sl then (let r_8 : Int32 := fX2_neighbour ti (pl0_1 x2_1) pz; let r_10 : Int32 := fX2_who pl0_1 sp0_1 r_8; let J_19 := (if r_10 = (-9) then ((pl0_1, sp0_1)) else (let pl_14 : Nat → Int32 := (fX2_meet pl0_1 sp0_1 x2_1 r_10.toNatClampNeg).1; let sp_15 : Nat → Int32 := (fX2_meet pl0_1 sp0_1 x2_1 r_10.toNatClampNeg).2; (pl_14, sp_15)) : (Nat → Int32) × (Nat → Int32)); let pl_17 : Nat → Int32 := J_19.1; let sp_18 : Nat → Int32 := J_19.2; let r_20 : Int32 := fX2_stands sp_18 x2_1; if r_20 = 0 then (lX2_wander_2 sl ti pz n (x2_1 + 1) pl_17 sp_18) else (let pl_23 : Nat → Int32 := upd pl_17 x2_1 r_8; lX2_wander_2 sl ti pz n (x2_1 + 1) pl_23 sp_18)) else (lX2_wander_2 sl ti pz n (x2_1 + 1) pl0_1 sp0_1)))
def fX2_wander (pl : Nat → Int32) (sp : Nat → Int32) (ti : Int32) (pz : Int32) (sl : Int32) : (Nat → Int32) × (Nat → Int32) := (let o1 := lX2_wander_2 sl ti pz 6 0 pl sp; let pl0_24 : Nat → Int32 := o1.1; let sp0_25 : Nat → Int32 := o1.2; (pl0_24, sp0_25))
set_option maxHeartbeats 4000000 in
set_option maxRecDepth 100000 in
theorem bX2_wander {l : Launch} {g : Gl} {X : Cx} (C : Ok l g X RX2 cX2_wander 5 2) (za : Nat) (zp : Nat) (zq : Nat) (zb : Nat) (zd : Nat) (pl : Nat → Int32) (sp : Nat → Int32) (be : Int32) (ti : Int32) (dr : Nat → Int32) (pz : Int32) (sl : Int32) (tp : Nat) (hR : RetV g X cX2_wander 5 0 0 (fl [wMom g za zp zq ((fX2_wander pl sp ti pz sl).1) ((fX2_wander pl sp ti pz sl).2) be ti, wTol g zb zd dr pz sl tp])) : Vw g X 5 0 0 (fl [wMom g za zp zq pl sp be ti, wTol g zb zd dr pz sl tp]) 0 [(0, .ref za), (1, .ref zb)] [] := by
  refine r_iconst (pc := 0) 0 C dX2_wander_0 rfl ?_
  refine r_istore_n (pc := 1) [(2, .int 0), (0, .ref za), (1, .ref zb)] C dX2_wander_1 (by decide) rfl ?_
  have hX1 : ∀ (pl0_24 : Nat → Int32) (sp0_25 : Nat → Int32) , (pl0_24 = (lX2_wander_2 sl ti pz 6 0 pl sp).1) → (sp0_25 = (lX2_wander_2 sl ti pz 6 0 pl sp).2) → Vw g X 5 0 0 (fl [wMom g za zp zq pl0_24 sp0_25 be ti, wTol g zb zd dr pz sl tp]) 89 [] [] := by
    intro pl0_24 sp0_25 e_pl0_24 e_sp0_25 
    have hf : fX2_wander pl sp ti pz sl = (pl0_24, sp0_25) := by first | (simp only [fX2_wander, ← e_pl0_24, ← e_sp0_25]; done) | (subst e_pl0_24 e_sp0_25; rfl) | (subst e_pl0_24 e_sp0_25; simp only [fX2_wander]; done)
    rw [hf] at hR
    exact hR _ _ dX2_wander_89
  have hL1 : ∀ (n : Nat) (x2_1 : Nat) (pl0_1 : Nat → Int32) (sp0_1 : Nat → Int32) , (x2_1 + n = 6) → lX2_wander_2 sl ti pz n x2_1 pl0_1 sp0_1 = lX2_wander_2 sl ti pz 6 0 pl sp → Vw g X 5 0 0 (fl [wMom g za zp zq pl0_1 sp0_1 be ti, wTol g zb zd dr pz sl tp]) 2 [(0, .ref za), (1, .ref zb), (2, .int (nI x2_1))] [] := by
    intro n
    induction n with
    | zero =>
      intro x2_1 pl0_1 sp0_1 hr1 hV1
      refine r_iload_n (pc := 2) C dX2_wander_2 2 rfl ?_
      refine r_bipush (pc := 3) 6 C dX2_wander_3 rfl ?_
      refine r_icmpgeN (pc := 5) x2_1 6 89 C dX2_wander_5 (by decide) rfl rfl (by omega) (by omega) (fun _ => ?_) (fun c_2 => absurd (by omega) c_2)
      refine u_lv [] [] rfl ?_
      exact hX1 _ _ (by rw [← hV1]; first | rfl | (simp only [lX2_wander_2]; done) | (simp [lX2_wander_2]; done)) (by rw [← hV1]; first | rfl | (simp only [lX2_wander_2]; done) | (simp [lX2_wander_2]; done))
    | succ n ih =>
      intro x2_1 pl0_1 sp0_1 hr1 hV1
      refine r_iload_n (pc := 2) C dX2_wander_2 2 rfl ?_
      refine r_bipush (pc := 3) 6 C dX2_wander_3 rfl ?_
      refine r_icmpgeN (pc := 5) x2_1 6 89 C dX2_wander_5 (by decide) rfl rfl (by omega) (by omega) (fun c_3 => absurd c_3 (by omega)) (fun _ => ?_)
      refine r_aload_n (pc := 8) C dX2_wander_8 0 rfl ?_
      refine r_iload_n (pc := 9) C dX2_wander_9 2 rfl ?_
      obtain ⟨r_4, e_r_4⟩ : ∃ z : Int32, z = fX2_stands sp0_1 x2_1 := ⟨_, rfl⟩
      have K_5 := ctX2_stands l g za zp zq pl0_1 sp0_1 be ti x2_1 (by omega)
      rw [← e_r_4] at K_5
      refine w_pI (pc := 10) C mv_X2_38 K_5 dX2_wander_10 (by decide) [0] rfl (by decide) 0 rfl rfl (Nat.le_of_ble_eq_true rfl) ⟨Nat.zero_le _, Nat.zero_le _⟩ ?_
      refine r_ifeq (pc := 13) 83 C dX2_wander_13 (by decide) (fun c_6 => ?_) (fun c_6 => ?_)
      · refine r_iinc (pc := 83) (nI (x2_1 + 1)) [(2, .int (nI (x2_1 + 1))), (0, .ref za), (1, .ref zb)] C dX2_wander_83 2 rfl (inc1 _) (by decide) rfl ?_
        refine r_goto (pc := 86) 2 C dX2_wander_86 (by decide) ?_
        refine u_lv [(0, .ref za), (1, .ref zb), (2, .int (nI (x2_1 + 1)))] [1, 2, 0] rfl ?_
        exact ih (x2_1 + 1) pl0_1 sp0_1 (by omega) (by rw [← hV1]; first | (simp only [lX2_wander_2, ← e_r_4, if_pos c_6]; done) | (subst e_r_4; simp only [lX2_wander_2, if_pos c_6]; done) | (subst e_r_4; rfl) | (subst e_r_4; simp [lX2_wander_2, if_pos c_6]; done))
      · refine r_aload_n (pc := 16) C dX2_wander_16 0 rfl ?_
        refine r_get (pc := 17) C fl_X2_15 dX2_wander_17 0 rfl rfl ?_
        refine r_iload_n (pc := 20) C dX2_wander_20 2 rfl ?_
        refine r_iald (pc := 21) x2_1 C dX2_wander_21 2 rfl rfl (by omega) (by decide) ?_
        refine r_aload_n (pc := 22) C dX2_wander_22 1 rfl ?_
        refine r_get (pc := 23) C fl_X2_73 dX2_wander_23 3 rfl rfl ?_
        refine r_icmple (pc := 26) 32 C dX2_wander_26 (by decide) (fun c_7 => ?_) (fun c_7 => ?_)
        · refine r_aload_n (pc := 32) C dX2_wander_32 0 rfl ?_
          refine r_aload_n (pc := 33) C dX2_wander_33 0 rfl ?_
          refine r_get (pc := 34) C fl_X2_9 dX2_wander_34 0 rfl rfl ?_
          refine r_iload_n (pc := 37) C dX2_wander_37 2 rfl ?_
          refine r_iald (pc := 38) x2_1 C dX2_wander_38 1 rfl rfl (by omega) (by decide) ?_
          refine r_aload_n (pc := 39) C dX2_wander_39 1 rfl ?_
          refine r_get (pc := 40) C fl_X2_76 dX2_wander_40 3 rfl rfl ?_
          obtain ⟨r_8, e_r_8⟩ : ∃ z : Int32, z = fX2_neighbour ti (pl0_1 x2_1) pz := ⟨_, rfl⟩
          have K_9 := ctX2_neighbour l g za zp zq pl0_1 sp0_1 be ti (pl0_1 x2_1) pz 
          rw [← e_r_8] at K_9
          refine w_pI (pc := 43) C mv_X2_79 K_9 dX2_wander_43 (by decide) [0] rfl (by decide) 0 rfl rfl (Nat.le_of_ble_eq_true rfl) ⟨Nat.zero_le _, Nat.zero_le _⟩ ?_
          refine r_istore_n (pc := 46) [(3, .int r_8), (0, .ref za), (1, .ref zb), (2, .int (nI x2_1))] C dX2_wander_46 (by decide) rfl ?_
          refine r_aload_n (pc := 47) C dX2_wander_47 1 rfl ?_
          refine r_iload_n (pc := 48) C dX2_wander_48 0 rfl ?_
          obtain ⟨r_10, e_r_10⟩ : ∃ z : Int32, z = fX2_who pl0_1 sp0_1 r_8 := ⟨_, rfl⟩
          have K_11 := ctX2_who l g za zp zq pl0_1 sp0_1 be ti r_8 
          rw [← e_r_10] at K_11
          refine w_pI (pc := 49) C mv_X2_82 K_11 dX2_wander_49 (by decide) [0] rfl (by decide) 0 rfl rfl (Nat.le_of_ble_eq_true rfl) ⟨Nat.zero_le _, Nat.zero_le _⟩ ?_
          refine r_istore (pc := 52) [(4, .int r_10), (3, .int r_8), (0, .ref za), (1, .ref zb), (2, .int (nI x2_1))] C dX2_wander_52 (by decide) rfl ?_
          refine r_iload (pc := 54) C dX2_wander_54 0 rfl ?_
          refine r_bipush (pc := 56) (-9) C dX2_wander_56 rfl ?_
          have hJ_19 : ∀ (pl_17 : Nat → Int32) (sp_18 : Nat → Int32) , (pl_17 = (if r_10 = (-9) then ((pl0_1, sp0_1)) else (let pl_14 : Nat → Int32 := (fX2_meet pl0_1 sp0_1 x2_1 r_10.toNatClampNeg).1; let sp_15 : Nat → Int32 := (fX2_meet pl0_1 sp0_1 x2_1 r_10.toNatClampNeg).2; (pl_14, sp_15)) : (Nat → Int32) × (Nat → Int32)).1) → (sp_18 = (if r_10 = (-9) then ((pl0_1, sp0_1)) else (let pl_14 : Nat → Int32 := (fX2_meet pl0_1 sp0_1 x2_1 r_10.toNatClampNeg).1; let sp_15 : Nat → Int32 := (fX2_meet pl0_1 sp0_1 x2_1 r_10.toNatClampNeg).2; (pl_14, sp_15)) : (Nat → Int32) × (Nat → Int32)).2) → Vw g X 5 0 0 (fl [wMom g za zp zq pl_17 sp_18 be ti, wTol g zb zd dr pz sl tp]) 68 [(0, .ref za), (1, .ref zb), (2, .int (nI x2_1)), (3, .int r_8)] [] := by
            intro pl_17 sp_18 e_pl_17 e_sp_18
            refine r_aload_n (pc := 68) C dX2_wander_68 0 rfl ?_
            refine r_iload_n (pc := 69) C dX2_wander_69 2 rfl ?_
            obtain ⟨r_20, e_r_20⟩ : ∃ z : Int32, z = fX2_stands sp_18 x2_1 := ⟨_, rfl⟩
            have K_21 := ctX2_stands l g za zp zq pl_17 sp_18 be ti x2_1 (by omega)
            rw [← e_r_20] at K_21
            refine w_pI (pc := 70) C mv_X2_38 K_21 dX2_wander_70 (by decide) [0] rfl (by decide) 0 rfl rfl (Nat.le_of_ble_eq_true rfl) ⟨Nat.zero_le _, Nat.zero_le _⟩ ?_
            refine r_ifeq (pc := 73) 83 C dX2_wander_73 (by decide) (fun c_22 => ?_) (fun c_22 => ?_)
            · refine r_iinc (pc := 83) (nI (x2_1 + 1)) [(2, .int (nI (x2_1 + 1))), (0, .ref za), (1, .ref zb), (3, .int r_8)] C dX2_wander_83 2 rfl (inc1 _) (by decide) rfl ?_
              refine r_goto (pc := 86) 2 C dX2_wander_86 (by decide) ?_
              refine u_lv [(0, .ref za), (1, .ref zb), (2, .int (nI (x2_1 + 1)))] [1, 2, 0] rfl ?_
              exact ih (x2_1 + 1) pl_17 sp_18 (by omega) (by rw [← hV1]; first | (simp only [lX2_wander_2, ← e_r_4, ← e_r_8, ← e_r_10, ← e_pl_17, ← e_sp_18, ← e_r_20, if_neg c_6, if_pos c_7, if_pos c_22]; done) | (subst e_r_4 e_r_8 e_r_10 e_pl_17 e_sp_18 e_r_20; simp only [lX2_wander_2, if_neg c_6, if_pos c_7, if_pos c_22]; done) | (subst e_r_4 e_r_8 e_r_10 e_pl_17 e_sp_18 e_r_20; rfl) | (subst e_r_4 e_r_8 e_r_10 e_pl_17 e_sp_18 e_r_20; simp [lX2_wander_2, if_neg c_6, if_pos c_7, if_pos c_22]; done))
            · refine r_aload_n (pc := 76) C dX2_wander_76 0 rfl ?_
              refine r_get (pc := 77) C fl_X2_9 dX2_wander_77 0 rfl rfl ?_
              refine r_iload_n (pc := 80) C dX2_wander_80 2 rfl ?_
              refine r_iload_n (pc := 81) C dX2_wander_81 3 rfl ?_
              obtain ⟨pl_23, e_pl_23⟩ : ∃ z : Nat → Int32, z = upd pl_17 x2_1 r_8 := ⟨_, rfl⟩
              refine r_iast (pc := 82) x2_1 (fl [wMom g za zp zq pl_23 sp_18 be ti, wTol g zb zd dr pz sl tp]) C dX2_wander_82 1 rfl rfl (by omega) (by decide) (by rw [← e_pl_23]; rfl) ?_
              refine r_iinc (pc := 83) (nI (x2_1 + 1)) [(2, .int (nI (x2_1 + 1))), (0, .ref za), (1, .ref zb), (3, .int r_8)] C dX2_wander_83 2 rfl (inc1 _) (by decide) rfl ?_
              refine r_goto (pc := 86) 2 C dX2_wander_86 (by decide) ?_
              refine u_lv [(0, .ref za), (1, .ref zb), (2, .int (nI (x2_1 + 1)))] [1, 2, 0] rfl ?_
              exact ih (x2_1 + 1) pl_23 sp_18 (by omega) (by rw [← hV1]; first | (simp only [lX2_wander_2, ← e_r_4, ← e_r_8, ← e_r_10, ← e_pl_17, ← e_sp_18, ← e_r_20, ← e_pl_23, if_neg c_6, if_pos c_7, if_neg c_22]; done) | (subst e_r_4 e_r_8 e_r_10 e_pl_17 e_sp_18 e_r_20 e_pl_23; simp only [lX2_wander_2, if_neg c_6, if_pos c_7, if_neg c_22]; done) | (subst e_r_4 e_r_8 e_r_10 e_pl_17 e_sp_18 e_r_20 e_pl_23; rfl) | (subst e_r_4 e_r_8 e_r_10 e_pl_17 e_sp_18 e_r_20 e_pl_23; simp [lX2_wander_2, if_neg c_6, if_pos c_7, if_neg c_22]; done))
          refine r_icmpeq (pc := 58) 68 C dX2_wander_58 (by decide) (fun c_12 => ?_) (fun c_12 => ?_)
          · refine u_lv [(0, .ref za), (1, .ref zb), (2, .int (nI x2_1)), (3, .int r_8)] [2, 3, 4, 1] rfl ?_
            exact hJ_19 _ _ (by first | (simp only [if_pos c_12]; done) | rfl | (simp [if_pos c_12]; done)) (by first | (simp only [if_pos c_12]; done) | rfl | (simp [if_pos c_12]; done))
          · obtain ⟨h_13, qh_13⟩ := natc (x := r_10) (B := 6) (by omega) (by subst e_r_10; exact who_nat c_12)
            refine u_lvq [(4, .int (nI r_10.toNatClampNeg)), (3, .int r_8), (0, .ref za), (1, .ref zb), (2, .int (nI x2_1))] (by rw [qh_13]) ?_
            refine r_aload_n (pc := 61) C dX2_wander_61 2 rfl ?_
            refine r_iload_n (pc := 62) C dX2_wander_62 4 rfl ?_
            refine r_iload (pc := 63) C dX2_wander_63 0 rfl ?_
            obtain ⟨pl_14, e_pl_14⟩ : ∃ z : Nat → Int32, z = (fX2_meet pl0_1 sp0_1 x2_1 r_10.toNatClampNeg).1 := ⟨_, rfl⟩
            obtain ⟨sp_15, e_sp_15⟩ : ∃ z : Nat → Int32, z = (fX2_meet pl0_1 sp0_1 x2_1 r_10.toNatClampNeg).2 := ⟨_, rfl⟩
            have K_16 := ctX2_meet l g za zp zq pl0_1 sp0_1 be ti x2_1 r_10.toNatClampNeg (by omega) (by omega)
            rw [← e_pl_14, ← e_sp_15] at K_16
            refine w_cV (pc := 65) [wMom g za zp zq pl_14 sp_15 be ti, wTol g zb zd dr pz sl tp] C mv_X2_85 K_16 dX2_wander_65 (by decide) [0] rfl (by decide) (by simp only [List.map_cons, List.map_nil, adMom]) rfl 0 rfl rfl (Nat.le_of_ble_eq_true rfl) ⟨Nat.zero_le _, Nat.zero_le _⟩ ?_
            refine u_lv [(0, .ref za), (1, .ref zb), (2, .int (nI x2_1)), (3, .int r_8)] [2, 3, 4, 1] rfl ?_
            exact hJ_19 _ _ (by first | (simp only [← e_pl_14, ← e_sp_15, if_neg c_12]; done) | (subst e_pl_14 e_sp_15; simp only [if_neg c_12]; done) | (subst e_pl_14 e_sp_15; rfl) | (subst e_pl_14 e_sp_15; simp [if_neg c_12]; done)) (by first | (simp only [← e_pl_14, ← e_sp_15, if_neg c_12]; done) | (subst e_pl_14 e_sp_15; simp only [if_neg c_12]; done) | (subst e_pl_14 e_sp_15; rfl) | (subst e_pl_14 e_sp_15; simp [if_neg c_12]; done))
        · refine r_goto (pc := 29) 83 C dX2_wander_29 (by decide) ?_
          refine r_iinc (pc := 83) (nI (x2_1 + 1)) [(2, .int (nI (x2_1 + 1))), (0, .ref za), (1, .ref zb)] C dX2_wander_83 2 rfl (inc1 _) (by decide) rfl ?_
          refine r_goto (pc := 86) 2 C dX2_wander_86 (by decide) ?_
          refine u_lv [(0, .ref za), (1, .ref zb), (2, .int (nI (x2_1 + 1)))] [1, 2, 0] rfl ?_
          exact ih (x2_1 + 1) pl0_1 sp0_1 (by omega) (by rw [← hV1]; first | (simp only [lX2_wander_2, ← e_r_4, if_neg c_6, if_neg c_7]; done) | (subst e_r_4; simp only [lX2_wander_2, if_neg c_6, if_neg c_7]; done) | (subst e_r_4; rfl) | (subst e_r_4; simp [lX2_wander_2, if_neg c_6, if_neg c_7]; done))
  refine u_lv [(0, .ref za), (1, .ref zb), (2, .int 0)] [1, 2, 0] rfl ?_
  exact hL1 6 0 pl sp (by omega) rfl
theorem ctX2_wander (l : Launch) (g : Gl) (za : Nat) (zp : Nat) (zq : Nat) (zb : Nat) (zd : Nat) (pl : Nat → Int32) (sp : Nat → Int32) (be : Int32) (ti : Int32) (dr : Nat → Int32) (pz : Int32) (sl : Int32) (tp : Nat) : CtV l g yX2_wander cX2_wander 5 2 [.ref za, .ref zb] (fl [wMom g za zp zq pl sp be ti, wTol g zb zd dr pz sl tp]) (fl [wMom g za zp zq ((fX2_wander pl sp ti pz sl).1) ((fX2_wander pl sp ti pz sl).2) be ti, wTol g zb zd dr pz sl tp]) := mkV [(0, .ref za), (1, .ref zb)] (by decide) (Nat.le_of_ble_eq_true rfl) rfl (fun X C hR => bX2_wander C za zp zq zb zd pl sp be ti dr pz sl tp hR)

def lX2_goBy_8 (dr : Nat → Int32) (ti : Int32) (pz : Int32) (sl : Int32) : Nat → (Nat) → (Nat → Int32) → (Nat → Int32) → (Int32) → (Nat → Int32) × (Nat → Int32) × (Int32)
  | 0, x4_3, pl0_3, sp0_3, be0_3 => ((pl0_3, sp0_3, be0_3))
  | n + 1, x4_3, pl0_3, sp0_3, be0_3 => (let be_6 : Int32 := be0_3 + 1; let pl_7 : Nat → Int32 := (fX2_slowDown pl0_3 sp0_3 dr).1; let sp_8 : Nat → Int32 := (fX2_slowDown pl0_3 sp0_3 dr).2; if ti = 0 then (lX2_goBy_8 dr ti pz sl n (x4_3 + 1) pl_7 sp_8 be_6) else (let pl_11 : Nat → Int32 := (fX2_wander pl_7 sp_8 ti pz sl).1; let sp_12 : Nat → Int32 := (fX2_wander pl_7 sp_8 ti pz sl).2; lX2_goBy_8 dr ti pz sl n (x4_3 + 1) pl_11 sp_12 be_6))
def fX2_goBy (pl : Nat → Int32) (sp : Nat → Int32) (be : Int32) (ti : Int32) (dr : Nat → Int32) (pz : Int32) (sl : Int32) (m : Nat) : (Int32) × (Nat → Int32) × (Nat → Int32) × (Int32) := (let r_1 : Int32 := fX2_howMany sp; let o3 := lX2_goBy_8 dr ti pz sl m 0 pl sp be; let pl0_14 : Nat → Int32 := o3.1; let sp0_15 : Nat → Int32 := o3.2.1; let be0_16 : Int32 := o3.2.2; let r_17 : Int32 := fX2_howMany sp0_15; ((r_1 - r_17), pl0_14, sp0_15, be0_16))
set_option maxHeartbeats 4000000 in
set_option maxRecDepth 100000 in
theorem bX2_goBy {l : Launch} {g : Gl} {X : Cx} (C : Ok l g X RX2 cX2_goBy 5 3) (za : Nat) (zp : Nat) (zq : Nat) (zb : Nat) (zd : Nat) (pl : Nat → Int32) (sp : Nat → Int32) (be : Int32) (ti : Int32) (dr : Nat → Int32) (pz : Int32) (sl : Int32) (tp : Nat) (m : Nat) (q0 : m < 2 ^ 31) (hR : RetI g X cX2_goBy 5 0 0 ((fX2_goBy pl sp be ti dr pz sl m).1) (fl [wMom g za zp zq ((fX2_goBy pl sp be ti dr pz sl m).2.1) ((fX2_goBy pl sp be ti dr pz sl m).2.2.1) ((fX2_goBy pl sp be ti dr pz sl m).2.2.2) ti, wTol g zb zd dr pz sl tp])) : Vw g X 5 0 0 (fl [wMom g za zp zq pl sp be ti, wTol g zb zd dr pz sl tp]) 0 [(0, .ref za), (1, .ref zb), (2, .int (nI m))] [] := by
  refine r_aload_n (pc := 0) C dX2_goBy_0 0 rfl ?_
  obtain ⟨r_1, e_r_1⟩ : ∃ z : Int32, z = fX2_howMany sp := ⟨_, rfl⟩
  have K_2 := ctX2_howMany l g za zp zq pl sp be ti  
  rw [← e_r_1] at K_2
  refine w_pI (pc := 1) C mv_X2_58 K_2 dX2_goBy_1 (by decide) [0] rfl (by decide) 0 rfl rfl (Nat.le_of_ble_eq_true rfl) ⟨Nat.zero_le _, Nat.zero_le _⟩ ?_
  refine r_istore_n (pc := 4) [(3, .int r_1), (0, .ref za), (1, .ref zb), (2, .int (nI m))] C dX2_goBy_4 (by decide) rfl ?_
  refine r_iconst (pc := 5) 0 C dX2_goBy_5 rfl ?_
  refine r_istore (pc := 6) [(4, .int 0), (3, .int r_1), (0, .ref za), (1, .ref zb), (2, .int (nI m))] C dX2_goBy_6 (by decide) rfl ?_
  have hX3 : ∀ (pl0_14 : Nat → Int32) (sp0_15 : Nat → Int32) (be0_16 : Int32) , (pl0_14 = (lX2_goBy_8 dr ti pz sl m 0 pl sp be).1) → (sp0_15 = (lX2_goBy_8 dr ti pz sl m 0 pl sp be).2.1) → (be0_16 = (lX2_goBy_8 dr ti pz sl m 0 pl sp be).2.2) → Vw g X 5 0 0 (fl [wMom g za zp zq pl0_14 sp0_15 be0_16 ti, wTol g zb zd dr pz sl tp]) 47 [(0, .ref za), (3, .int r_1)] [] := by
    intro pl0_14 sp0_15 be0_16 e_pl0_14 e_sp0_15 e_be0_16 
    refine r_iload_n (pc := 47) C dX2_goBy_47 1 rfl ?_
    refine r_aload_n (pc := 48) C dX2_goBy_48 0 rfl ?_
    obtain ⟨r_17, e_r_17⟩ : ∃ z : Int32, z = fX2_howMany sp0_15 := ⟨_, rfl⟩
    have K_18 := ctX2_howMany l g za zp zq pl0_14 sp0_15 be0_16 ti  
    rw [← e_r_17] at K_18
    refine w_pI (pc := 49) C mv_X2_58 K_18 dX2_goBy_49 (by decide) [0] rfl (by decide) 0 rfl rfl (Nat.le_of_ble_eq_true rfl) ⟨Nat.zero_le _, Nat.zero_le _⟩ ?_
    refine r_isub (pc := 52) C dX2_goBy_52 ?_
    have hf : fX2_goBy pl sp be ti dr pz sl m = ((r_1 - r_17), pl0_14, sp0_15, be0_16) := by first | (simp only [fX2_goBy, ← e_r_1, ← e_pl0_14, ← e_sp0_15, ← e_be0_16, ← e_r_17]; done) | (subst e_r_1 e_pl0_14 e_sp0_15 e_be0_16 e_r_17; rfl) | (subst e_r_1 e_pl0_14 e_sp0_15 e_be0_16 e_r_17; simp only [fX2_goBy]; done)
    rw [hf] at hR
    exact hR _ _ dX2_goBy_53
  have hL3 : ∀ (n : Nat) (x4_3 : Nat) (pl0_3 : Nat → Int32) (sp0_3 : Nat → Int32) (be0_3 : Int32) , (x4_3 + n = m) → lX2_goBy_8 dr ti pz sl n x4_3 pl0_3 sp0_3 be0_3 = lX2_goBy_8 dr ti pz sl m 0 pl sp be → Vw g X 5 0 0 (fl [wMom g za zp zq pl0_3 sp0_3 be0_3 ti, wTol g zb zd dr pz sl tp]) 8 [(0, .ref za), (1, .ref zb), (2, .int (nI m)), (3, .int r_1), (4, .int (nI x4_3))] [] := by
    intro n
    induction n with
    | zero =>
      intro x4_3 pl0_3 sp0_3 be0_3 hr3 hV3
      refine r_iload (pc := 8) C dX2_goBy_8 4 rfl ?_
      refine r_iload_n (pc := 10) C dX2_goBy_10 2 rfl ?_
      refine r_icmpgeN (pc := 11) x4_3 m 47 C dX2_goBy_11 (by decide) rfl rfl (by omega) (by omega) (fun _ => ?_) (fun c_4 => absurd (by omega) c_4)
      refine u_lv [(0, .ref za), (3, .int r_1)] [0, 3] rfl ?_
      exact hX3 _ _ _ (by rw [← hV3]; first | rfl | (simp only [lX2_goBy_8]; done) | (simp [lX2_goBy_8]; done)) (by rw [← hV3]; first | rfl | (simp only [lX2_goBy_8]; done) | (simp [lX2_goBy_8]; done)) (by rw [← hV3]; first | rfl | (simp only [lX2_goBy_8]; done) | (simp [lX2_goBy_8]; done))
    | succ n ih =>
      intro x4_3 pl0_3 sp0_3 be0_3 hr3 hV3
      refine r_iload (pc := 8) C dX2_goBy_8 4 rfl ?_
      refine r_iload_n (pc := 10) C dX2_goBy_10 2 rfl ?_
      refine r_icmpgeN (pc := 11) x4_3 m 47 C dX2_goBy_11 (by decide) rfl rfl (by omega) (by omega) (fun c_5 => absurd c_5 (by omega)) (fun _ => ?_)
      refine r_aload_n (pc := 14) C dX2_goBy_14 0 rfl ?_
      refine r_dup (pc := 15) C dX2_goBy_15 rfl ?_
      refine r_get (pc := 16) C fl_X2_18 dX2_goBy_16 0 rfl rfl ?_
      refine r_iconst (pc := 19) 1 C dX2_goBy_19 rfl ?_
      refine r_iadd (pc := 20) C dX2_goBy_20 ?_
      refine u_int (fun be_6 e_be_6 => ?_)
      refine r_put (pc := 21) (fl [wMom g za zp zq pl0_3 sp0_3 be_6 ti, wTol g zb zd dr pz sl tp]) C fp_X2_18 dX2_goBy_21 0 rfl (Nat.le_of_ble_eq_true rfl) rfl rfl rfl ?_
      refine r_aload_n (pc := 24) C dX2_goBy_24 0 rfl ?_
      refine r_aload_n (pc := 25) C dX2_goBy_25 1 rfl ?_
      obtain ⟨pl_7, e_pl_7⟩ : ∃ z : Nat → Int32, z = (fX2_slowDown pl0_3 sp0_3 dr).1 := ⟨_, rfl⟩
      obtain ⟨sp_8, e_sp_8⟩ : ∃ z : Nat → Int32, z = (fX2_slowDown pl0_3 sp0_3 dr).2 := ⟨_, rfl⟩
      have K_9 := ctX2_slowDown l g za zp zq zb zd pl0_3 sp0_3 be_6 ti dr pz sl tp  
      rw [← e_pl_7, ← e_sp_8] at K_9
      refine w_cV (pc := 26) [wMom g za zp zq pl_7 sp_8 be_6 ti, wTol g zb zd dr pz sl tp] C mv_X2_61 K_9 dX2_goBy_26 (by decide) [0, 1] rfl (by decide) (by simp only [List.map_cons, List.map_nil, adMom, adTol]) rfl 0 rfl rfl (Nat.le_of_ble_eq_true rfl) ⟨Nat.zero_le _, Nat.zero_le _⟩ ?_
      refine r_aload_n (pc := 29) C dX2_goBy_29 0 rfl ?_
      refine r_get (pc := 30) C fl_X2_22 dX2_goBy_30 0 rfl rfl ?_
      refine r_ifeq (pc := 33) 41 C dX2_goBy_33 (by decide) (fun c_10 => ?_) (fun c_10 => ?_)
      · refine r_iinc (pc := 41) (nI (x4_3 + 1)) [(4, .int (nI (x4_3 + 1))), (0, .ref za), (1, .ref zb), (2, .int (nI m)), (3, .int r_1)] C dX2_goBy_41 4 rfl (inc1 _) (by decide) rfl ?_
        refine r_goto (pc := 44) 8 C dX2_goBy_44 (by decide) ?_
        refine u_lv [(0, .ref za), (1, .ref zb), (2, .int (nI m)), (3, .int r_1), (4, .int (nI (x4_3 + 1)))] [1, 2, 3, 4, 0] rfl ?_
        exact ih (x4_3 + 1) pl_7 sp_8 be_6 (by omega) (by rw [← hV3]; first | (simp only [lX2_goBy_8, ← e_be_6, ← e_pl_7, ← e_sp_8, if_pos c_10]; done) | (subst e_be_6 e_pl_7 e_sp_8; simp only [lX2_goBy_8, if_pos c_10]; done) | (subst e_be_6 e_pl_7 e_sp_8; rfl) | (subst e_be_6 e_pl_7 e_sp_8; simp [lX2_goBy_8, if_pos c_10]; done))
      · refine r_aload_n (pc := 36) C dX2_goBy_36 0 rfl ?_
        refine r_aload_n (pc := 37) C dX2_goBy_37 1 rfl ?_
        obtain ⟨pl_11, e_pl_11⟩ : ∃ z : Nat → Int32, z = (fX2_wander pl_7 sp_8 ti pz sl).1 := ⟨_, rfl⟩
        obtain ⟨sp_12, e_sp_12⟩ : ∃ z : Nat → Int32, z = (fX2_wander pl_7 sp_8 ti pz sl).2 := ⟨_, rfl⟩
        have K_13 := ctX2_wander l g za zp zq zb zd pl_7 sp_8 be_6 ti dr pz sl tp  
        rw [← e_pl_11, ← e_sp_12] at K_13
        refine w_cV (pc := 38) [wMom g za zp zq pl_11 sp_12 be_6 ti, wTol g zb zd dr pz sl tp] C mv_X2_65 K_13 dX2_goBy_38 (by decide) [0, 1] rfl (by decide) (by simp only [List.map_cons, List.map_nil, adMom, adTol]) rfl 0 rfl rfl (Nat.le_of_ble_eq_true rfl) ⟨Nat.zero_le _, Nat.zero_le _⟩ ?_
        refine r_iinc (pc := 41) (nI (x4_3 + 1)) [(4, .int (nI (x4_3 + 1))), (0, .ref za), (1, .ref zb), (2, .int (nI m)), (3, .int r_1)] C dX2_goBy_41 4 rfl (inc1 _) (by decide) rfl ?_
        refine r_goto (pc := 44) 8 C dX2_goBy_44 (by decide) ?_
        refine u_lv [(0, .ref za), (1, .ref zb), (2, .int (nI m)), (3, .int r_1), (4, .int (nI (x4_3 + 1)))] [1, 2, 3, 4, 0] rfl ?_
        exact ih (x4_3 + 1) pl_11 sp_12 be_6 (by omega) (by rw [← hV3]; first | (simp only [lX2_goBy_8, ← e_be_6, ← e_pl_7, ← e_sp_8, ← e_pl_11, ← e_sp_12, if_neg c_10]; done) | (subst e_be_6 e_pl_7 e_sp_8 e_pl_11 e_sp_12; simp only [lX2_goBy_8, if_neg c_10]; done) | (subst e_be_6 e_pl_7 e_sp_8 e_pl_11 e_sp_12; rfl) | (subst e_be_6 e_pl_7 e_sp_8 e_pl_11 e_sp_12; simp [lX2_goBy_8, if_neg c_10]; done))
  refine u_lv [(0, .ref za), (1, .ref zb), (2, .int (nI m)), (3, .int r_1), (4, .int 0)] [2, 3, 4, 1, 0] rfl ?_
  exact hL3 m 0 pl sp be (by omega) rfl
theorem ctX2_goBy (l : Launch) (g : Gl) (za : Nat) (zp : Nat) (zq : Nat) (zb : Nat) (zd : Nat) (pl : Nat → Int32) (sp : Nat → Int32) (be : Int32) (ti : Int32) (dr : Nat → Int32) (pz : Int32) (sl : Int32) (tp : Nat) (m : Nat) (q0 : m < 2 ^ 31) : CtI l g yX2_goBy cX2_goBy 5 (some .int) 3 [.ref za, .ref zb, .int (nI m)] (fl [wMom g za zp zq pl sp be ti, wTol g zb zd dr pz sl tp]) ((fX2_goBy pl sp be ti dr pz sl m).1) (fl [wMom g za zp zq ((fX2_goBy pl sp be ti dr pz sl m).2.1) ((fX2_goBy pl sp be ti dr pz sl m).2.2.1) ((fX2_goBy pl sp be ti dr pz sl m).2.2.2) ti, wTol g zb zd dr pz sl tp]) := mkI .int rfl rfl [(0, .ref za), (1, .ref zb), (2, .int (nI m))] (by decide) (Nat.le_of_ble_eq_true rfl) rfl (fun X C hR => bX2_goBy C za zp zq zb zd pl sp be ti dr pz sl tp m q0 hR)
