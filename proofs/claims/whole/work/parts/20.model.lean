def fX9_in (v : Int64) (lo : Int64) (hi : Int64) : (Int32) := (if (lg_cmp v lo) < 0 then (0) else (if 0 < (lg_cmp v hi) then (0) else (1)))
set_option maxHeartbeats 4000000 in
set_option maxRecDepth 100000 in
theorem bX9_in {l : Launch} {g : Gl} {X : Cx} (C : Ok l g X RX9 cX9_in 6 0) (v : Int64) (lo : Int64) (hi : Int64) (hR : RetI g X cX9_in 6 0 0 (fX9_in v lo hi) (fl [])) : Vw g X 6 0 0 (fl []) 0 [(0, .long v), (2, .long lo), (4, .long hi)] [] := by
  refine r_lload_n (pc := 0) C dX9_in_0 0 rfl ?_
  refine r_lload_n (pc := 1) C dX9_in_1 1 rfl ?_
  refine r_lcmp (pc := 2) C dX9_in_2 ?_
  refine r_iflt (pc := 3) 17 C dX9_in_3 (by decide) (fun c_1 => ?_) (fun c_1 => ?_)
  · refine r_iconst (pc := 17) 0 C dX9_in_17 rfl ?_
    have hf : fX9_in v lo hi = 0 := by first | (simp only [fX9_in, if_pos c_1]; done) | rfl | (simp [fX9_in, if_pos c_1]; done)
    rw [hf] at hR
    exact hR _ _ dX9_in_18
  · refine r_lload_n (pc := 6) C dX9_in_6 0 rfl ?_
    refine r_lload (pc := 7) C dX9_in_7 2 rfl ?_
    refine r_lcmp (pc := 9) C dX9_in_9 ?_
    refine r_ifgt (pc := 10) 17 C dX9_in_10 (by decide) (fun c_2 => ?_) (fun c_2 => ?_)
    · refine r_iconst (pc := 17) 0 C dX9_in_17 rfl ?_
      have hf : fX9_in v lo hi = 0 := by first | (simp only [fX9_in, if_neg c_1, if_pos c_2]; done) | rfl | (simp [fX9_in, if_neg c_1, if_pos c_2]; done)
      rw [hf] at hR
      exact hR _ _ dX9_in_18
    · refine r_iconst (pc := 13) 1 C dX9_in_13 rfl ?_
      refine r_goto (pc := 14) 18 C dX9_in_14 (by decide) ?_
      have hf : fX9_in v lo hi = 1 := by first | (simp only [fX9_in, if_neg c_1, if_neg c_2]; done) | rfl | (simp [fX9_in, if_neg c_1, if_neg c_2]; done)
      rw [hf] at hR
      exact hR _ _ dX9_in_18
theorem zX9_in (v : Int64) (lo : Int64) (hi : Int64) : fX9_in v lo hi = 0 ∨ fX9_in v lo hi = 1 := by unfold fX9_in; repeat (first | split | simp)
theorem ctX9_in (l : Launch) (g : Gl) (v : Int64) (lo : Int64) (hi : Int64) : CtI l g yX9_in cX9_in 6 (some .boolean) 0 [.long v, .long lo, .long hi] (fl []) (fX9_in v lo hi) (fl []) := mkI .boolean rfl (nar_b (zX9_in v lo hi)) [(0, .long v), (2, .long lo), (4, .long hi)] (by decide) (Nat.le_of_ble_eq_true rfl) rfl (fun X C hR => bX9_in C v lo hi hR)
theorem in_ne {v lo hi : Int64} (h : ¬ fX9_in v lo hi = 0) : ¬ v < lo ∧ ¬ hi < v := by
  simp only [fX9_in] at h
  split at h
  · exact absurd rfl h
  · split at h
    · exact absurd rfl h
    · rename_i h1 h2
      exact ⟨fun q => h1 ((lg_cmp_lt _ _).mpr q), fun q => h2 ((lg_cmp_gt _ _).mpr q)⟩
theorem in_nat {x : Int32} {b : Int64} {B : Nat} (hB : b.toInt < B) (h : ¬ fX9_in x.toInt64 0 b = 0) : ∃ j, j < B ∧ x = nI j := by
  obtain ⟨h1, h2⟩ := in_ne h
  rw [Int64.lt_iff_toInt_lt, Int32.toInt_toInt64] at h1 h2
  have h0 : ¬ x < 0 := by
    rw [Int32.lt_iff_toInt_lt]
    exact h1
  obtain ⟨j, hj, rfl⟩ := nI_of h0
  refine ⟨j, ?_, rfl⟩
  rw [nI_toInt hj] at h2
  omega

def fX9_has (v : Int32) (k : Int32) : (Int32) := (if ((v >>> (k &&& 31)) &&& 1) = 1 then (1) else (0))
set_option maxHeartbeats 4000000 in
set_option maxRecDepth 100000 in
theorem bX9_has {l : Launch} {g : Gl} {X : Cx} (C : Ok l g X RX9 cX9_has 2 0) (v : Int32) (k : Int32) (hR : RetI g X cX9_has 2 0 0 (fX9_has v k) (fl [])) : Vw g X 2 0 0 (fl []) 0 [(0, .int v), (1, .int k)] [] := by
  refine r_iload_n (pc := 0) C dX9_has_0 0 rfl ?_
  refine r_iload_n (pc := 1) C dX9_has_1 1 rfl ?_
  refine r_ishr (pc := 2) C dX9_has_2 ?_
  refine r_iconst (pc := 3) 1 C dX9_has_3 rfl ?_
  refine r_iand (pc := 4) C dX9_has_4 ?_
  refine r_iconst (pc := 5) 1 C dX9_has_5 rfl ?_
  refine r_icmpne (pc := 6) 13 C dX9_has_6 (by decide) (fun c_1 => ?_) (fun c_1 => ?_)
  · refine r_iconst (pc := 13) 0 C dX9_has_13 rfl ?_
    have hf : fX9_has v k = 0 := by first | (simp only [fX9_has, if_neg c_1]; done) | rfl | (simp [fX9_has, if_neg c_1]; done)
    rw [hf] at hR
    exact hR _ _ dX9_has_14
  · refine r_iconst (pc := 9) 1 C dX9_has_9 rfl ?_
    refine r_goto (pc := 10) 14 C dX9_has_10 (by decide) ?_
    have hf : fX9_has v k = 1 := by first | (simp only [fX9_has, if_pos c_1]; done) | rfl | (simp [fX9_has, if_pos c_1]; done)
    rw [hf] at hR
    exact hR _ _ dX9_has_14
theorem zX9_has (v : Int32) (k : Int32) : fX9_has v k = 0 ∨ fX9_has v k = 1 := by unfold fX9_has; repeat (first | split | simp)
theorem ctX9_has (l : Launch) (g : Gl) (v : Int32) (k : Int32) : CtI l g yX9_has cX9_has 2 (some .boolean) 0 [.int v, .int k] (fl []) (fX9_has v k) (fl []) := mkI .boolean rfl (nar_b (zX9_has v k)) [(0, .int v), (1, .int k)] (by decide) (Nat.le_of_ble_eq_true rfl) rfl (fun X C hR => bX9_has C v k hR)

def lX9_bits_4 (v : Int32) : Nat → (Int32) → (Nat) → (Int32)
  | 0, x1_1, x2_1 => (x1_1)
  | n + 1, x1_1, x2_1 => (let y_4 : Int32 := x1_1 + ((v >>> ((nI x2_1) &&& 31)) &&& 1); lX9_bits_4 v n y_4 (x2_1 + 1))
def fX9_bits (v : Int32) : (Int32) := (let x1_5 : Int32 := lX9_bits_4 v 6 0 0; x1_5)
set_option maxHeartbeats 4000000 in
set_option maxRecDepth 100000 in
theorem bX9_bits {l : Launch} {g : Gl} {X : Cx} (C : Ok l g X RX9 cX9_bits 3 0) (v : Int32) (hR : RetI g X cX9_bits 3 0 0 (fX9_bits v) (fl [])) : Vw g X 3 0 0 (fl []) 0 [(0, .int v)] [] := by
  refine r_iconst (pc := 0) 0 C dX9_bits_0 rfl ?_
  refine r_istore_n (pc := 1) [(1, .int 0), (0, .int v)] C dX9_bits_1 (by decide) rfl ?_
  refine r_iconst (pc := 2) 0 C dX9_bits_2 rfl ?_
  refine r_istore_n (pc := 3) [(2, .int 0), (1, .int 0), (0, .int v)] C dX9_bits_3 (by decide) rfl ?_
  have hX1 : ∀ (x1_5 : Int32) , (x1_5 = lX9_bits_4 v 6 0 0) → Vw g X 3 0 0 (fl []) 24 [(1, .int x1_5)] [] := by
    intro x1_5 e_x1_5 
    refine r_iload_n (pc := 24) C dX9_bits_24 0 rfl ?_
    have hf : fX9_bits v = x1_5 := by first | (simp only [fX9_bits, ← e_x1_5]; done) | (subst e_x1_5; rfl) | (subst e_x1_5; simp only [fX9_bits]; done)
    rw [hf] at hR
    exact hR _ _ dX9_bits_25
  have hL1 : ∀ (n : Nat) (x1_1 : Int32) (x2_1 : Nat) , (x2_1 + n = 6) → lX9_bits_4 v n x1_1 x2_1 = lX9_bits_4 v 6 0 0 → Vw g X 3 0 0 (fl []) 4 [(0, .int v), (1, .int x1_1), (2, .int (nI x2_1))] [] := by
    intro n
    induction n with
    | zero =>
      intro x1_1 x2_1 hr1 hV1
      refine r_iload_n (pc := 4) C dX9_bits_4 2 rfl ?_
      refine r_bipush (pc := 5) 6 C dX9_bits_5 rfl ?_
      refine r_icmpgeN (pc := 7) x2_1 6 24 C dX9_bits_7 (by decide) rfl rfl (by omega) (by omega) (fun _ => ?_) (fun c_2 => absurd (by omega) c_2)
      refine u_lv [(1, .int x1_1)] [1] rfl ?_
      exact hX1 _ (by rw [← hV1]; first | rfl | (simp only [lX9_bits_4]; done) | (simp [lX9_bits_4]; done))
    | succ n ih =>
      intro x1_1 x2_1 hr1 hV1
      refine r_iload_n (pc := 4) C dX9_bits_4 2 rfl ?_
      refine r_bipush (pc := 5) 6 C dX9_bits_5 rfl ?_
      refine r_icmpgeN (pc := 7) x2_1 6 24 C dX9_bits_7 (by decide) rfl rfl (by omega) (by omega) (fun c_3 => absurd c_3 (by omega)) (fun _ => ?_)
      refine r_iload_n (pc := 10) C dX9_bits_10 1 rfl ?_
      refine r_iload_n (pc := 11) C dX9_bits_11 0 rfl ?_
      refine r_iload_n (pc := 12) C dX9_bits_12 2 rfl ?_
      refine r_ishr (pc := 13) C dX9_bits_13 ?_
      refine r_iconst (pc := 14) 1 C dX9_bits_14 rfl ?_
      refine r_iand (pc := 15) C dX9_bits_15 ?_
      refine r_iadd (pc := 16) C dX9_bits_16 ?_
      refine u_int (fun y_4 e_y_4 => ?_)
      refine r_istore_n (pc := 17) [(1, .int y_4), (0, .int v), (2, .int (nI x2_1))] C dX9_bits_17 (by decide) rfl ?_
      refine r_iinc (pc := 18) (nI (x2_1 + 1)) [(2, .int (nI (x2_1 + 1))), (1, .int y_4), (0, .int v)] C dX9_bits_18 2 rfl (inc1 _) (by decide) rfl ?_
      refine r_goto (pc := 21) 4 C dX9_bits_21 (by decide) ?_
      refine u_lv [(0, .int v), (1, .int y_4), (2, .int (nI (x2_1 + 1)))] [2, 1, 0] rfl ?_
      exact ih y_4 (x2_1 + 1) (by omega) (by rw [← hV1]; first | (simp only [lX9_bits_4, ← e_y_4]; done) | (subst e_y_4; rfl) | (subst e_y_4; simp only [lX9_bits_4]; done))
  refine u_lv [(0, .int v), (1, .int 0), (2, .int 0)] [2, 1, 0] rfl ?_
  exact hL1 6 0 0 (by omega) rfl
theorem ctX9_bits (l : Launch) (g : Gl) (v : Int32) : CtI l g yX9_bits cX9_bits 3 (some .int) 0 [.int v] (fl []) (fX9_bits v) (fl []) := mkI .int rfl rfl [(0, .int v)] (by decide) (Nat.le_of_ble_eq_true rfl) rfl (fun X C hR => bX9_bits C v hR)

def fX9_larger (x : Int32) (y : Int32) : (Int32) := (if y ≤ x then (x) else (y))
set_option maxHeartbeats 4000000 in
set_option maxRecDepth 100000 in
theorem bX9_larger {l : Launch} {g : Gl} {X : Cx} (C : Ok l g X RX9 cX9_larger 2 0) (x : Int32) (y : Int32) (hR : RetI g X cX9_larger 2 0 0 (fX9_larger x y) (fl [])) : Vw g X 2 0 0 (fl []) 0 [(0, .int x), (1, .int y)] [] := by
  refine r_iload_n (pc := 0) C dX9_larger_0 0 rfl ?_
  refine r_iload_n (pc := 1) C dX9_larger_1 1 rfl ?_
  refine r_icmpge (pc := 2) 9 C dX9_larger_2 (by decide) (fun c_1 => ?_) (fun c_1 => ?_)
  · refine r_iload_n (pc := 9) C dX9_larger_9 0 rfl ?_
    have hf : fX9_larger x y = x := by first | (simp only [fX9_larger, if_pos c_1]; done) | rfl | (simp [fX9_larger, if_pos c_1]; done)
    rw [hf] at hR
    exact hR _ _ dX9_larger_10
  · refine r_iload_n (pc := 5) C dX9_larger_5 1 rfl ?_
    refine r_goto (pc := 6) 10 C dX9_larger_6 (by decide) ?_
    have hf : fX9_larger x y = y := by first | (simp only [fX9_larger, if_neg c_1]; done) | rfl | (simp [fX9_larger, if_neg c_1]; done)
    rw [hf] at hR
    exact hR _ _ dX9_larger_10
theorem ctX9_larger (l : Launch) (g : Gl) (x : Int32) (y : Int32) : CtI l g yX9_larger cX9_larger 2 (some .int) 0 [.int x, .int y] (fl []) (fX9_larger x y) (fl []) := mkI .int rfl rfl [(0, .int x), (1, .int y)] (by decide) (Nat.le_of_ble_eq_true rfl) rfl (fun X C hR => bX9_larger C x y hR)

def fX9_type (mn : Nat) (mx : Nat → Int32) (c : Int32) : (Int32) × (Nat) × (Nat → Int32) := (let r_1 : Int32 := fX9_in (((c : Int32)).toInt64) 0 255; if r_1 = 0 then (((-1), mn, mx)) else (if mn = 120 then (((-3), mn, mx)) else (let mx_5 : Nat → Int32 := upd mx mn (vp_nar .byte ((c).toInt8.toInt32)); ((nI (mn + 1)), (mn + 1), mx_5))))
set_option maxHeartbeats 4000000 in
set_option maxRecDepth 100000 in
theorem bX9_type {l : Launch} {g : Gl} {X : Cx} (C : Ok l g X RX9 cX9_type 2 1) (zm : Nat) (za1 : Nat) (za2 : Nat) (za3 : Nat) (za4 : Nat) (za5 : Nat) (za6 : Nat) (za7 : Nat) (za8 : Nat) (za9 : Nat) (zaa : Nat) (mp : Int32) (mt : Nat) (ml : Int32) (md : Nat → Int32) (np : Int32) (nt : Nat) (nl : Int32) (nP : Nat → Int32) (nS : Nat → Int32) (nD : Nat → Int32) (so : Nat → Int32) (ac : Nat) (mk : Nat → Int32) (mn : Nat) (mx : Nat → Int32) (nx : Nat) (mq : Nat) (mv : Int32) (wr : Int32) (ts : Int32) (sn : Nat) (sF : Nat → Int32) (sB : Nat → Int32) (sS : Nat → Int32) (mm : Int64) (c : Int32) (q0 : mn ≤ 120) (hR : RetI g X cX9_type 2 0 0 ((fX9_type mn mx c).1) (fl [wMod g zm za1 za2 za3 za4 za5 za6 za7 za8 za9 zaa mp mt ml md np nt nl nP nS nD so ac mk ((fX9_type mn mx c).2.1) ((fX9_type mn mx c).2.2) nx mq mv wr ts sn sF sB sS mm])) : Vw g X 2 0 0 (fl [wMod g zm za1 za2 za3 za4 za5 za6 za7 za8 za9 zaa mp mt ml md np nt nl nP nS nD so ac mk mn mx nx mq mv wr ts sn sF sB sS mm]) 0 [(0, .ref zm), (1, .int c)] [] := by
  refine r_iload_n (pc := 0) C dX9_type_0 1 rfl ?_
  refine r_i2l (pc := 1) C dX9_type_1 ?_
  refine r_lconst (pc := 2) 0 C dX9_type_2 rfl ?_
  refine r_ldc2 (pc := 3) C dX9_type_3 kl_X9_48 ?_
  obtain ⟨r_1, e_r_1⟩ : ∃ z : Int32, z = fX9_in (((c : Int32)).toInt64) 0 255 := ⟨_, rfl⟩
  have K_2 := ctX9_in l g   (((c : Int32)).toInt64) 0 255 
  rw [← e_r_1] at K_2
  refine x_pI (pc := 6) C ms_X9_50 K_2 dX9_type_6 (by decide) [] rfl (by decide) rfl (Nat.le_of_ble_eq_true rfl) ⟨Nat.zero_le _, Nat.zero_le _⟩ ?_
  refine r_ifne (pc := 9) 14 C dX9_type_9 (by decide) (fun c_3 => ?_) (fun c_3 => ?_)
  · refine r_aload_n (pc := 14) C dX9_type_14 0 rfl ?_
    refine r_get (pc := 15) C fl_X9_54 dX9_type_15 0 rfl rfl ?_
    refine r_bipush (pc := 18) 120 C dX9_type_18 rfl ?_
    refine r_icmpneN (pc := 20) mn 120 26 C dX9_type_20 (by decide) rfl rfl (by omega) (by omega) (fun c_4 => ?_) (fun c_4 => ?_)
    · refine r_aload_n (pc := 26) C dX9_type_26 0 rfl ?_
      refine r_get (pc := 27) C fl_X9_35 dX9_type_27 0 rfl rfl ?_
      refine r_aload_n (pc := 30) C dX9_type_30 0 rfl ?_
      refine r_get (pc := 31) C fl_X9_54 dX9_type_31 0 rfl rfl ?_
      refine r_iload_n (pc := 34) C dX9_type_34 1 rfl ?_
      refine r_i2b (pc := 35) C dX9_type_35 ?_
      obtain ⟨mx_5, e_mx_5⟩ : ∃ z : Nat → Int32, z = upd mx mn (vp_nar .byte ((c).toInt8.toInt32)) := ⟨_, rfl⟩
      refine r_bast (pc := 36) mn (fl [wMod g zm za1 za2 za3 za4 za5 za6 za7 za8 za9 zaa mp mt ml md np nt nl nP nS nD so ac mk mn mx_5 nx mq mv wr ts sn sF sB sS mm]) C dX9_type_36 7 rfl rfl (by omega) (by decide) (by rw [← e_mx_5]; rfl) ?_
      refine r_aload_n (pc := 37) C dX9_type_37 0 rfl ?_
      refine r_dup (pc := 38) C dX9_type_38 rfl ?_
      refine r_get (pc := 39) C fl_X9_54 dX9_type_39 0 rfl rfl ?_
      refine r_iconst (pc := 42) 1 C dX9_type_42 rfl ?_
      refine r_iaddN (pc := 43) mn 1 C dX9_type_43 rfl rfl ?_
      refine r_put (pc := 44) (fl [wMod g zm za1 za2 za3 za4 za5 za6 za7 za8 za9 zaa mp mt ml md np nt nl nP nS nD so ac mk (mn + 1) mx_5 nx mq mv wr ts sn sF sB sS mm]) C fp_X9_54 dX9_type_44 0 rfl (Nat.le_of_ble_eq_true rfl) rfl rfl rfl ?_
      refine r_aload_n (pc := 47) C dX9_type_47 0 rfl ?_
      refine r_get (pc := 48) C fl_X9_54 dX9_type_48 0 rfl rfl ?_
      have hf : fX9_type mn mx c = ((nI (mn + 1)), (mn + 1), mx_5) := by first | (simp only [fX9_type, ← e_r_1, ← e_mx_5, if_neg c_3, if_neg c_4]; done) | (subst e_r_1 e_mx_5; simp only [fX9_type, if_neg c_3, if_neg c_4]; done) | (subst e_r_1 e_mx_5; rfl) | (subst e_r_1 e_mx_5; simp [fX9_type, if_neg c_3, if_neg c_4]; done)
      rw [hf] at hR
      exact hR _ _ dX9_type_51
    · refine r_bipush (pc := 23) (-3) C dX9_type_23 rfl ?_
      have hf : fX9_type mn mx c = ((-3), mn, mx) := by first | (simp only [fX9_type, ← e_r_1, if_neg c_3, if_pos c_4]; done) | (subst e_r_1; simp only [fX9_type, if_neg c_3, if_pos c_4]; done) | (subst e_r_1; rfl) | (subst e_r_1; simp [fX9_type, if_neg c_3, if_pos c_4]; done)
      rw [hf] at hR
      exact hR _ _ dX9_type_25
  · refine r_iconst (pc := 12) (-1) C dX9_type_12 rfl ?_
    have hf : fX9_type mn mx c = ((-1), mn, mx) := by first | (simp only [fX9_type, ← e_r_1, if_pos c_3]; done) | (subst e_r_1; simp only [fX9_type, if_pos c_3]; done) | (subst e_r_1; rfl) | (subst e_r_1; simp [fX9_type, if_pos c_3]; done)
    rw [hf] at hR
    exact hR _ _ dX9_type_13
theorem ctX9_type (l : Launch) (g : Gl) (zm : Nat) (za1 : Nat) (za2 : Nat) (za3 : Nat) (za4 : Nat) (za5 : Nat) (za6 : Nat) (za7 : Nat) (za8 : Nat) (za9 : Nat) (zaa : Nat) (mp : Int32) (mt : Nat) (ml : Int32) (md : Nat → Int32) (np : Int32) (nt : Nat) (nl : Int32) (nP : Nat → Int32) (nS : Nat → Int32) (nD : Nat → Int32) (so : Nat → Int32) (ac : Nat) (mk : Nat → Int32) (mn : Nat) (mx : Nat → Int32) (nx : Nat) (mq : Nat) (mv : Int32) (wr : Int32) (ts : Int32) (sn : Nat) (sF : Nat → Int32) (sB : Nat → Int32) (sS : Nat → Int32) (mm : Int64) (c : Int32) (q0 : mn ≤ 120) : CtI l g yX9_type cX9_type 2 (some .int) 1 [.ref zm, .int c] (fl [wMod g zm za1 za2 za3 za4 za5 za6 za7 za8 za9 zaa mp mt ml md np nt nl nP nS nD so ac mk mn mx nx mq mv wr ts sn sF sB sS mm]) ((fX9_type mn mx c).1) (fl [wMod g zm za1 za2 za3 za4 za5 za6 za7 za8 za9 zaa mp mt ml md np nt nl nP nS nD so ac mk ((fX9_type mn mx c).2.1) ((fX9_type mn mx c).2.2) nx mq mv wr ts sn sF sB sS mm]) := mkI .int rfl rfl [(0, .ref zm), (1, .int c)] (by decide) (Nat.le_of_ble_eq_true rfl) rfl (fun X C hR => bX9_type C zm za1 za2 za3 za4 za5 za6 za7 za8 za9 zaa mp mt ml md np nt nl nP nS nD so ac mk mn mx nx mq mv wr ts sn sF sB sS mm c q0 hR)

def fX9_clear (mn : Nat) : (Int32) × (Nat) := (((nI mn), 0))
set_option maxHeartbeats 4000000 in
set_option maxRecDepth 100000 in
theorem bX9_clear {l : Launch} {g : Gl} {X : Cx} (C : Ok l g X RX9 cX9_clear 2 0) (zm : Nat) (za1 : Nat) (za2 : Nat) (za3 : Nat) (za4 : Nat) (za5 : Nat) (za6 : Nat) (za7 : Nat) (za8 : Nat) (za9 : Nat) (zaa : Nat) (mp : Int32) (mt : Nat) (ml : Int32) (md : Nat → Int32) (np : Int32) (nt : Nat) (nl : Int32) (nP : Nat → Int32) (nS : Nat → Int32) (nD : Nat → Int32) (so : Nat → Int32) (ac : Nat) (mk : Nat → Int32) (mn : Nat) (mx : Nat → Int32) (nx : Nat) (mq : Nat) (mv : Int32) (wr : Int32) (ts : Int32) (sn : Nat) (sF : Nat → Int32) (sB : Nat → Int32) (sS : Nat → Int32) (mm : Int64) (hR : RetI g X cX9_clear 2 0 0 ((fX9_clear mn).1) (fl [wMod g zm za1 za2 za3 za4 za5 za6 za7 za8 za9 zaa mp mt ml md np nt nl nP nS nD so ac mk ((fX9_clear mn).2) mx nx mq mv wr ts sn sF sB sS mm])) : Vw g X 2 0 0 (fl [wMod g zm za1 za2 za3 za4 za5 za6 za7 za8 za9 zaa mp mt ml md np nt nl nP nS nD so ac mk mn mx nx mq mv wr ts sn sF sB sS mm]) 0 [(0, .ref zm)] [] := by
  refine r_aload_n (pc := 0) C dX9_clear_0 0 rfl ?_
  refine r_get (pc := 1) C fl_X9_54 dX9_clear_1 0 rfl rfl ?_
  refine r_istore_n (pc := 4) [(1, .int (nI mn)), (0, .ref zm)] C dX9_clear_4 (by decide) rfl ?_
  refine r_aload_n (pc := 5) C dX9_clear_5 1 rfl ?_
  refine r_iconst (pc := 6) 0 C dX9_clear_6 rfl ?_
  refine r_put (pc := 7) (fl [wMod g zm za1 za2 za3 za4 za5 za6 za7 za8 za9 zaa mp mt ml md np nt nl nP nS nD so ac mk 0 mx nx mq mv wr ts sn sF sB sS mm]) C fp_X9_54 dX9_clear_7 0 rfl (Nat.le_of_ble_eq_true rfl) rfl rfl rfl ?_
  refine r_iload_n (pc := 10) C dX9_clear_10 0 rfl ?_
  have hf : fX9_clear mn = ((nI mn), 0) := by first | rfl | (simp only [fX9_clear]; done) | (simp [fX9_clear]; done)
  rw [hf] at hR
  exact hR _ _ dX9_clear_11
theorem ctX9_clear (l : Launch) (g : Gl) (zm : Nat) (za1 : Nat) (za2 : Nat) (za3 : Nat) (za4 : Nat) (za5 : Nat) (za6 : Nat) (za7 : Nat) (za8 : Nat) (za9 : Nat) (zaa : Nat) (mp : Int32) (mt : Nat) (ml : Int32) (md : Nat → Int32) (np : Int32) (nt : Nat) (nl : Int32) (nP : Nat → Int32) (nS : Nat → Int32) (nD : Nat → Int32) (so : Nat → Int32) (ac : Nat) (mk : Nat → Int32) (mn : Nat) (mx : Nat → Int32) (nx : Nat) (mq : Nat) (mv : Int32) (wr : Int32) (ts : Int32) (sn : Nat) (sF : Nat → Int32) (sB : Nat → Int32) (sS : Nat → Int32) (mm : Int64) : CtI l g yX9_clear cX9_clear 2 (some .int) 0 [.ref zm] (fl [wMod g zm za1 za2 za3 za4 za5 za6 za7 za8 za9 zaa mp mt ml md np nt nl nP nS nD so ac mk mn mx nx mq mv wr ts sn sF sB sS mm]) ((fX9_clear mn).1) (fl [wMod g zm za1 za2 za3 za4 za5 za6 za7 za8 za9 zaa mp mt ml md np nt nl nP nS nD so ac mk ((fX9_clear mn).2) mx nx mq mv wr ts sn sF sB sS mm]) := mkI .int rfl rfl [(0, .ref zm)] (by decide) (Nat.le_of_ble_eq_true rfl) rfl (fun X C hR => bX9_clear C zm za1 za2 za3 za4 za5 za6 za7 za8 za9 zaa mp mt ml md np nt nl nP nS nD so ac mk mn mx nx mq mv wr ts sn sF sB sS mm hR)

def fX9_letterAt (mn : Nat) (mx : Nat → Int32) (i : Nat) : (Int32) := (if mn ≤ i then ((-1)) else (((mx i) &&& 255)))
set_option maxHeartbeats 4000000 in
set_option maxRecDepth 100000 in
theorem bX9_letterAt {l : Launch} {g : Gl} {X : Cx} (C : Ok l g X RX9 cX9_letterAt 2 0) (zm : Nat) (za1 : Nat) (za2 : Nat) (za3 : Nat) (za4 : Nat) (za5 : Nat) (za6 : Nat) (za7 : Nat) (za8 : Nat) (za9 : Nat) (zaa : Nat) (mp : Int32) (mt : Nat) (ml : Int32) (md : Nat → Int32) (np : Int32) (nt : Nat) (nl : Int32) (nP : Nat → Int32) (nS : Nat → Int32) (nD : Nat → Int32) (so : Nat → Int32) (ac : Nat) (mk : Nat → Int32) (mn : Nat) (mx : Nat → Int32) (nx : Nat) (mq : Nat) (mv : Int32) (wr : Int32) (ts : Int32) (sn : Nat) (sF : Nat → Int32) (sB : Nat → Int32) (sS : Nat → Int32) (mm : Int64) (i : Nat) (q0 : mn ≤ 120) (q1 : i < 2 ^ 31) (hR : RetI g X cX9_letterAt 2 0 0 (fX9_letterAt mn mx i) (fl [wMod g zm za1 za2 za3 za4 za5 za6 za7 za8 za9 zaa mp mt ml md np nt nl nP nS nD so ac mk mn mx nx mq mv wr ts sn sF sB sS mm])) : Vw g X 2 0 0 (fl [wMod g zm za1 za2 za3 za4 za5 za6 za7 za8 za9 zaa mp mt ml md np nt nl nP nS nD so ac mk mn mx nx mq mv wr ts sn sF sB sS mm]) 0 [(0, .ref zm), (1, .int (nI i))] [] := by
  refine r_iload_n (pc := 0) C dX9_letterAt_0 1 rfl ?_
  refine r_aload_n (pc := 1) C dX9_letterAt_1 0 rfl ?_
  refine r_get (pc := 2) C fl_X9_54 dX9_letterAt_2 0 rfl rfl ?_
  refine r_icmpgeN (pc := 5) i mn 21 C dX9_letterAt_5 (by decide) rfl rfl (by omega) (by omega) (fun c_1 => ?_) (fun c_1 => ?_)
  · refine r_iconst (pc := 21) (-1) C dX9_letterAt_21 rfl ?_
    have hf : fX9_letterAt mn mx i = (-1) := by first | (simp only [fX9_letterAt, if_pos c_1]; done) | rfl | (simp [fX9_letterAt, if_pos c_1]; done)
    rw [hf] at hR
    exact hR _ _ dX9_letterAt_22
  · refine r_aload_n (pc := 8) C dX9_letterAt_8 0 rfl ?_
    refine r_get (pc := 9) C fl_X9_35 dX9_letterAt_9 0 rfl rfl ?_
    refine r_iload_n (pc := 12) C dX9_letterAt_12 1 rfl ?_
    refine r_bald (pc := 13) i C dX9_letterAt_13 7 rfl rfl (by omega) (by decide) ?_
    refine r_sipush (pc := 14) 255 C dX9_letterAt_14 rfl ?_
    refine r_iand (pc := 17) C dX9_letterAt_17 ?_
    refine r_goto (pc := 18) 22 C dX9_letterAt_18 (by decide) ?_
    have hf : fX9_letterAt mn mx i = ((mx i) &&& 255) := by first | (simp only [fX9_letterAt, if_neg c_1]; done) | rfl | (simp [fX9_letterAt, if_neg c_1]; done)
    rw [hf] at hR
    exact hR _ _ dX9_letterAt_22
theorem ctX9_letterAt (l : Launch) (g : Gl) (zm : Nat) (za1 : Nat) (za2 : Nat) (za3 : Nat) (za4 : Nat) (za5 : Nat) (za6 : Nat) (za7 : Nat) (za8 : Nat) (za9 : Nat) (zaa : Nat) (mp : Int32) (mt : Nat) (ml : Int32) (md : Nat → Int32) (np : Int32) (nt : Nat) (nl : Int32) (nP : Nat → Int32) (nS : Nat → Int32) (nD : Nat → Int32) (so : Nat → Int32) (ac : Nat) (mk : Nat → Int32) (mn : Nat) (mx : Nat → Int32) (nx : Nat) (mq : Nat) (mv : Int32) (wr : Int32) (ts : Int32) (sn : Nat) (sF : Nat → Int32) (sB : Nat → Int32) (sS : Nat → Int32) (mm : Int64) (i : Nat) (q0 : mn ≤ 120) (q1 : i < 2 ^ 31) : CtI l g yX9_letterAt cX9_letterAt 2 (some .int) 0 [.ref zm, .int (nI i)] (fl [wMod g zm za1 za2 za3 za4 za5 za6 za7 za8 za9 zaa mp mt ml md np nt nl nP nS nD so ac mk mn mx nx mq mv wr ts sn sF sB sS mm]) (fX9_letterAt mn mx i) (fl [wMod g zm za1 za2 za3 za4 za5 za6 za7 za8 za9 zaa mp mt ml md np nt nl nP nS nD so ac mk mn mx nx mq mv wr ts sn sF sB sS mm]) := mkI .int rfl rfl [(0, .ref zm), (1, .int (nI i))] (by decide) (Nat.le_of_ble_eq_true rfl) rfl (fun X C hR => bX9_letterAt C zm za1 za2 za3 za4 za5 za6 za7 za8 za9 zaa mp mt ml md np nt nl nP nS nD so ac mk mn mx nx mq mv wr ts sn sF sB sS mm i q0 q1 hR)

def fX9_falls (so : Nat → Int32) (b0 : Nat) (t : Nat) : (Nat → Int32) := (let so_1 : Nat → Int32 := upd so ((b0 + 6) + t) 0; let so_2 : Nat → Int32 := upd so_1 (b0 + 12) ((so_1 (b0 + 12)) &&& ((1 <<< ((nI t) &&& 31)) ^^^ (-1))); so_2)
set_option maxHeartbeats 4000000 in
set_option maxRecDepth 100000 in
theorem bX9_falls {l : Launch} {g : Gl} {X : Cx} (C : Ok l g X RX9 cX9_falls 3 0) (zm : Nat) (za1 : Nat) (za2 : Nat) (za3 : Nat) (za4 : Nat) (za5 : Nat) (za6 : Nat) (za7 : Nat) (za8 : Nat) (za9 : Nat) (zaa : Nat) (mp : Int32) (mt : Nat) (ml : Int32) (md : Nat → Int32) (np : Int32) (nt : Nat) (nl : Int32) (nP : Nat → Int32) (nS : Nat → Int32) (nD : Nat → Int32) (so : Nat → Int32) (ac : Nat) (mk : Nat → Int32) (mn : Nat) (mx : Nat → Int32) (nx : Nat) (mq : Nat) (mv : Int32) (wr : Int32) (ts : Int32) (sn : Nat) (sF : Nat → Int32) (sB : Nat → Int32) (sS : Nat → Int32) (mm : Int64) (b0 : Nat) (t : Nat) (q0 : b0 + 15 ≤ 210) (q1 : t < 6) (hR : RetV g X cX9_falls 3 0 0 (fl [wMod g zm za1 za2 za3 za4 za5 za6 za7 za8 za9 zaa mp mt ml md np nt nl nP nS nD (fX9_falls so b0 t) ac mk mn mx nx mq mv wr ts sn sF sB sS mm])) : Vw g X 3 0 0 (fl [wMod g zm za1 za2 za3 za4 za5 za6 za7 za8 za9 zaa mp mt ml md np nt nl nP nS nD so ac mk mn mx nx mq mv wr ts sn sF sB sS mm]) 0 [(0, .ref zm), (1, .int (nI b0)), (2, .int (nI t))] [] := by
  refine r_aload_n (pc := 0) C dX9_falls_0 0 rfl ?_
  refine r_get (pc := 1) C fl_X9_29 dX9_falls_1 0 rfl rfl ?_
  refine r_iload_n (pc := 4) C dX9_falls_4 1 rfl ?_
  refine r_bipush (pc := 5) 6 C dX9_falls_5 rfl ?_
  refine r_iaddN (pc := 7) b0 6 C dX9_falls_7 rfl rfl ?_
  refine r_iload_n (pc := 8) C dX9_falls_8 2 rfl ?_
  refine r_iaddN (pc := 9) (b0 + 6) t C dX9_falls_9 rfl rfl ?_
  refine r_iconst (pc := 10) 0 C dX9_falls_10 rfl ?_
  obtain ⟨so_1, e_so_1⟩ : ∃ z : Nat → Int32, z = upd so ((b0 + 6) + t) 0 := ⟨_, rfl⟩
  refine r_iast (pc := 11) ((b0 + 6) + t) (fl [wMod g zm za1 za2 za3 za4 za5 za6 za7 za8 za9 zaa mp mt ml md np nt nl nP nS nD so_1 ac mk mn mx nx mq mv wr ts sn sF sB sS mm]) C dX9_falls_11 5 rfl rfl (by omega) (by decide) (by rw [← e_so_1]; rfl) ?_
  refine r_aload_n (pc := 12) C dX9_falls_12 0 rfl ?_
  refine r_get (pc := 13) C fl_X9_29 dX9_falls_13 0 rfl rfl ?_
  refine r_iload_n (pc := 16) C dX9_falls_16 1 rfl ?_
  refine r_bipush (pc := 17) 12 C dX9_falls_17 rfl ?_
  refine r_iaddN (pc := 19) b0 12 C dX9_falls_19 rfl rfl ?_
  refine r_dup2 (pc := 20) C dX9_falls_20 rfl rfl ?_
  refine r_iald (pc := 21) (b0 + 12) C dX9_falls_21 5 rfl rfl (by omega) (by decide) ?_
  refine r_iconst (pc := 22) 1 C dX9_falls_22 rfl ?_
  refine r_iload_n (pc := 23) C dX9_falls_23 2 rfl ?_
  refine r_ishl (pc := 24) C dX9_falls_24 ?_
  refine r_iconst (pc := 25) (-1) C dX9_falls_25 rfl ?_
  refine r_ixor (pc := 26) C dX9_falls_26 ?_
  refine r_iand (pc := 27) C dX9_falls_27 ?_
  obtain ⟨so_2, e_so_2⟩ : ∃ z : Nat → Int32, z = upd so_1 (b0 + 12) ((so_1 (b0 + 12)) &&& ((1 <<< ((nI t) &&& 31)) ^^^ (-1))) := ⟨_, rfl⟩
  refine r_iast (pc := 28) (b0 + 12) (fl [wMod g zm za1 za2 za3 za4 za5 za6 za7 za8 za9 zaa mp mt ml md np nt nl nP nS nD so_2 ac mk mn mx nx mq mv wr ts sn sF sB sS mm]) C dX9_falls_28 5 rfl rfl (by omega) (by decide) (by rw [← e_so_2]; rfl) ?_
  have hf : fX9_falls so b0 t = so_2 := by first | (simp only [fX9_falls, ← e_so_1, ← e_so_2]; done) | (subst e_so_1 e_so_2; rfl) | (subst e_so_1 e_so_2; simp only [fX9_falls]; done)
  rw [hf] at hR
  exact hR _ _ dX9_falls_29
theorem ctX9_falls (l : Launch) (g : Gl) (zm : Nat) (za1 : Nat) (za2 : Nat) (za3 : Nat) (za4 : Nat) (za5 : Nat) (za6 : Nat) (za7 : Nat) (za8 : Nat) (za9 : Nat) (zaa : Nat) (mp : Int32) (mt : Nat) (ml : Int32) (md : Nat → Int32) (np : Int32) (nt : Nat) (nl : Int32) (nP : Nat → Int32) (nS : Nat → Int32) (nD : Nat → Int32) (so : Nat → Int32) (ac : Nat) (mk : Nat → Int32) (mn : Nat) (mx : Nat → Int32) (nx : Nat) (mq : Nat) (mv : Int32) (wr : Int32) (ts : Int32) (sn : Nat) (sF : Nat → Int32) (sB : Nat → Int32) (sS : Nat → Int32) (mm : Int64) (b0 : Nat) (t : Nat) (q0 : b0 + 15 ≤ 210) (q1 : t < 6) : CtV l g yX9_falls cX9_falls 3 0 [.ref zm, .int (nI b0), .int (nI t)] (fl [wMod g zm za1 za2 za3 za4 za5 za6 za7 za8 za9 zaa mp mt ml md np nt nl nP nS nD so ac mk mn mx nx mq mv wr ts sn sF sB sS mm]) (fl [wMod g zm za1 za2 za3 za4 za5 za6 za7 za8 za9 zaa mp mt ml md np nt nl nP nS nD (fX9_falls so b0 t) ac mk mn mx nx mq mv wr ts sn sF sB sS mm]) := mkV [(0, .ref zm), (1, .int (nI b0)), (2, .int (nI t))] (by decide) (Nat.le_of_ble_eq_true rfl) rfl (fun X C hR => bX9_falls C zm za1 za2 za3 za4 za5 za6 za7 za8 za9 zaa mp mt ml md np nt nl nP nS nD so ac mk mn mx nx mq mv wr ts sn sF sB sS mm b0 t q0 q1 hR)

def lX9_whoAt_7 (u : Int32) (so : Nat → Int32) (b0 : Nat) (w : Int32) : Nat → (Int32) → (Nat) → (Int32)
  | 0, x4_1, x5_1 => (x4_1)
  | n + 1, x4_1, x5_1 => (if (nI x5_1) = u then (lX9_whoAt_7 u so b0 w n x4_1 (x5_1 + 1)) else (let r_5 : Int32 := fX9_has (so (b0 + 12)) (nI x5_1); if r_5 = 0 then (lX9_whoAt_7 u so b0 w n x4_1 (x5_1 + 1)) else (if (so (b0 + x5_1)) = w then (lX9_whoAt_7 u so b0 w n (nI x5_1) (x5_1 + 1)) else (lX9_whoAt_7 u so b0 w n x4_1 (x5_1 + 1)))))
def fX9_whoAt (mt : Nat) (so : Nat → Int32) (b0 : Nat) (w : Int32) (u : Int32) : (Int32) := (let x4_9 : Int32 := lX9_whoAt_7 u so b0 w mt (-9) 0; x4_9)
set_option maxHeartbeats 4000000 in
set_option maxRecDepth 100000 in
theorem bX9_whoAt {l : Launch} {g : Gl} {X : Cx} (C : Ok l g X RX9 cX9_whoAt 6 1) (zm : Nat) (za1 : Nat) (za2 : Nat) (za3 : Nat) (za4 : Nat) (za5 : Nat) (za6 : Nat) (za7 : Nat) (za8 : Nat) (za9 : Nat) (zaa : Nat) (mp : Int32) (mt : Nat) (ml : Int32) (md : Nat → Int32) (np : Int32) (nt : Nat) (nl : Int32) (nP : Nat → Int32) (nS : Nat → Int32) (nD : Nat → Int32) (so : Nat → Int32) (ac : Nat) (mk : Nat → Int32) (mn : Nat) (mx : Nat → Int32) (nx : Nat) (mq : Nat) (mv : Int32) (wr : Int32) (ts : Int32) (sn : Nat) (sF : Nat → Int32) (sB : Nat → Int32) (sS : Nat → Int32) (mm : Int64) (b0 : Nat) (w : Int32) (u : Int32) (q0 : b0 + 15 ≤ 210) (q1 : mt ≤ 6) (hR : RetI g X cX9_whoAt 6 0 0 (fX9_whoAt mt so b0 w u) (fl [wMod g zm za1 za2 za3 za4 za5 za6 za7 za8 za9 zaa mp mt ml md np nt nl nP nS nD so ac mk mn mx nx mq mv wr ts sn sF sB sS mm])) : Vw g X 6 0 0 (fl [wMod g zm za1 za2 za3 za4 za5 za6 za7 za8 za9 zaa mp mt ml md np nt nl nP nS nD so ac mk mn mx nx mq mv wr ts sn sF sB sS mm]) 0 [(0, .ref zm), (1, .int (nI b0)), (2, .int w), (3, .int u)] [] := by
  refine r_bipush (pc := 0) (-9) C dX9_whoAt_0 rfl ?_
  refine r_istore (pc := 2) [(4, .int (-9)), (0, .ref zm), (1, .int (nI b0)), (2, .int w), (3, .int u)] C dX9_whoAt_2 (by decide) rfl ?_
  refine r_iconst (pc := 4) 0 C dX9_whoAt_4 rfl ?_
  refine r_istore (pc := 5) [(5, .int 0), (4, .int (-9)), (0, .ref zm), (1, .int (nI b0)), (2, .int w), (3, .int u)] C dX9_whoAt_5 (by decide) rfl ?_
  have hX1 : ∀ (x4_9 : Int32) , (x4_9 = lX9_whoAt_7 u so b0 w mt (-9) 0) → Vw g X 6 0 0 (fl [wMod g zm za1 za2 za3 za4 za5 za6 za7 za8 za9 zaa mp mt ml md np nt nl nP nS nD so ac mk mn mx nx mq mv wr ts sn sF sB sS mm]) 67 [(4, .int x4_9)] [] := by
    intro x4_9 e_x4_9 
    refine r_iload (pc := 67) C dX9_whoAt_67 0 rfl ?_
    have hf : fX9_whoAt mt so b0 w u = x4_9 := by first | (simp only [fX9_whoAt, ← e_x4_9]; done) | (subst e_x4_9; rfl) | (subst e_x4_9; simp only [fX9_whoAt]; done)
    rw [hf] at hR
    exact hR _ _ dX9_whoAt_69
  have hL1 : ∀ (n : Nat) (x4_1 : Int32) (x5_1 : Nat) , (x5_1 + n = mt) → lX9_whoAt_7 u so b0 w n x4_1 x5_1 = lX9_whoAt_7 u so b0 w mt (-9) 0 → Vw g X 6 0 0 (fl [wMod g zm za1 za2 za3 za4 za5 za6 za7 za8 za9 zaa mp mt ml md np nt nl nP nS nD so ac mk mn mx nx mq mv wr ts sn sF sB sS mm]) 7 [(0, .ref zm), (1, .int (nI b0)), (2, .int w), (3, .int u), (4, .int x4_1), (5, .int (nI x5_1))] [] := by
    intro n
    induction n with
    | zero =>
      intro x4_1 x5_1 hr1 hV1
      refine r_iload (pc := 7) C dX9_whoAt_7 5 rfl ?_
      refine r_aload_n (pc := 9) C dX9_whoAt_9 0 rfl ?_
      refine r_get (pc := 10) C fl_X9_108 dX9_whoAt_10 0 rfl rfl ?_
      refine r_icmpgeN (pc := 13) x5_1 mt 67 C dX9_whoAt_13 (by decide) rfl rfl (by omega) (by omega) (fun _ => ?_) (fun c_2 => absurd (by omega) c_2)
      refine u_lv [(4, .int x4_1)] [4] rfl ?_
      exact hX1 _ (by rw [← hV1]; first | rfl | (simp only [lX9_whoAt_7]; done) | (simp [lX9_whoAt_7]; done))
    | succ n ih =>
      intro x4_1 x5_1 hr1 hV1
      refine r_iload (pc := 7) C dX9_whoAt_7 5 rfl ?_
      refine r_aload_n (pc := 9) C dX9_whoAt_9 0 rfl ?_
      refine r_get (pc := 10) C fl_X9_108 dX9_whoAt_10 0 rfl rfl ?_
      refine r_icmpgeN (pc := 13) x5_1 mt 67 C dX9_whoAt_13 (by decide) rfl rfl (by omega) (by omega) (fun c_3 => absurd c_3 (by omega)) (fun _ => ?_)
      refine r_iload (pc := 16) C dX9_whoAt_16 5 rfl ?_
      refine r_iload_n (pc := 18) C dX9_whoAt_18 3 rfl ?_
      refine r_icmpeq (pc := 19) 57 C dX9_whoAt_19 (by decide) (fun c_4 => ?_) (fun c_4 => ?_)
      · refine r_iload (pc := 57) C dX9_whoAt_57 4 rfl ?_
        refine r_istore (pc := 59) [(4, .int x4_1), (0, .ref zm), (1, .int (nI b0)), (2, .int w), (3, .int u), (5, .int (nI x5_1))] C dX9_whoAt_59 (by decide) rfl ?_
        refine r_iinc (pc := 61) (nI (x5_1 + 1)) [(5, .int (nI (x5_1 + 1))), (4, .int x4_1), (0, .ref zm), (1, .int (nI b0)), (2, .int w), (3, .int u)] C dX9_whoAt_61 5 rfl (inc1 _) (by decide) rfl ?_
        refine r_goto (pc := 64) 7 C dX9_whoAt_64 (by decide) ?_
        refine u_lv [(0, .ref zm), (1, .int (nI b0)), (2, .int w), (3, .int u), (4, .int x4_1), (5, .int (nI (x5_1 + 1)))] [2, 3, 4, 5, 1, 0] rfl ?_
        exact ih x4_1 (x5_1 + 1) (by omega) (by rw [← hV1]; first | (simp only [lX9_whoAt_7, if_pos c_4]; done) | rfl | (simp [lX9_whoAt_7, if_pos c_4]; done))
      · refine r_aload_n (pc := 22) C dX9_whoAt_22 0 rfl ?_
        refine r_get (pc := 23) C fl_X9_29 dX9_whoAt_23 0 rfl rfl ?_
        refine r_iload_n (pc := 26) C dX9_whoAt_26 1 rfl ?_
        refine r_bipush (pc := 27) 12 C dX9_whoAt_27 rfl ?_
        refine r_iaddN (pc := 29) b0 12 C dX9_whoAt_29 rfl rfl ?_
        refine r_iald (pc := 30) (b0 + 12) C dX9_whoAt_30 5 rfl rfl (by omega) (by decide) ?_
        refine r_iload (pc := 31) C dX9_whoAt_31 5 rfl ?_
        obtain ⟨r_5, e_r_5⟩ : ∃ z : Int32, z = fX9_has (so (b0 + 12)) (nI x5_1) := ⟨_, rfl⟩
        have K_6 := ctX9_has l g   (so (b0 + 12)) (nI x5_1) 
        rw [← e_r_5] at K_6
        refine x_pI (pc := 33) C ms_X9_117 K_6 dX9_whoAt_33 (by decide) [] rfl (by decide) rfl (Nat.le_of_ble_eq_true rfl) ⟨Nat.zero_le _, Nat.zero_le _⟩ ?_
        refine r_ifeq (pc := 36) 57 C dX9_whoAt_36 (by decide) (fun c_7 => ?_) (fun c_7 => ?_)
        · refine r_iload (pc := 57) C dX9_whoAt_57 4 rfl ?_
          refine r_istore (pc := 59) [(4, .int x4_1), (0, .ref zm), (1, .int (nI b0)), (2, .int w), (3, .int u), (5, .int (nI x5_1))] C dX9_whoAt_59 (by decide) rfl ?_
          refine r_iinc (pc := 61) (nI (x5_1 + 1)) [(5, .int (nI (x5_1 + 1))), (4, .int x4_1), (0, .ref zm), (1, .int (nI b0)), (2, .int w), (3, .int u)] C dX9_whoAt_61 5 rfl (inc1 _) (by decide) rfl ?_
          refine r_goto (pc := 64) 7 C dX9_whoAt_64 (by decide) ?_
          refine u_lv [(0, .ref zm), (1, .int (nI b0)), (2, .int w), (3, .int u), (4, .int x4_1), (5, .int (nI (x5_1 + 1)))] [2, 3, 4, 5, 1, 0] rfl ?_
          exact ih x4_1 (x5_1 + 1) (by omega) (by rw [← hV1]; first | (simp only [lX9_whoAt_7, ← e_r_5, if_neg c_4, if_pos c_7]; done) | (subst e_r_5; simp only [lX9_whoAt_7, if_neg c_4, if_pos c_7]; done) | (subst e_r_5; rfl) | (subst e_r_5; simp [lX9_whoAt_7, if_neg c_4, if_pos c_7]; done))
        · refine r_aload_n (pc := 39) C dX9_whoAt_39 0 rfl ?_
          refine r_get (pc := 40) C fl_X9_29 dX9_whoAt_40 0 rfl rfl ?_
          refine r_iload_n (pc := 43) C dX9_whoAt_43 1 rfl ?_
          refine r_iload (pc := 44) C dX9_whoAt_44 5 rfl ?_
          refine r_iaddN (pc := 46) b0 x5_1 C dX9_whoAt_46 rfl rfl ?_
          refine r_iald (pc := 47) (b0 + x5_1) C dX9_whoAt_47 5 rfl rfl (by omega) (by decide) ?_
          refine r_iload_n (pc := 48) C dX9_whoAt_48 2 rfl ?_
          refine r_icmpne (pc := 49) 57 C dX9_whoAt_49 (by decide) (fun c_8 => ?_) (fun c_8 => ?_)
          · refine r_iload (pc := 57) C dX9_whoAt_57 4 rfl ?_
            refine r_istore (pc := 59) [(4, .int x4_1), (0, .ref zm), (1, .int (nI b0)), (2, .int w), (3, .int u), (5, .int (nI x5_1))] C dX9_whoAt_59 (by decide) rfl ?_
            refine r_iinc (pc := 61) (nI (x5_1 + 1)) [(5, .int (nI (x5_1 + 1))), (4, .int x4_1), (0, .ref zm), (1, .int (nI b0)), (2, .int w), (3, .int u)] C dX9_whoAt_61 5 rfl (inc1 _) (by decide) rfl ?_
            refine r_goto (pc := 64) 7 C dX9_whoAt_64 (by decide) ?_
            refine u_lv [(0, .ref zm), (1, .int (nI b0)), (2, .int w), (3, .int u), (4, .int x4_1), (5, .int (nI (x5_1 + 1)))] [2, 3, 4, 5, 1, 0] rfl ?_
            exact ih x4_1 (x5_1 + 1) (by omega) (by rw [← hV1]; first | (simp only [lX9_whoAt_7, ← e_r_5, if_neg c_4, if_neg c_7, if_neg c_8]; done) | (subst e_r_5; simp only [lX9_whoAt_7, if_neg c_4, if_neg c_7, if_neg c_8]; done) | (subst e_r_5; rfl) | (subst e_r_5; simp [lX9_whoAt_7, if_neg c_4, if_neg c_7, if_neg c_8]; done))
          · refine r_iload (pc := 52) C dX9_whoAt_52 5 rfl ?_
            refine r_goto (pc := 54) 59 C dX9_whoAt_54 (by decide) ?_
            refine r_istore (pc := 59) [(4, .int (nI x5_1)), (0, .ref zm), (1, .int (nI b0)), (2, .int w), (3, .int u), (5, .int (nI x5_1))] C dX9_whoAt_59 (by decide) rfl ?_
            refine r_iinc (pc := 61) (nI (x5_1 + 1)) [(5, .int (nI (x5_1 + 1))), (4, .int (nI x5_1)), (0, .ref zm), (1, .int (nI b0)), (2, .int w), (3, .int u)] C dX9_whoAt_61 5 rfl (inc1 _) (by decide) rfl ?_
            refine r_goto (pc := 64) 7 C dX9_whoAt_64 (by decide) ?_
            refine u_lv [(0, .ref zm), (1, .int (nI b0)), (2, .int w), (3, .int u), (4, .int (nI x5_1)), (5, .int (nI (x5_1 + 1)))] [2, 3, 4, 5, 1, 0] rfl ?_
            exact ih (nI x5_1) (x5_1 + 1) (by omega) (by rw [← hV1]; first | (simp only [lX9_whoAt_7, ← e_r_5, if_neg c_4, if_neg c_7, if_pos c_8]; done) | (subst e_r_5; simp only [lX9_whoAt_7, if_neg c_4, if_neg c_7, if_pos c_8]; done) | (subst e_r_5; rfl) | (subst e_r_5; simp [lX9_whoAt_7, if_neg c_4, if_neg c_7, if_pos c_8]; done))
  refine u_lv [(0, .ref zm), (1, .int (nI b0)), (2, .int w), (3, .int u), (4, .int (-9)), (5, .int 0)] [2, 3, 4, 5, 1, 0] rfl ?_
  exact hL1 mt (-9) 0 (by omega) rfl
theorem ctX9_whoAt (l : Launch) (g : Gl) (zm : Nat) (za1 : Nat) (za2 : Nat) (za3 : Nat) (za4 : Nat) (za5 : Nat) (za6 : Nat) (za7 : Nat) (za8 : Nat) (za9 : Nat) (zaa : Nat) (mp : Int32) (mt : Nat) (ml : Int32) (md : Nat → Int32) (np : Int32) (nt : Nat) (nl : Int32) (nP : Nat → Int32) (nS : Nat → Int32) (nD : Nat → Int32) (so : Nat → Int32) (ac : Nat) (mk : Nat → Int32) (mn : Nat) (mx : Nat → Int32) (nx : Nat) (mq : Nat) (mv : Int32) (wr : Int32) (ts : Int32) (sn : Nat) (sF : Nat → Int32) (sB : Nat → Int32) (sS : Nat → Int32) (mm : Int64) (b0 : Nat) (w : Int32) (u : Int32) (q0 : b0 + 15 ≤ 210) (q1 : mt ≤ 6) : CtI l g yX9_whoAt cX9_whoAt 6 (some .int) 1 [.ref zm, .int (nI b0), .int w, .int u] (fl [wMod g zm za1 za2 za3 za4 za5 za6 za7 za8 za9 zaa mp mt ml md np nt nl nP nS nD so ac mk mn mx nx mq mv wr ts sn sF sB sS mm]) (fX9_whoAt mt so b0 w u) (fl [wMod g zm za1 za2 za3 za4 za5 za6 za7 za8 za9 zaa mp mt ml md np nt nl nP nS nD so ac mk mn mx nx mq mv wr ts sn sF sB sS mm]) := mkI .int rfl rfl [(0, .ref zm), (1, .int (nI b0)), (2, .int w), (3, .int u)] (by decide) (Nat.le_of_ble_eq_true rfl) rfl (fun X C hR => bX9_whoAt C zm za1 za2 za3 za4 za5 za6 za7 za8 za9 zaa mp mt ml md np nt nl nP nS nD so ac mk mn mx nx mq mv wr ts sn sF sB sS mm b0 w u q0 q1 hR)
theorem whoAt_nat0 (u : Int32) (so : Nat → Int32) (b0 : Nat) (w : Int32) : ∀ n f i, i + n ≤ 6 → (f = -9 ∨ ∃ j, j < 6 ∧ f = nI j) → (lX9_whoAt_7 u so b0 w n f i = -9 ∨ ∃ j, j < 6 ∧ lX9_whoAt_7 u so b0 w n f i = nI j)
  | 0, f, i, _, h => by simpa only [lX9_whoAt_7] using h
  | n + 1, f, i, hi, h => by
    simp only [lX9_whoAt_7]
    repeat' split
    all_goals first | exact whoAt_nat0 u so b0 w n _ (i + 1) (by omega) h | exact whoAt_nat0 u so b0 w n _ (i + 1) (by omega) (Or.inr ⟨i, by omega, rfl⟩)
theorem whoAt_nat {mt : Nat} {so : Nat → Int32} {b0 : Nat} {w u : Int32} (h6 : mt ≤ 6) (h : ¬ fX9_whoAt mt so b0 w u < 0) : ∃ j, j < 6 ∧ fX9_whoAt mt so b0 w u = nI j := by
  rcases whoAt_nat0 u so b0 w mt (-9) 0 (by omega) (Or.inl rfl) with q | q
  · exact absurd (by show fX9_whoAt mt so b0 w u < 0; unfold fX9_whoAt; rw [q]; decide) h
  · exact q

def fX9_wanders (mp : Int32) (mt : Nat) (so : Nat → Int32) (b0 : Nat) (t : Nat) : (Nat → Int32) := (let w_2 : Int32 := (if (so (b0 + 14)) = 1 then (1) else ((mp - 1))); let y_4 : Int32 := ((so (b0 + t)) + w_2) - ((so (b0 + t)) + w_2) / mp * mp; let r_5 : Int32 := fX9_whoAt mt so b0 y_4 (nI t); let so_24 : Nat → Int32 := (if r_5 < 0 then (so) else (let w_10 : Int32 := (if (so ((b0 + 6) + r_5.toNatClampNeg)) < (so ((b0 + 6) + t)) then (0) else (1)); let w_13 : Nat := (if w_10 = 0 then (t) else (r_5.toNatClampNeg)); let w_16 : Nat := (if w_10 = 0 then (r_5.toNatClampNeg) else (t)); let so_18 : Nat → Int32 := fX9_falls so b0 w_16; let so_20 : Nat → Int32 := upd so_18 ((b0 + 6) + w_13) ((so_18 ((b0 + 6) + w_13)) - 5); if 0 < (so_20 ((b0 + 6) + w_13)) then (so_20) else (let so_22 : Nat → Int32 := fX9_falls so_20 b0 w_13; so_22))); let so_26 : Nat → Int32 := upd so_24 (b0 + t) y_4; so_26)
set_option maxHeartbeats 4000000 in
set_option maxRecDepth 100000 in
theorem bX9_wanders {l : Launch} {g : Gl} {X : Cx} (C : Ok l g X RX9 cX9_wanders 7 2) (zm : Nat) (za1 : Nat) (za2 : Nat) (za3 : Nat) (za4 : Nat) (za5 : Nat) (za6 : Nat) (za7 : Nat) (za8 : Nat) (za9 : Nat) (zaa : Nat) (mp : Int32) (mt : Nat) (ml : Int32) (md : Nat → Int32) (np : Int32) (nt : Nat) (nl : Int32) (nP : Nat → Int32) (nS : Nat → Int32) (nD : Nat → Int32) (so : Nat → Int32) (ac : Nat) (mk : Nat → Int32) (mn : Nat) (mx : Nat → Int32) (nx : Nat) (mq : Nat) (mv : Int32) (wr : Int32) (ts : Int32) (sn : Nat) (sF : Nat → Int32) (sB : Nat → Int32) (sS : Nat → Int32) (mm : Int64) (b0 : Nat) (t : Nat) (q0 : b0 + 15 ≤ 210) (q1 : t < 6) (q2 : mt ≤ 6) (q3 : ¬ mp = 0) (hR : RetV g X cX9_wanders 7 0 0 (fl [wMod g zm za1 za2 za3 za4 za5 za6 za7 za8 za9 zaa mp mt ml md np nt nl nP nS nD (fX9_wanders mp mt so b0 t) ac mk mn mx nx mq mv wr ts sn sF sB sS mm])) : Vw g X 7 0 0 (fl [wMod g zm za1 za2 za3 za4 za5 za6 za7 za8 za9 zaa mp mt ml md np nt nl nP nS nD so ac mk mn mx nx mq mv wr ts sn sF sB sS mm]) 0 [(0, .ref zm), (1, .int (nI b0)), (2, .int (nI t))] [] := by
  refine r_aload_n (pc := 0) C dX9_wanders_0 0 rfl ?_
  refine r_get (pc := 1) C fl_X9_29 dX9_wanders_1 0 rfl rfl ?_
  refine r_iload_n (pc := 4) C dX9_wanders_4 1 rfl ?_
  refine r_iload_n (pc := 5) C dX9_wanders_5 2 rfl ?_
  refine r_iaddN (pc := 6) b0 t C dX9_wanders_6 rfl rfl ?_
  refine r_iald (pc := 7) (b0 + t) C dX9_wanders_7 5 rfl rfl (by omega) (by decide) ?_
  refine r_aload_n (pc := 8) C dX9_wanders_8 0 rfl ?_
  refine r_get (pc := 9) C fl_X9_29 dX9_wanders_9 0 rfl rfl ?_
  refine r_iload_n (pc := 12) C dX9_wanders_12 1 rfl ?_
  refine r_bipush (pc := 13) 14 C dX9_wanders_13 rfl ?_
  refine r_iaddN (pc := 15) b0 14 C dX9_wanders_15 rfl rfl ?_
  refine r_iald (pc := 16) (b0 + 14) C dX9_wanders_16 5 rfl rfl (by omega) (by decide) ?_
  refine r_iconst (pc := 17) 1 C dX9_wanders_17 rfl ?_
  have hJ_3 : ∀ (w_2 : Int32) , (w_2 = (if (so (b0 + 14)) = 1 then (1) else ((mp - 1)))) → Vw g X 7 0 0 (fl [wMod g zm za1 za2 za3 za4 za5 za6 za7 za8 za9 zaa mp mt ml md np nt nl nP nS nD so ac mk mn mx nx mq mv wr ts sn sF sB sS mm]) 31 [(0, .ref zm), (1, .int (nI b0)), (2, .int (nI t))] [.int w_2, .int (so (b0 + t))] := by
    intro w_2 e_w_2
    refine r_iadd (pc := 31) C dX9_wanders_31 ?_
    refine r_aload_n (pc := 32) C dX9_wanders_32 0 rfl ?_
    refine r_get (pc := 33) C fl_X9_7 dX9_wanders_33 0 rfl rfl ?_
    refine r_irem (pc := 36) C dX9_wanders_36 q3 ?_
    refine u_int (fun y_4 e_y_4 => ?_)
    refine r_istore_n (pc := 37) [(3, .int y_4), (0, .ref zm), (1, .int (nI b0)), (2, .int (nI t))] C dX9_wanders_37 (by decide) rfl ?_
    refine r_aload_n (pc := 38) C dX9_wanders_38 1 rfl ?_
    refine r_iload_n (pc := 39) C dX9_wanders_39 2 rfl ?_
    refine r_iload_n (pc := 40) C dX9_wanders_40 0 rfl ?_
    refine r_iload_n (pc := 41) C dX9_wanders_41 3 rfl ?_
    obtain ⟨r_5, e_r_5⟩ : ∃ z : Int32, z = fX9_whoAt mt so b0 y_4 (nI t) := ⟨_, rfl⟩
    have K_6 := ctX9_whoAt l g zm za1 za2 za3 za4 za5 za6 za7 za8 za9 zaa mp mt ml md np nt nl nP nS nD so ac mk mn mx nx mq mv wr ts sn sF sB sS mm b0 y_4 (nI t) (by omega) (by omega)
    rw [← e_r_5] at K_6
    refine w_pI (pc := 42) C mv_X9_121 K_6 dX9_wanders_42 (by decide) [0] rfl (by decide) 0 rfl rfl (Nat.le_of_ble_eq_true rfl) ⟨Nat.zero_le _, Nat.zero_le _⟩ ?_
    refine r_istore (pc := 45) [(4, .int r_5), (3, .int y_4), (0, .ref zm), (1, .int (nI b0)), (2, .int (nI t))] C dX9_wanders_45 (by decide) rfl ?_
    refine r_iload (pc := 47) C dX9_wanders_47 0 rfl ?_
    have hJ_25 : ∀ (so_24 : Nat → Int32) , (so_24 = (if r_5 < 0 then (so) else (let w_10 : Int32 := (if (so ((b0 + 6) + r_5.toNatClampNeg)) < (so ((b0 + 6) + t)) then (0) else (1)); let w_13 : Nat := (if w_10 = 0 then (t) else (r_5.toNatClampNeg)); let w_16 : Nat := (if w_10 = 0 then (r_5.toNatClampNeg) else (t)); let so_18 : Nat → Int32 := fX9_falls so b0 w_16; let so_20 : Nat → Int32 := upd so_18 ((b0 + 6) + w_13) ((so_18 ((b0 + 6) + w_13)) - 5); if 0 < (so_20 ((b0 + 6) + w_13)) then (so_20) else (let so_22 : Nat → Int32 := fX9_falls so_20 b0 w_13; so_22)))) → Vw g X 7 0 0 (fl [wMod g zm za1 za2 za3 za4 za5 za6 za7 za8 za9 zaa mp mt ml md np nt nl nP nS nD so_24 ac mk mn mx nx mq mv wr ts sn sF sB sS mm]) 152 [(0, .ref zm), (1, .int (nI b0)), (2, .int (nI t)), (3, .int y_4)] [] := by
      intro so_24 e_so_24
      refine r_aload_n (pc := 152) C dX9_wanders_152 0 rfl ?_
      refine r_get (pc := 153) C fl_X9_29 dX9_wanders_153 0 rfl rfl ?_
      refine r_iload_n (pc := 156) C dX9_wanders_156 1 rfl ?_
      refine r_iload_n (pc := 157) C dX9_wanders_157 2 rfl ?_
      refine r_iaddN (pc := 158) b0 t C dX9_wanders_158 rfl rfl ?_
      refine r_iload_n (pc := 159) C dX9_wanders_159 3 rfl ?_
      obtain ⟨so_26, e_so_26⟩ : ∃ z : Nat → Int32, z = upd so_24 (b0 + t) y_4 := ⟨_, rfl⟩
      refine r_iast (pc := 160) (b0 + t) (fl [wMod g zm za1 za2 za3 za4 za5 za6 za7 za8 za9 zaa mp mt ml md np nt nl nP nS nD so_26 ac mk mn mx nx mq mv wr ts sn sF sB sS mm]) C dX9_wanders_160 5 rfl rfl (by omega) (by decide) (by rw [← e_so_26]; rfl) ?_
      have hf : fX9_wanders mp mt so b0 t = so_26 := by first | (simp only [fX9_wanders, ← e_w_2, ← e_y_4, ← e_r_5, ← e_so_24, ← e_so_26]; done) | (subst e_w_2 e_y_4 e_r_5 e_so_24 e_so_26; rfl) | (subst e_w_2 e_y_4 e_r_5 e_so_24 e_so_26; simp only [fX9_wanders]; done)
      rw [hf] at hR
      exact hR _ _ dX9_wanders_161
    refine r_iflt (pc := 49) 152 C dX9_wanders_49 (by decide) (fun c_7 => ?_) (fun c_7 => ?_)
    · refine u_lv [(0, .ref zm), (1, .int (nI b0)), (2, .int (nI t)), (3, .int y_4)] [2, 3, 4, 1] rfl ?_
      exact hJ_25 _ (by first | (simp only [if_pos c_7]; done) | rfl | (simp [if_pos c_7]; done))
    · obtain ⟨h_8, qh_8⟩ := natc (x := r_5) (B := 6) (by omega) (by rw [e_r_5]; exact whoAt_nat (by omega) (by rw [← e_r_5]; assumption))
      refine u_lvq [(4, .int (nI r_5.toNatClampNeg)), (3, .int y_4), (0, .ref zm), (1, .int (nI b0)), (2, .int (nI t))] (by rw [qh_8]) ?_
      refine r_aload_n (pc := 52) C dX9_wanders_52 2 rfl ?_
      refine r_get (pc := 53) C fl_X9_29 dX9_wanders_53 0 rfl rfl ?_
      refine r_iload_n (pc := 56) C dX9_wanders_56 3 rfl ?_
      refine r_bipush (pc := 57) 6 C dX9_wanders_57 rfl ?_
      refine r_iaddN (pc := 59) b0 6 C dX9_wanders_59 rfl rfl ?_
      refine r_iload_n (pc := 60) C dX9_wanders_60 4 rfl ?_
      refine r_iaddN (pc := 61) (b0 + 6) t C dX9_wanders_61 rfl rfl ?_
      refine r_iald (pc := 62) ((b0 + 6) + t) C dX9_wanders_62 5 rfl rfl (by omega) (by decide) ?_
      refine r_aload_n (pc := 63) C dX9_wanders_63 2 rfl ?_
      refine r_get (pc := 64) C fl_X9_29 dX9_wanders_64 0 rfl rfl ?_
      refine r_iload_n (pc := 67) C dX9_wanders_67 3 rfl ?_
      refine r_bipush (pc := 68) 6 C dX9_wanders_68 rfl ?_
      refine r_iaddN (pc := 70) b0 6 C dX9_wanders_70 rfl rfl ?_
      refine r_iload (pc := 71) C dX9_wanders_71 0 rfl ?_
      refine r_iaddN (pc := 73) (b0 + 6) r_5.toNatClampNeg C dX9_wanders_73 rfl rfl ?_
      refine r_iald (pc := 74) ((b0 + 6) + r_5.toNatClampNeg) C dX9_wanders_74 5 rfl rfl (by omega) (by decide) ?_
      have hJ_11 : ∀ (w_10 : Int32) , (w_10 = (if (so ((b0 + 6) + r_5.toNatClampNeg)) < (so ((b0 + 6) + t)) then (0) else (1))) → Vw g X 7 0 0 (fl [wMod g zm za1 za2 za3 za4 za5 za6 za7 za8 za9 zaa mp mt ml md np nt nl nP nS nD so ac mk mn mx nx mq mv wr ts sn sF sB sS mm]) 83 [(0, .ref zm), (1, .int (nI b0)), (2, .int (nI t)), (3, .int y_4), (4, .int (nI r_5.toNatClampNeg))] [.int w_10] := by
        intro w_10 e_w_10
        refine r_istore (pc := 83) [(5, .int w_10), (0, .ref zm), (1, .int (nI b0)), (2, .int (nI t)), (3, .int y_4), (4, .int (nI r_5.toNatClampNeg))] C dX9_wanders_83 (by decide) rfl ?_
        refine r_iload (pc := 85) C dX9_wanders_85 0 rfl ?_
        have hJ_14 : ∀ (w_13 : Nat) , (w_13 = (if w_10 = 0 then (t) else (r_5.toNatClampNeg))) → Vw g X 7 0 0 (fl [wMod g zm za1 za2 za3 za4 za5 za6 za7 za8 za9 zaa mp mt ml md np nt nl nP nS nD so ac mk mn mx nx mq mv wr ts sn sF sB sS mm]) 96 [(0, .ref zm), (1, .int (nI b0)), (2, .int (nI t)), (3, .int y_4), (4, .int (nI r_5.toNatClampNeg)), (5, .int w_10)] [.int (nI w_13)] := by
          intro w_13 e_w_13
          have m_w_13 : w_13 = t ∨ w_13 = r_5.toNatClampNeg := by rw [e_w_13]; (repeat' split) <;> simp
          refine r_istore (pc := 96) [(6, .int (nI w_13)), (0, .ref zm), (1, .int (nI b0)), (2, .int (nI t)), (3, .int y_4), (4, .int (nI r_5.toNatClampNeg)), (5, .int w_10)] C dX9_wanders_96 (by decide) rfl ?_
          refine r_aload_n (pc := 98) C dX9_wanders_98 1 rfl ?_
          refine r_iload_n (pc := 99) C dX9_wanders_99 2 rfl ?_
          refine r_iload (pc := 100) C dX9_wanders_100 6 rfl ?_
          have hJ_17 : ∀ (w_16 : Nat) , (w_16 = (if w_10 = 0 then (r_5.toNatClampNeg) else (t))) → Vw g X 7 0 0 (fl [wMod g zm za1 za2 za3 za4 za5 za6 za7 za8 za9 zaa mp mt ml md np nt nl nP nS nD so ac mk mn mx nx mq mv wr ts sn sF sB sS mm]) 111 [(0, .ref zm), (1, .int (nI b0)), (2, .int (nI t)), (3, .int y_4), (6, .int (nI w_13))] [.int (nI w_16), .int (nI b0), .ref zm] := by
            intro w_16 e_w_16
            have m_w_16 : w_16 = r_5.toNatClampNeg ∨ w_16 = t := by rw [e_w_16]; (repeat' split) <;> simp
            obtain ⟨so_18, e_so_18⟩ : ∃ z : Nat → Int32, z = fX9_falls so b0 w_16 := ⟨_, rfl⟩
            have K_19 := ctX9_falls l g zm za1 za2 za3 za4 za5 za6 za7 za8 za9 zaa mp mt ml md np nt nl nP nS nD so ac mk mn mx nx mq mv wr ts sn sF sB sS mm b0 w_16 (by omega) (by omega)
            rw [← e_so_18] at K_19
            refine w_cV (pc := 111) [wMod g zm za1 za2 za3 za4 za5 za6 za7 za8 za9 zaa mp mt ml md np nt nl nP nS nD so_18 ac mk mn mx nx mq mv wr ts sn sF sB sS mm] C mv_X9_125 K_19 dX9_wanders_111 (by decide) [0] rfl (by decide) (by simp only [List.map_cons, List.map_nil, adMod]) rfl 0 rfl rfl (Nat.le_of_ble_eq_true rfl) ⟨Nat.zero_le _, Nat.zero_le _⟩ ?_
            refine r_aload_n (pc := 114) C dX9_wanders_114 0 rfl ?_
            refine r_get (pc := 115) C fl_X9_29 dX9_wanders_115 0 rfl rfl ?_
            refine r_iload_n (pc := 118) C dX9_wanders_118 1 rfl ?_
            refine r_bipush (pc := 119) 6 C dX9_wanders_119 rfl ?_
            refine r_iaddN (pc := 121) b0 6 C dX9_wanders_121 rfl rfl ?_
            refine r_iload (pc := 122) C dX9_wanders_122 4 rfl ?_
            refine r_iaddN (pc := 124) (b0 + 6) w_13 C dX9_wanders_124 rfl rfl ?_
            refine r_dup2 (pc := 125) C dX9_wanders_125 rfl rfl ?_
            refine r_iald (pc := 126) ((b0 + 6) + w_13) C dX9_wanders_126 5 rfl rfl (by omega) (by decide) ?_
            refine r_iconst (pc := 127) 5 C dX9_wanders_127 rfl ?_
            refine r_isub (pc := 128) C dX9_wanders_128 ?_
            obtain ⟨so_20, e_so_20⟩ : ∃ z : Nat → Int32, z = upd so_18 ((b0 + 6) + w_13) ((so_18 ((b0 + 6) + w_13)) - 5) := ⟨_, rfl⟩
            refine r_iast (pc := 129) ((b0 + 6) + w_13) (fl [wMod g zm za1 za2 za3 za4 za5 za6 za7 za8 za9 zaa mp mt ml md np nt nl nP nS nD so_20 ac mk mn mx nx mq mv wr ts sn sF sB sS mm]) C dX9_wanders_129 5 rfl rfl (by omega) (by decide) (by rw [← e_so_20]; rfl) ?_
            refine r_aload_n (pc := 130) C dX9_wanders_130 0 rfl ?_
            refine r_get (pc := 131) C fl_X9_29 dX9_wanders_131 0 rfl rfl ?_
            refine r_iload_n (pc := 134) C dX9_wanders_134 1 rfl ?_
            refine r_bipush (pc := 135) 6 C dX9_wanders_135 rfl ?_
            refine r_iaddN (pc := 137) b0 6 C dX9_wanders_137 rfl rfl ?_
            refine r_iload (pc := 138) C dX9_wanders_138 4 rfl ?_
            refine r_iaddN (pc := 140) (b0 + 6) w_13 C dX9_wanders_140 rfl rfl ?_
            refine r_iald (pc := 141) ((b0 + 6) + w_13) C dX9_wanders_141 5 rfl rfl (by omega) (by decide) ?_
            refine r_ifgt (pc := 142) 152 C dX9_wanders_142 (by decide) (fun c_21 => ?_) (fun c_21 => ?_)
            · refine u_lv [(0, .ref zm), (1, .int (nI b0)), (2, .int (nI t)), (3, .int y_4)] [0, 1, 2, 3] rfl ?_
              exact hJ_25 _ (by first | (simp only [← e_w_10, ← e_w_13, ← e_w_16, ← e_so_18, ← e_so_20, if_neg c_7, if_pos c_21]; done) | (subst e_w_10 e_w_13 e_w_16 e_so_18 e_so_20; simp only [if_neg c_7, if_pos c_21]; done) | (subst e_w_10 e_w_13 e_w_16 e_so_18 e_so_20; rfl) | (subst e_w_10 e_w_13 e_w_16 e_so_18 e_so_20; simp [if_neg c_7, if_pos c_21]; done))
            · refine r_aload_n (pc := 145) C dX9_wanders_145 0 rfl ?_
              refine r_iload_n (pc := 146) C dX9_wanders_146 1 rfl ?_
              refine r_iload (pc := 147) C dX9_wanders_147 4 rfl ?_
              obtain ⟨so_22, e_so_22⟩ : ∃ z : Nat → Int32, z = fX9_falls so_20 b0 w_13 := ⟨_, rfl⟩
              have K_23 := ctX9_falls l g zm za1 za2 za3 za4 za5 za6 za7 za8 za9 zaa mp mt ml md np nt nl nP nS nD so_20 ac mk mn mx nx mq mv wr ts sn sF sB sS mm b0 w_13 (by omega) (by omega)
              rw [← e_so_22] at K_23
              refine w_cV (pc := 149) [wMod g zm za1 za2 za3 za4 za5 za6 za7 za8 za9 zaa mp mt ml md np nt nl nP nS nD so_22 ac mk mn mx nx mq mv wr ts sn sF sB sS mm] C mv_X9_125 K_23 dX9_wanders_149 (by decide) [0] rfl (by decide) (by simp only [List.map_cons, List.map_nil, adMod]) rfl 0 rfl rfl (Nat.le_of_ble_eq_true rfl) ⟨Nat.zero_le _, Nat.zero_le _⟩ ?_
              refine u_lv [(0, .ref zm), (1, .int (nI b0)), (2, .int (nI t)), (3, .int y_4)] [0, 1, 2, 3] rfl ?_
              exact hJ_25 _ (by first | (simp only [← e_w_10, ← e_w_13, ← e_w_16, ← e_so_18, ← e_so_20, ← e_so_22, if_neg c_7, if_neg c_21]; done) | (subst e_w_10 e_w_13 e_w_16 e_so_18 e_so_20 e_so_22; simp only [if_neg c_7, if_neg c_21]; done) | (subst e_w_10 e_w_13 e_w_16 e_so_18 e_so_20 e_so_22; rfl) | (subst e_w_10 e_w_13 e_w_16 e_so_18 e_so_20 e_so_22; simp [if_neg c_7, if_neg c_21]; done))
          refine r_ifeq (pc := 102) 109 C dX9_wanders_102 (by decide) (fun c_15 => ?_) (fun c_15 => ?_)
          · refine r_iload (pc := 109) C dX9_wanders_109 5 rfl ?_
            refine u_lv [(0, .ref zm), (1, .int (nI b0)), (2, .int (nI t)), (3, .int y_4), (6, .int (nI w_13))] [1, 2, 3, 4, 0] rfl ?_
            exact hJ_17 _ (by first | (simp only [if_pos c_15]; done) | rfl | (simp [if_pos c_15]; done))
          · refine r_iload_n (pc := 105) C dX9_wanders_105 3 rfl ?_
            refine r_goto (pc := 106) 111 C dX9_wanders_106 (by decide) ?_
            refine u_lv [(0, .ref zm), (1, .int (nI b0)), (2, .int (nI t)), (3, .int y_4), (6, .int (nI w_13))] [1, 2, 3, 4, 0] rfl ?_
            exact hJ_17 _ (by first | (simp only [if_neg c_15]; done) | rfl | (simp [if_neg c_15]; done))
        refine r_ifeq (pc := 87) 95 C dX9_wanders_87 (by decide) (fun c_12 => ?_) (fun c_12 => ?_)
        · refine r_iload_n (pc := 95) C dX9_wanders_95 3 rfl ?_
          refine u_lv [(0, .ref zm), (1, .int (nI b0)), (2, .int (nI t)), (3, .int y_4), (4, .int (nI r_5.toNatClampNeg)), (5, .int w_10)] [1, 2, 3, 4, 5, 0] rfl ?_
          exact hJ_14 _ (by first | (simp only [if_pos c_12]; done) | rfl | (simp [if_pos c_12]; done))
        · refine r_iload (pc := 90) C dX9_wanders_90 5 rfl ?_
          refine r_goto (pc := 92) 96 C dX9_wanders_92 (by decide) ?_
          refine u_lv [(0, .ref zm), (1, .int (nI b0)), (2, .int (nI t)), (3, .int y_4), (4, .int (nI r_5.toNatClampNeg)), (5, .int w_10)] [1, 2, 3, 4, 5, 0] rfl ?_
          exact hJ_14 _ (by first | (simp only [if_neg c_12]; done) | rfl | (simp [if_neg c_12]; done))
      refine r_icmpgt (pc := 75) 82 C dX9_wanders_75 (by decide) (fun c_9 => ?_) (fun c_9 => ?_)
      · refine r_iconst (pc := 82) 0 C dX9_wanders_82 rfl ?_
        refine u_lv [(0, .ref zm), (1, .int (nI b0)), (2, .int (nI t)), (3, .int y_4), (4, .int (nI r_5.toNatClampNeg))] [2, 3, 4, 1, 0] rfl ?_
        exact hJ_11 _ (by first | (simp only [if_pos c_9]; done) | rfl | (simp [if_pos c_9]; done))
      · refine r_iconst (pc := 78) 1 C dX9_wanders_78 rfl ?_
        refine r_goto (pc := 79) 83 C dX9_wanders_79 (by decide) ?_
        refine u_lv [(0, .ref zm), (1, .int (nI b0)), (2, .int (nI t)), (3, .int y_4), (4, .int (nI r_5.toNatClampNeg))] [2, 3, 4, 1, 0] rfl ?_
        exact hJ_11 _ (by first | (simp only [if_neg c_9]; done) | rfl | (simp [if_neg c_9]; done))
  refine r_icmpne (pc := 18) 25 C dX9_wanders_18 (by decide) (fun c_1 => ?_) (fun c_1 => ?_)
  · refine r_aload_n (pc := 25) C dX9_wanders_25 0 rfl ?_
    refine r_get (pc := 26) C fl_X9_7 dX9_wanders_26 0 rfl rfl ?_
    refine r_iconst (pc := 29) 1 C dX9_wanders_29 rfl ?_
    refine r_isub (pc := 30) C dX9_wanders_30 ?_
    exact hJ_3 _ (by first | (simp only [if_neg c_1]; done) | rfl | (simp [if_neg c_1]; done))
  · refine r_iconst (pc := 21) 1 C dX9_wanders_21 rfl ?_
    refine r_goto (pc := 22) 31 C dX9_wanders_22 (by decide) ?_
    exact hJ_3 _ (by first | (simp only [if_pos c_1]; done) | rfl | (simp [if_pos c_1]; done))
theorem ctX9_wanders (l : Launch) (g : Gl) (zm : Nat) (za1 : Nat) (za2 : Nat) (za3 : Nat) (za4 : Nat) (za5 : Nat) (za6 : Nat) (za7 : Nat) (za8 : Nat) (za9 : Nat) (zaa : Nat) (mp : Int32) (mt : Nat) (ml : Int32) (md : Nat → Int32) (np : Int32) (nt : Nat) (nl : Int32) (nP : Nat → Int32) (nS : Nat → Int32) (nD : Nat → Int32) (so : Nat → Int32) (ac : Nat) (mk : Nat → Int32) (mn : Nat) (mx : Nat → Int32) (nx : Nat) (mq : Nat) (mv : Int32) (wr : Int32) (ts : Int32) (sn : Nat) (sF : Nat → Int32) (sB : Nat → Int32) (sS : Nat → Int32) (mm : Int64) (b0 : Nat) (t : Nat) (q0 : b0 + 15 ≤ 210) (q1 : t < 6) (q2 : mt ≤ 6) (q3 : ¬ mp = 0) : CtV l g yX9_wanders cX9_wanders 7 2 [.ref zm, .int (nI b0), .int (nI t)] (fl [wMod g zm za1 za2 za3 za4 za5 za6 za7 za8 za9 zaa mp mt ml md np nt nl nP nS nD so ac mk mn mx nx mq mv wr ts sn sF sB sS mm]) (fl [wMod g zm za1 za2 za3 za4 za5 za6 za7 za8 za9 zaa mp mt ml md np nt nl nP nS nD (fX9_wanders mp mt so b0 t) ac mk mn mx nx mq mv wr ts sn sF sB sS mm]) := mkV [(0, .ref zm), (1, .int (nI b0)), (2, .int (nI t))] (by decide) (Nat.le_of_ble_eq_true rfl) rfl (fun X C hR => bX9_wanders C zm za1 za2 za3 za4 za5 za6 za7 za8 za9 zaa mp mt ml md np nt nl nP nS nD so ac mk mn mx nx mq mv wr ts sn sF sB sS mm b0 t q0 q1 q2 q3 hR)

def lX9_beat_2 (b0 : Nat) (md : Nat → Int32) : Nat → (Nat) → (Nat → Int32) → (Nat → Int32)
  | 0, x2_1, so0_1 => (so0_1)
  | n + 1, x2_1, so0_1 => (let r_4 : Int32 := fX9_has (so0_1 (b0 + 12)) (nI x2_1); if r_4 = 0 then (lX9_beat_2 b0 md n (x2_1 + 1) so0_1) else (let so_7 : Nat → Int32 := upd so0_1 ((b0 + 6) + x2_1) ((so0_1 ((b0 + 6) + x2_1)) - (md x2_1)); if 0 < (so_7 ((b0 + 6) + x2_1)) then (lX9_beat_2 b0 md n (x2_1 + 1) so_7) else (let so_9 : Nat → Int32 := fX9_falls so_7 b0 x2_1; lX9_beat_2 b0 md n (x2_1 + 1) so_9)))
def lX9_beat_74 (b0 : Nat) (ml : Int32) (mp : Int32) (mt : Nat) : Nat → (Nat) → (Nat → Int32) → (Nat → Int32)
  | 0, x2_12, so0_12 => (so0_12)
  | n + 1, x2_12, so0_12 => (if (so0_12 (b0 + 14)) = 0 then (so0_12) else (let r_16 : Int32 := fX9_has (so0_12 (b0 + 12)) (nI x2_12); if r_16 = 0 then (lX9_beat_74 b0 ml mp mt n (x2_12 + 1) so0_12) else (if ml < (so0_12 ((b0 + 6) + x2_12)) then (lX9_beat_74 b0 ml mp mt n (x2_12 + 1) so0_12) else (let so_20 : Nat → Int32 := fX9_wanders mp mt so0_12 b0 x2_12; lX9_beat_74 b0 ml mp mt n (x2_12 + 1) so_20))))
def fX9_beat (mp : Int32) (mt : Nat) (ml : Int32) (md : Nat → Int32) (so : Nat → Int32) (b0 : Nat) : (Nat → Int32) := (let so0_11 : Nat → Int32 := lX9_beat_2 b0 md mt 0 so; let so0_22 : Nat → Int32 := lX9_beat_74 b0 ml mp mt mt 0 so0_11; let so_23 : Nat → Int32 := upd so0_22 (b0 + 13) ((so0_22 (b0 + 13)) + 1); so_23)
set_option maxHeartbeats 4000000 in
set_option maxRecDepth 100000 in
theorem bX9_beat {l : Launch} {g : Gl} {X : Cx} (C : Ok l g X RX9 cX9_beat 3 3) (zm : Nat) (za1 : Nat) (za2 : Nat) (za3 : Nat) (za4 : Nat) (za5 : Nat) (za6 : Nat) (za7 : Nat) (za8 : Nat) (za9 : Nat) (zaa : Nat) (mp : Int32) (mt : Nat) (ml : Int32) (md : Nat → Int32) (np : Int32) (nt : Nat) (nl : Int32) (nP : Nat → Int32) (nS : Nat → Int32) (nD : Nat → Int32) (so : Nat → Int32) (ac : Nat) (mk : Nat → Int32) (mn : Nat) (mx : Nat → Int32) (nx : Nat) (mq : Nat) (mv : Int32) (wr : Int32) (ts : Int32) (sn : Nat) (sF : Nat → Int32) (sB : Nat → Int32) (sS : Nat → Int32) (mm : Int64) (b0 : Nat) (q0 : b0 + 15 ≤ 210) (q1 : mt ≤ 6) (q2 : ¬ mp = 0) (hR : RetV g X cX9_beat 3 0 0 (fl [wMod g zm za1 za2 za3 za4 za5 za6 za7 za8 za9 zaa mp mt ml md np nt nl nP nS nD (fX9_beat mp mt ml md so b0) ac mk mn mx nx mq mv wr ts sn sF sB sS mm])) : Vw g X 3 0 0 (fl [wMod g zm za1 za2 za3 za4 za5 za6 za7 za8 za9 zaa mp mt ml md np nt nl nP nS nD so ac mk mn mx nx mq mv wr ts sn sF sB sS mm]) 0 [(0, .ref zm), (1, .int (nI b0))] [] := by
  refine r_iconst (pc := 0) 0 C dX9_beat_0 rfl ?_
  refine r_istore_n (pc := 1) [(2, .int 0), (0, .ref zm), (1, .int (nI b0))] C dX9_beat_1 (by decide) rfl ?_
  have hX1 : ∀ (so0_11 : Nat → Int32) , (so0_11 = lX9_beat_2 b0 md mt 0 so) → Vw g X 3 0 0 (fl [wMod g zm za1 za2 za3 za4 za5 za6 za7 za8 za9 zaa mp mt ml md np nt nl nP nS nD so0_11 ac mk mn mx nx mq mv wr ts sn sF sB sS mm]) 72 [(0, .ref zm), (1, .int (nI b0))] [] := by
    intro so0_11 e_so0_11 
    refine r_iconst (pc := 72) 0 C dX9_beat_72 rfl ?_
    refine r_istore_n (pc := 73) [(2, .int 0), (0, .ref zm), (1, .int (nI b0))] C dX9_beat_73 (by decide) rfl ?_
    have hX12 : ∀ (so0_22 : Nat → Int32) , (so0_22 = lX9_beat_74 b0 ml mp mt mt 0 so0_11) → Vw g X 3 0 0 (fl [wMod g zm za1 za2 za3 za4 za5 za6 za7 za8 za9 zaa mp mt ml md np nt nl nP nS nD so0_22 ac mk mn mx nx mq mv wr ts sn sF sB sS mm]) 140 [(0, .ref zm), (1, .int (nI b0))] [] := by
      intro so0_22 e_so0_22 
      refine r_aload_n (pc := 140) C dX9_beat_140 0 rfl ?_
      refine r_get (pc := 141) C fl_X9_29 dX9_beat_141 0 rfl rfl ?_
      refine r_iload_n (pc := 144) C dX9_beat_144 1 rfl ?_
      refine r_bipush (pc := 145) 13 C dX9_beat_145 rfl ?_
      refine r_iaddN (pc := 147) b0 13 C dX9_beat_147 rfl rfl ?_
      refine r_dup2 (pc := 148) C dX9_beat_148 rfl rfl ?_
      refine r_iald (pc := 149) (b0 + 13) C dX9_beat_149 5 rfl rfl (by omega) (by decide) ?_
      refine r_iconst (pc := 150) 1 C dX9_beat_150 rfl ?_
      refine r_iadd (pc := 151) C dX9_beat_151 ?_
      obtain ⟨so_23, e_so_23⟩ : ∃ z : Nat → Int32, z = upd so0_22 (b0 + 13) ((so0_22 (b0 + 13)) + 1) := ⟨_, rfl⟩
      refine r_iast (pc := 152) (b0 + 13) (fl [wMod g zm za1 za2 za3 za4 za5 za6 za7 za8 za9 zaa mp mt ml md np nt nl nP nS nD so_23 ac mk mn mx nx mq mv wr ts sn sF sB sS mm]) C dX9_beat_152 5 rfl rfl (by omega) (by decide) (by rw [← e_so_23]; rfl) ?_
      have hf : fX9_beat mp mt ml md so b0 = so_23 := by first | (simp only [fX9_beat, ← e_so0_11, ← e_so0_22, ← e_so_23]; done) | (subst e_so0_11 e_so0_22 e_so_23; rfl) | (subst e_so0_11 e_so0_22 e_so_23; simp only [fX9_beat]; done)
      rw [hf] at hR
      exact hR _ _ dX9_beat_153
    have hL12 : ∀ (n : Nat) (x2_12 : Nat) (so0_12 : Nat → Int32) , (x2_12 + n = mt) → lX9_beat_74 b0 ml mp mt n x2_12 so0_12 = lX9_beat_74 b0 ml mp mt mt 0 so0_11 → Vw g X 3 0 0 (fl [wMod g zm za1 za2 za3 za4 za5 za6 za7 za8 za9 zaa mp mt ml md np nt nl nP nS nD so0_12 ac mk mn mx nx mq mv wr ts sn sF sB sS mm]) 74 [(0, .ref zm), (1, .int (nI b0)), (2, .int (nI x2_12))] [] := by
      intro n
      induction n with
      | zero =>
        intro x2_12 so0_12 hr12 hV12
        refine r_iload_n (pc := 74) C dX9_beat_74 2 rfl ?_
        refine r_aload_n (pc := 75) C dX9_beat_75 0 rfl ?_
        refine r_get (pc := 76) C fl_X9_108 dX9_beat_76 0 rfl rfl ?_
        refine r_icmpgeN (pc := 79) x2_12 mt 140 C dX9_beat_79 (by decide) rfl rfl (by omega) (by omega) (fun _ => ?_) (fun c_13 => absurd (by omega) c_13)
        refine u_lv [(0, .ref zm), (1, .int (nI b0))] [0, 1] rfl ?_
        exact hX12 _ (by rw [← hV12]; first | rfl | (simp only [lX9_beat_74]; done) | (simp [lX9_beat_74]; done))
      | succ n ih =>
        intro x2_12 so0_12 hr12 hV12
        refine r_iload_n (pc := 74) C dX9_beat_74 2 rfl ?_
        refine r_aload_n (pc := 75) C dX9_beat_75 0 rfl ?_
        refine r_get (pc := 76) C fl_X9_108 dX9_beat_76 0 rfl rfl ?_
        refine r_icmpgeN (pc := 79) x2_12 mt 140 C dX9_beat_79 (by decide) rfl rfl (by omega) (by omega) (fun c_14 => absurd c_14 (by omega)) (fun _ => ?_)
        refine r_aload_n (pc := 82) C dX9_beat_82 0 rfl ?_
        refine r_get (pc := 83) C fl_X9_29 dX9_beat_83 0 rfl rfl ?_
        refine r_iload_n (pc := 86) C dX9_beat_86 1 rfl ?_
        refine r_bipush (pc := 87) 14 C dX9_beat_87 rfl ?_
        refine r_iaddN (pc := 89) b0 14 C dX9_beat_89 rfl rfl ?_
        refine r_iald (pc := 90) (b0 + 14) C dX9_beat_90 5 rfl rfl (by omega) (by decide) ?_
        refine r_ifeq (pc := 91) 140 C dX9_beat_91 (by decide) (fun c_15 => ?_) (fun c_15 => ?_)
        · refine u_lv [(0, .ref zm), (1, .int (nI b0))] [0, 1] rfl ?_
          exact hX12 _ (by rw [← hV12]; first | (simp only [lX9_beat_74, if_pos c_15]; done) | rfl | (simp [lX9_beat_74, if_pos c_15]; done))
        · refine r_aload_n (pc := 94) C dX9_beat_94 0 rfl ?_
          refine r_get (pc := 95) C fl_X9_29 dX9_beat_95 0 rfl rfl ?_
          refine r_iload_n (pc := 98) C dX9_beat_98 1 rfl ?_
          refine r_bipush (pc := 99) 12 C dX9_beat_99 rfl ?_
          refine r_iaddN (pc := 101) b0 12 C dX9_beat_101 rfl rfl ?_
          refine r_iald (pc := 102) (b0 + 12) C dX9_beat_102 5 rfl rfl (by omega) (by decide) ?_
          refine r_iload_n (pc := 103) C dX9_beat_103 2 rfl ?_
          obtain ⟨r_16, e_r_16⟩ : ∃ z : Int32, z = fX9_has (so0_12 (b0 + 12)) (nI x2_12) := ⟨_, rfl⟩
          have K_17 := ctX9_has l g   (so0_12 (b0 + 12)) (nI x2_12) 
          rw [← e_r_16] at K_17
          refine x_pI (pc := 104) C ms_X9_117 K_17 dX9_beat_104 (by decide) [] rfl (by decide) rfl (Nat.le_of_ble_eq_true rfl) ⟨Nat.zero_le _, Nat.zero_le _⟩ ?_
          refine r_ifeq (pc := 107) 134 C dX9_beat_107 (by decide) (fun c_18 => ?_) (fun c_18 => ?_)
          · refine r_iinc (pc := 134) (nI (x2_12 + 1)) [(2, .int (nI (x2_12 + 1))), (0, .ref zm), (1, .int (nI b0))] C dX9_beat_134 2 rfl (inc1 _) (by decide) rfl ?_
            refine r_goto (pc := 137) 74 C dX9_beat_137 (by decide) ?_
            refine u_lv [(0, .ref zm), (1, .int (nI b0)), (2, .int (nI (x2_12 + 1)))] [1, 2, 0] rfl ?_
            exact ih (x2_12 + 1) so0_12 (by omega) (by rw [← hV12]; first | (simp only [lX9_beat_74, ← e_r_16, if_neg c_15, if_pos c_18]; done) | (subst e_r_16; simp only [lX9_beat_74, if_neg c_15, if_pos c_18]; done) | (subst e_r_16; rfl) | (subst e_r_16; simp [lX9_beat_74, if_neg c_15, if_pos c_18]; done))
          · refine r_aload_n (pc := 110) C dX9_beat_110 0 rfl ?_
            refine r_get (pc := 111) C fl_X9_29 dX9_beat_111 0 rfl rfl ?_
            refine r_iload_n (pc := 114) C dX9_beat_114 1 rfl ?_
            refine r_bipush (pc := 115) 6 C dX9_beat_115 rfl ?_
            refine r_iaddN (pc := 117) b0 6 C dX9_beat_117 rfl rfl ?_
            refine r_iload_n (pc := 118) C dX9_beat_118 2 rfl ?_
            refine r_iaddN (pc := 119) (b0 + 6) x2_12 C dX9_beat_119 rfl rfl ?_
            refine r_iald (pc := 120) ((b0 + 6) + x2_12) C dX9_beat_120 5 rfl rfl (by omega) (by decide) ?_
            refine r_aload_n (pc := 121) C dX9_beat_121 0 rfl ?_
            refine r_get (pc := 122) C fl_X9_13 dX9_beat_122 0 rfl rfl ?_
            refine r_icmpgt (pc := 125) 134 C dX9_beat_125 (by decide) (fun c_19 => ?_) (fun c_19 => ?_)
            · refine r_iinc (pc := 134) (nI (x2_12 + 1)) [(2, .int (nI (x2_12 + 1))), (0, .ref zm), (1, .int (nI b0))] C dX9_beat_134 2 rfl (inc1 _) (by decide) rfl ?_
              refine r_goto (pc := 137) 74 C dX9_beat_137 (by decide) ?_
              refine u_lv [(0, .ref zm), (1, .int (nI b0)), (2, .int (nI (x2_12 + 1)))] [1, 2, 0] rfl ?_
              exact ih (x2_12 + 1) so0_12 (by omega) (by rw [← hV12]; first | (simp only [lX9_beat_74, ← e_r_16, if_neg c_15, if_neg c_18, if_pos c_19]; done) | (subst e_r_16; simp only [lX9_beat_74, if_neg c_15, if_neg c_18, if_pos c_19]; done) | (subst e_r_16; rfl) | (subst e_r_16; simp [lX9_beat_74, if_neg c_15, if_neg c_18, if_pos c_19]; done))
            · refine r_aload_n (pc := 128) C dX9_beat_128 0 rfl ?_
              refine r_iload_n (pc := 129) C dX9_beat_129 1 rfl ?_
              refine r_iload_n (pc := 130) C dX9_beat_130 2 rfl ?_
              obtain ⟨so_20, e_so_20⟩ : ∃ z : Nat → Int32, z = fX9_wanders mp mt so0_12 b0 x2_12 := ⟨_, rfl⟩
              have K_21 := ctX9_wanders l g zm za1 za2 za3 za4 za5 za6 za7 za8 za9 zaa mp mt ml md np nt nl nP nS nD so0_12 ac mk mn mx nx mq mv wr ts sn sF sB sS mm b0 x2_12 (by omega) (by omega) (by omega) (by assumption)
              rw [← e_so_20] at K_21
              refine w_cV (pc := 131) [wMod g zm za1 za2 za3 za4 za5 za6 za7 za8 za9 zaa mp mt ml md np nt nl nP nS nD so_20 ac mk mn mx nx mq mv wr ts sn sF sB sS mm] C mv_X9_128 K_21 dX9_beat_131 (by decide) [0] rfl (by decide) (by simp only [List.map_cons, List.map_nil, adMod]) rfl 0 rfl rfl (Nat.le_of_ble_eq_true rfl) ⟨Nat.zero_le _, Nat.zero_le _⟩ ?_
              refine r_iinc (pc := 134) (nI (x2_12 + 1)) [(2, .int (nI (x2_12 + 1))), (0, .ref zm), (1, .int (nI b0))] C dX9_beat_134 2 rfl (inc1 _) (by decide) rfl ?_
              refine r_goto (pc := 137) 74 C dX9_beat_137 (by decide) ?_
              refine u_lv [(0, .ref zm), (1, .int (nI b0)), (2, .int (nI (x2_12 + 1)))] [1, 2, 0] rfl ?_
              exact ih (x2_12 + 1) so_20 (by omega) (by rw [← hV12]; first | (simp only [lX9_beat_74, ← e_r_16, ← e_so_20, if_neg c_15, if_neg c_18, if_neg c_19]; done) | (subst e_r_16 e_so_20; simp only [lX9_beat_74, if_neg c_15, if_neg c_18, if_neg c_19]; done) | (subst e_r_16 e_so_20; rfl) | (subst e_r_16 e_so_20; simp [lX9_beat_74, if_neg c_15, if_neg c_18, if_neg c_19]; done))
    refine u_lv [(0, .ref zm), (1, .int (nI b0)), (2, .int 0)] [1, 2, 0] rfl ?_
    exact hL12 mt 0 so0_11 (by omega) rfl
  have hL1 : ∀ (n : Nat) (x2_1 : Nat) (so0_1 : Nat → Int32) , (x2_1 + n = mt) → lX9_beat_2 b0 md n x2_1 so0_1 = lX9_beat_2 b0 md mt 0 so → Vw g X 3 0 0 (fl [wMod g zm za1 za2 za3 za4 za5 za6 za7 za8 za9 zaa mp mt ml md np nt nl nP nS nD so0_1 ac mk mn mx nx mq mv wr ts sn sF sB sS mm]) 2 [(0, .ref zm), (1, .int (nI b0)), (2, .int (nI x2_1))] [] := by
    intro n
    induction n with
    | zero =>
      intro x2_1 so0_1 hr1 hV1
      refine r_iload_n (pc := 2) C dX9_beat_2 2 rfl ?_
      refine r_aload_n (pc := 3) C dX9_beat_3 0 rfl ?_
      refine r_get (pc := 4) C fl_X9_108 dX9_beat_4 0 rfl rfl ?_
      refine r_icmpgeN (pc := 7) x2_1 mt 72 C dX9_beat_7 (by decide) rfl rfl (by omega) (by omega) (fun _ => ?_) (fun c_2 => absurd (by omega) c_2)
      refine u_lv [(0, .ref zm), (1, .int (nI b0))] [0, 1] rfl ?_
      exact hX1 _ (by rw [← hV1]; first | rfl | (simp only [lX9_beat_2]; done) | (simp [lX9_beat_2]; done))
    | succ n ih =>
      intro x2_1 so0_1 hr1 hV1
      refine r_iload_n (pc := 2) C dX9_beat_2 2 rfl ?_
      refine r_aload_n (pc := 3) C dX9_beat_3 0 rfl ?_
      refine r_get (pc := 4) C fl_X9_108 dX9_beat_4 0 rfl rfl ?_
      refine r_icmpgeN (pc := 7) x2_1 mt 72 C dX9_beat_7 (by decide) rfl rfl (by omega) (by omega) (fun c_3 => absurd c_3 (by omega)) (fun _ => ?_)
      refine r_aload_n (pc := 10) C dX9_beat_10 0 rfl ?_
      refine r_get (pc := 11) C fl_X9_29 dX9_beat_11 0 rfl rfl ?_
      refine r_iload_n (pc := 14) C dX9_beat_14 1 rfl ?_
      refine r_bipush (pc := 15) 12 C dX9_beat_15 rfl ?_
      refine r_iaddN (pc := 17) b0 12 C dX9_beat_17 rfl rfl ?_
      refine r_iald (pc := 18) (b0 + 12) C dX9_beat_18 5 rfl rfl (by omega) (by decide) ?_
      refine r_iload_n (pc := 19) C dX9_beat_19 2 rfl ?_
      obtain ⟨r_4, e_r_4⟩ : ∃ z : Int32, z = fX9_has (so0_1 (b0 + 12)) (nI x2_1) := ⟨_, rfl⟩
      have K_5 := ctX9_has l g   (so0_1 (b0 + 12)) (nI x2_1) 
      rw [← e_r_4] at K_5
      refine x_pI (pc := 20) C ms_X9_117 K_5 dX9_beat_20 (by decide) [] rfl (by decide) rfl (Nat.le_of_ble_eq_true rfl) ⟨Nat.zero_le _, Nat.zero_le _⟩ ?_
      refine r_ifeq (pc := 23) 66 C dX9_beat_23 (by decide) (fun c_6 => ?_) (fun c_6 => ?_)
      · refine r_iinc (pc := 66) (nI (x2_1 + 1)) [(2, .int (nI (x2_1 + 1))), (0, .ref zm), (1, .int (nI b0))] C dX9_beat_66 2 rfl (inc1 _) (by decide) rfl ?_
        refine r_goto (pc := 69) 2 C dX9_beat_69 (by decide) ?_
        refine u_lv [(0, .ref zm), (1, .int (nI b0)), (2, .int (nI (x2_1 + 1)))] [1, 2, 0] rfl ?_
        exact ih (x2_1 + 1) so0_1 (by omega) (by rw [← hV1]; first | (simp only [lX9_beat_2, ← e_r_4, if_pos c_6]; done) | (subst e_r_4; simp only [lX9_beat_2, if_pos c_6]; done) | (subst e_r_4; rfl) | (subst e_r_4; simp [lX9_beat_2, if_pos c_6]; done))
      · refine r_aload_n (pc := 26) C dX9_beat_26 0 rfl ?_
        refine r_get (pc := 27) C fl_X9_29 dX9_beat_27 0 rfl rfl ?_
        refine r_iload_n (pc := 30) C dX9_beat_30 1 rfl ?_
        refine r_bipush (pc := 31) 6 C dX9_beat_31 rfl ?_
        refine r_iaddN (pc := 33) b0 6 C dX9_beat_33 rfl rfl ?_
        refine r_iload_n (pc := 34) C dX9_beat_34 2 rfl ?_
        refine r_iaddN (pc := 35) (b0 + 6) x2_1 C dX9_beat_35 rfl rfl ?_
        refine r_dup2 (pc := 36) C dX9_beat_36 rfl rfl ?_
        refine r_iald (pc := 37) ((b0 + 6) + x2_1) C dX9_beat_37 5 rfl rfl (by omega) (by decide) ?_
        refine r_aload_n (pc := 38) C dX9_beat_38 0 rfl ?_
        refine r_get (pc := 39) C fl_X9_16 dX9_beat_39 0 rfl rfl ?_
        refine r_iload_n (pc := 42) C dX9_beat_42 2 rfl ?_
        refine r_iald (pc := 43) x2_1 C dX9_beat_43 1 rfl rfl (by omega) (by decide) ?_
        refine r_isub (pc := 44) C dX9_beat_44 ?_
        obtain ⟨so_7, e_so_7⟩ : ∃ z : Nat → Int32, z = upd so0_1 ((b0 + 6) + x2_1) ((so0_1 ((b0 + 6) + x2_1)) - (md x2_1)) := ⟨_, rfl⟩
        refine r_iast (pc := 45) ((b0 + 6) + x2_1) (fl [wMod g zm za1 za2 za3 za4 za5 za6 za7 za8 za9 zaa mp mt ml md np nt nl nP nS nD so_7 ac mk mn mx nx mq mv wr ts sn sF sB sS mm]) C dX9_beat_45 5 rfl rfl (by omega) (by decide) (by rw [← e_so_7]; rfl) ?_
        refine r_aload_n (pc := 46) C dX9_beat_46 0 rfl ?_
        refine r_get (pc := 47) C fl_X9_29 dX9_beat_47 0 rfl rfl ?_
        refine r_iload_n (pc := 50) C dX9_beat_50 1 rfl ?_
        refine r_bipush (pc := 51) 6 C dX9_beat_51 rfl ?_
        refine r_iaddN (pc := 53) b0 6 C dX9_beat_53 rfl rfl ?_
        refine r_iload_n (pc := 54) C dX9_beat_54 2 rfl ?_
        refine r_iaddN (pc := 55) (b0 + 6) x2_1 C dX9_beat_55 rfl rfl ?_
        refine r_iald (pc := 56) ((b0 + 6) + x2_1) C dX9_beat_56 5 rfl rfl (by omega) (by decide) ?_
        refine r_ifgt (pc := 57) 66 C dX9_beat_57 (by decide) (fun c_8 => ?_) (fun c_8 => ?_)
        · refine r_iinc (pc := 66) (nI (x2_1 + 1)) [(2, .int (nI (x2_1 + 1))), (0, .ref zm), (1, .int (nI b0))] C dX9_beat_66 2 rfl (inc1 _) (by decide) rfl ?_
          refine r_goto (pc := 69) 2 C dX9_beat_69 (by decide) ?_
          refine u_lv [(0, .ref zm), (1, .int (nI b0)), (2, .int (nI (x2_1 + 1)))] [1, 2, 0] rfl ?_
          exact ih (x2_1 + 1) so_7 (by omega) (by rw [← hV1]; first | (simp only [lX9_beat_2, ← e_r_4, ← e_so_7, if_neg c_6, if_pos c_8]; done) | (subst e_r_4 e_so_7; simp only [lX9_beat_2, if_neg c_6, if_pos c_8]; done) | (subst e_r_4 e_so_7; rfl) | (subst e_r_4 e_so_7; simp [lX9_beat_2, if_neg c_6, if_pos c_8]; done))
        · refine r_aload_n (pc := 60) C dX9_beat_60 0 rfl ?_
          refine r_iload_n (pc := 61) C dX9_beat_61 1 rfl ?_
          refine r_iload_n (pc := 62) C dX9_beat_62 2 rfl ?_
          obtain ⟨so_9, e_so_9⟩ : ∃ z : Nat → Int32, z = fX9_falls so_7 b0 x2_1 := ⟨_, rfl⟩
          have K_10 := ctX9_falls l g zm za1 za2 za3 za4 za5 za6 za7 za8 za9 zaa mp mt ml md np nt nl nP nS nD so_7 ac mk mn mx nx mq mv wr ts sn sF sB sS mm b0 x2_1 (by omega) (by omega)
          rw [← e_so_9] at K_10
          refine w_cV (pc := 63) [wMod g zm za1 za2 za3 za4 za5 za6 za7 za8 za9 zaa mp mt ml md np nt nl nP nS nD so_9 ac mk mn mx nx mq mv wr ts sn sF sB sS mm] C mv_X9_125 K_10 dX9_beat_63 (by decide) [0] rfl (by decide) (by simp only [List.map_cons, List.map_nil, adMod]) rfl 0 rfl rfl (Nat.le_of_ble_eq_true rfl) ⟨Nat.zero_le _, Nat.zero_le _⟩ ?_
          refine r_iinc (pc := 66) (nI (x2_1 + 1)) [(2, .int (nI (x2_1 + 1))), (0, .ref zm), (1, .int (nI b0))] C dX9_beat_66 2 rfl (inc1 _) (by decide) rfl ?_
          refine r_goto (pc := 69) 2 C dX9_beat_69 (by decide) ?_
          refine u_lv [(0, .ref zm), (1, .int (nI b0)), (2, .int (nI (x2_1 + 1)))] [1, 2, 0] rfl ?_
          exact ih (x2_1 + 1) so_9 (by omega) (by rw [← hV1]; first | (simp only [lX9_beat_2, ← e_r_4, ← e_so_7, ← e_so_9, if_neg c_6, if_neg c_8]; done) | (subst e_r_4 e_so_7 e_so_9; simp only [lX9_beat_2, if_neg c_6, if_neg c_8]; done) | (subst e_r_4 e_so_7 e_so_9; rfl) | (subst e_r_4 e_so_7 e_so_9; simp [lX9_beat_2, if_neg c_6, if_neg c_8]; done))
  refine u_lv [(0, .ref zm), (1, .int (nI b0)), (2, .int 0)] [1, 2, 0] rfl ?_
  exact hL1 mt 0 so (by omega) rfl
theorem ctX9_beat (l : Launch) (g : Gl) (zm : Nat) (za1 : Nat) (za2 : Nat) (za3 : Nat) (za4 : Nat) (za5 : Nat) (za6 : Nat) (za7 : Nat) (za8 : Nat) (za9 : Nat) (zaa : Nat) (mp : Int32) (mt : Nat) (ml : Int32) (md : Nat → Int32) (np : Int32) (nt : Nat) (nl : Int32) (nP : Nat → Int32) (nS : Nat → Int32) (nD : Nat → Int32) (so : Nat → Int32) (ac : Nat) (mk : Nat → Int32) (mn : Nat) (mx : Nat → Int32) (nx : Nat) (mq : Nat) (mv : Int32) (wr : Int32) (ts : Int32) (sn : Nat) (sF : Nat → Int32) (sB : Nat → Int32) (sS : Nat → Int32) (mm : Int64) (b0 : Nat) (q0 : b0 + 15 ≤ 210) (q1 : mt ≤ 6) (q2 : ¬ mp = 0) : CtV l g yX9_beat cX9_beat 3 3 [.ref zm, .int (nI b0)] (fl [wMod g zm za1 za2 za3 za4 za5 za6 za7 za8 za9 zaa mp mt ml md np nt nl nP nS nD so ac mk mn mx nx mq mv wr ts sn sF sB sS mm]) (fl [wMod g zm za1 za2 za3 za4 za5 za6 za7 za8 za9 zaa mp mt ml md np nt nl nP nS nD (fX9_beat mp mt ml md so b0) ac mk mn mx nx mq mv wr ts sn sF sB sS mm]) := mkV [(0, .ref zm), (1, .int (nI b0))] (by decide) (Nat.le_of_ble_eq_true rfl) rfl (fun X C hR => bX9_beat C zm za1 za2 za3 za4 za5 za6 za7 za8 za9 zaa mp mt ml md np nt nl nP nS nD so ac mk mn mx nx mq mv wr ts sn sF sB sS mm b0 q0 q1 q2 hR)

def lX9_copies_2 (b1 : Nat) (b0 : Nat) : Nat → (Nat) → (Nat → Int32) → (Nat → Int32)
  | 0, x3_1, so0_1 => (so0_1)
  | n + 1, x3_1, so0_1 => (let so_4 : Nat → Int32 := upd so0_1 (b1 + x3_1) (so0_1 (b0 + x3_1)); lX9_copies_2 b1 b0 n (x3_1 + 1) so_4)
def fX9_copies (so : Nat → Int32) (b0 : Nat) (b1 : Nat) : (Nat → Int32) := (let so0_5 : Nat → Int32 := lX9_copies_2 b1 b0 15 0 so; so0_5)
set_option maxHeartbeats 4000000 in
set_option maxRecDepth 100000 in
theorem bX9_copies {l : Launch} {g : Gl} {X : Cx} (C : Ok l g X RX9 cX9_copies 4 0) (zm : Nat) (za1 : Nat) (za2 : Nat) (za3 : Nat) (za4 : Nat) (za5 : Nat) (za6 : Nat) (za7 : Nat) (za8 : Nat) (za9 : Nat) (zaa : Nat) (mp : Int32) (mt : Nat) (ml : Int32) (md : Nat → Int32) (np : Int32) (nt : Nat) (nl : Int32) (nP : Nat → Int32) (nS : Nat → Int32) (nD : Nat → Int32) (so : Nat → Int32) (ac : Nat) (mk : Nat → Int32) (mn : Nat) (mx : Nat → Int32) (nx : Nat) (mq : Nat) (mv : Int32) (wr : Int32) (ts : Int32) (sn : Nat) (sF : Nat → Int32) (sB : Nat → Int32) (sS : Nat → Int32) (mm : Int64) (b0 : Nat) (b1 : Nat) (q0 : b0 + 15 ≤ 210) (q1 : b1 + 15 ≤ 210) (hR : RetV g X cX9_copies 4 0 0 (fl [wMod g zm za1 za2 za3 za4 za5 za6 za7 za8 za9 zaa mp mt ml md np nt nl nP nS nD (fX9_copies so b0 b1) ac mk mn mx nx mq mv wr ts sn sF sB sS mm])) : Vw g X 4 0 0 (fl [wMod g zm za1 za2 za3 za4 za5 za6 za7 za8 za9 zaa mp mt ml md np nt nl nP nS nD so ac mk mn mx nx mq mv wr ts sn sF sB sS mm]) 0 [(0, .ref zm), (1, .int (nI b0)), (2, .int (nI b1))] [] := by
  refine r_iconst (pc := 0) 0 C dX9_copies_0 rfl ?_
  refine r_istore_n (pc := 1) [(3, .int 0), (0, .ref zm), (1, .int (nI b0)), (2, .int (nI b1))] C dX9_copies_1 (by decide) rfl ?_
  have hX1 : ∀ (so0_5 : Nat → Int32) , (so0_5 = lX9_copies_2 b1 b0 15 0 so) → Vw g X 4 0 0 (fl [wMod g zm za1 za2 za3 za4 za5 za6 za7 za8 za9 zaa mp mt ml md np nt nl nP nS nD so0_5 ac mk mn mx nx mq mv wr ts sn sF sB sS mm]) 30 [] [] := by
    intro so0_5 e_so0_5 
    have hf : fX9_copies so b0 b1 = so0_5 := by first | (simp only [fX9_copies, ← e_so0_5]; done) | (subst e_so0_5; rfl) | (subst e_so0_5; simp only [fX9_copies]; done)
    rw [hf] at hR
    exact hR _ _ dX9_copies_30
  have hL1 : ∀ (n : Nat) (x3_1 : Nat) (so0_1 : Nat → Int32) , (x3_1 + n = 15) → lX9_copies_2 b1 b0 n x3_1 so0_1 = lX9_copies_2 b1 b0 15 0 so → Vw g X 4 0 0 (fl [wMod g zm za1 za2 za3 za4 za5 za6 za7 za8 za9 zaa mp mt ml md np nt nl nP nS nD so0_1 ac mk mn mx nx mq mv wr ts sn sF sB sS mm]) 2 [(0, .ref zm), (1, .int (nI b0)), (2, .int (nI b1)), (3, .int (nI x3_1))] [] := by
    intro n
    induction n with
    | zero =>
      intro x3_1 so0_1 hr1 hV1
      refine r_iload_n (pc := 2) C dX9_copies_2 3 rfl ?_
      refine r_bipush (pc := 3) 15 C dX9_copies_3 rfl ?_
      refine r_icmpgeN (pc := 5) x3_1 15 30 C dX9_copies_5 (by decide) rfl rfl (by omega) (by omega) (fun _ => ?_) (fun c_2 => absurd (by omega) c_2)
      refine u_lv [] [] rfl ?_
      exact hX1 _ (by rw [← hV1]; first | rfl | (simp only [lX9_copies_2]; done) | (simp [lX9_copies_2]; done))
    | succ n ih =>
      intro x3_1 so0_1 hr1 hV1
      refine r_iload_n (pc := 2) C dX9_copies_2 3 rfl ?_
      refine r_bipush (pc := 3) 15 C dX9_copies_3 rfl ?_
      refine r_icmpgeN (pc := 5) x3_1 15 30 C dX9_copies_5 (by decide) rfl rfl (by omega) (by omega) (fun c_3 => absurd c_3 (by omega)) (fun _ => ?_)
      refine r_aload_n (pc := 8) C dX9_copies_8 0 rfl ?_
      refine r_get (pc := 9) C fl_X9_29 dX9_copies_9 0 rfl rfl ?_
      refine r_iload_n (pc := 12) C dX9_copies_12 2 rfl ?_
      refine r_iload_n (pc := 13) C dX9_copies_13 3 rfl ?_
      refine r_iaddN (pc := 14) b1 x3_1 C dX9_copies_14 rfl rfl ?_
      refine r_aload_n (pc := 15) C dX9_copies_15 0 rfl ?_
      refine r_get (pc := 16) C fl_X9_29 dX9_copies_16 0 rfl rfl ?_
      refine r_iload_n (pc := 19) C dX9_copies_19 1 rfl ?_
      refine r_iload_n (pc := 20) C dX9_copies_20 3 rfl ?_
      refine r_iaddN (pc := 21) b0 x3_1 C dX9_copies_21 rfl rfl ?_
      refine r_iald (pc := 22) (b0 + x3_1) C dX9_copies_22 5 rfl rfl (by omega) (by decide) ?_
      obtain ⟨so_4, e_so_4⟩ : ∃ z : Nat → Int32, z = upd so0_1 (b1 + x3_1) (so0_1 (b0 + x3_1)) := ⟨_, rfl⟩
      refine r_iast (pc := 23) (b1 + x3_1) (fl [wMod g zm za1 za2 za3 za4 za5 za6 za7 za8 za9 zaa mp mt ml md np nt nl nP nS nD so_4 ac mk mn mx nx mq mv wr ts sn sF sB sS mm]) C dX9_copies_23 5 rfl rfl (by omega) (by decide) (by rw [← e_so_4]; rfl) ?_
      refine r_iinc (pc := 24) (nI (x3_1 + 1)) [(3, .int (nI (x3_1 + 1))), (0, .ref zm), (1, .int (nI b0)), (2, .int (nI b1))] C dX9_copies_24 3 rfl (inc1 _) (by decide) rfl ?_
      refine r_goto (pc := 27) 2 C dX9_copies_27 (by decide) ?_
      refine u_lv [(0, .ref zm), (1, .int (nI b0)), (2, .int (nI b1)), (3, .int (nI (x3_1 + 1)))] [1, 2, 3, 0] rfl ?_
      exact ih (x3_1 + 1) so_4 (by omega) (by rw [← hV1]; first | (simp only [lX9_copies_2, ← e_so_4]; done) | (subst e_so_4; rfl) | (subst e_so_4; simp only [lX9_copies_2]; done))
  refine u_lv [(0, .ref zm), (1, .int (nI b0)), (2, .int (nI b1)), (3, .int 0)] [1, 2, 3, 0] rfl ?_
  exact hL1 15 0 so (by omega) rfl
theorem ctX9_copies (l : Launch) (g : Gl) (zm : Nat) (za1 : Nat) (za2 : Nat) (za3 : Nat) (za4 : Nat) (za5 : Nat) (za6 : Nat) (za7 : Nat) (za8 : Nat) (za9 : Nat) (zaa : Nat) (mp : Int32) (mt : Nat) (ml : Int32) (md : Nat → Int32) (np : Int32) (nt : Nat) (nl : Int32) (nP : Nat → Int32) (nS : Nat → Int32) (nD : Nat → Int32) (so : Nat → Int32) (ac : Nat) (mk : Nat → Int32) (mn : Nat) (mx : Nat → Int32) (nx : Nat) (mq : Nat) (mv : Int32) (wr : Int32) (ts : Int32) (sn : Nat) (sF : Nat → Int32) (sB : Nat → Int32) (sS : Nat → Int32) (mm : Int64) (b0 : Nat) (b1 : Nat) (q0 : b0 + 15 ≤ 210) (q1 : b1 + 15 ≤ 210) : CtV l g yX9_copies cX9_copies 4 0 [.ref zm, .int (nI b0), .int (nI b1)] (fl [wMod g zm za1 za2 za3 za4 za5 za6 za7 za8 za9 zaa mp mt ml md np nt nl nP nS nD so ac mk mn mx nx mq mv wr ts sn sF sB sS mm]) (fl [wMod g zm za1 za2 za3 za4 za5 za6 za7 za8 za9 zaa mp mt ml md np nt nl nP nS nD (fX9_copies so b0 b1) ac mk mn mx nx mq mv wr ts sn sF sB sS mm]) := mkV [(0, .ref zm), (1, .int (nI b0)), (2, .int (nI b1))] (by decide) (Nat.le_of_ble_eq_true rfl) rfl (fun X C hR => bX9_copies C zm za1 za2 za3 za4 za5 za6 za7 za8 za9 zaa mp mt ml md np nt nl nP nS nD so ac mk mn mx nx mq mv wr ts sn sF sB sS mm b0 b1 q0 q1 hR)

def lX9_known_12  : Nat → (Nat) → (Nat → Int32) → (Nat → Int32)
  | 0, x1_2, so0_2 => (so0_2)
  | n + 1, x1_2, so0_2 => (let so_5 : Nat → Int32 := upd so0_2 x1_2 (so0_2 (x1_2 + 15)); lX9_known_12 n (x1_2 + 1) so_5)
def fX9_known (so : Nat → Int32) (ac : Nat) : (Nat → Int32) × (Nat) := (let J_9 := (if ac = 10 then (let so0_6 : Nat → Int32 := lX9_known_12 (150 - 15) 15 so; (so0_6, 9)) else ((so, ac)) : (Nat → Int32) × (Nat)); let so_7 : Nat → Int32 := J_9.1; let ac_8 : Nat := J_9.2; let so_10 : Nat → Int32 := fX9_copies so_7 0 ((ac_8 + 1) * 15); (so_10, (ac_8 + 1)))
set_option maxHeartbeats 4000000 in
set_option maxRecDepth 100000 in
theorem bX9_known {l : Launch} {g : Gl} {X : Cx} (C : Ok l g X RX9 cX9_known 2 1) (zm : Nat) (za1 : Nat) (za2 : Nat) (za3 : Nat) (za4 : Nat) (za5 : Nat) (za6 : Nat) (za7 : Nat) (za8 : Nat) (za9 : Nat) (zaa : Nat) (mp : Int32) (mt : Nat) (ml : Int32) (md : Nat → Int32) (np : Int32) (nt : Nat) (nl : Int32) (nP : Nat → Int32) (nS : Nat → Int32) (nD : Nat → Int32) (so : Nat → Int32) (ac : Nat) (mk : Nat → Int32) (mn : Nat) (mx : Nat → Int32) (nx : Nat) (mq : Nat) (mv : Int32) (wr : Int32) (ts : Int32) (sn : Nat) (sF : Nat → Int32) (sB : Nat → Int32) (sS : Nat → Int32) (mm : Int64) (q0 : ac ≤ 10) (hR : RetV g X cX9_known 2 0 0 (fl [wMod g zm za1 za2 za3 za4 za5 za6 za7 za8 za9 zaa mp mt ml md np nt nl nP nS nD ((fX9_known so ac).1) ((fX9_known so ac).2) mk mn mx nx mq mv wr ts sn sF sB sS mm])) : Vw g X 2 0 0 (fl [wMod g zm za1 za2 za3 za4 za5 za6 za7 za8 za9 zaa mp mt ml md np nt nl nP nS nD so ac mk mn mx nx mq mv wr ts sn sF sB sS mm]) 0 [(0, .ref zm)] [] := by
  refine r_aload_n (pc := 0) C dX9_known_0 0 rfl ?_
  refine r_get (pc := 1) C fl_X9_111 dX9_known_1 0 rfl rfl ?_
  refine r_bipush (pc := 4) 10 C dX9_known_4 rfl ?_
  have hJ_9 : ∀ (so_7 : Nat → Int32) (ac_8 : Nat) , (so_7 = (if ac = 10 then (let so0_6 : Nat → Int32 := lX9_known_12 (150 - 15) 15 so; (so0_6, 9)) else ((so, ac)) : (Nat → Int32) × (Nat)).1) → (ac_8 = (if ac = 10 then (let so0_6 : Nat → Int32 := lX9_known_12 (150 - 15) 15 so; (so0_6, 9)) else ((so, ac)) : (Nat → Int32) × (Nat)).2) → Vw g X 2 0 0 (fl [wMod g zm za1 za2 za3 za4 za5 za6 za7 za8 za9 zaa mp mt ml md np nt nl nP nS nD so_7 ac_8 mk mn mx nx mq mv wr ts sn sF sB sS mm]) 46 [(0, .ref zm)] [] := by
    intro so_7 ac_8 e_so_7 e_ac_8
    have m_ac_8 : ac_8 = ac ∨ ac_8 = 9 := by rw [e_ac_8]; (repeat' split) <;> simp
    refine r_aload_n (pc := 46) C dX9_known_46 0 rfl ?_
    refine r_dup (pc := 47) C dX9_known_47 rfl ?_
    refine r_get (pc := 48) C fl_X9_111 dX9_known_48 0 rfl rfl ?_
    refine r_iconst (pc := 51) 1 C dX9_known_51 rfl ?_
    refine r_iaddN (pc := 52) ac_8 1 C dX9_known_52 rfl rfl ?_
    refine r_put (pc := 53) (fl [wMod g zm za1 za2 za3 za4 za5 za6 za7 za8 za9 zaa mp mt ml md np nt nl nP nS nD so_7 (ac_8 + 1) mk mn mx nx mq mv wr ts sn sF sB sS mm]) C fp_X9_111 dX9_known_53 0 rfl (Nat.le_of_ble_eq_true rfl) rfl rfl rfl ?_
    refine r_aload_n (pc := 56) C dX9_known_56 0 rfl ?_
    refine r_iconst (pc := 57) 0 C dX9_known_57 rfl ?_
    refine r_aload_n (pc := 58) C dX9_known_58 0 rfl ?_
    refine r_get (pc := 59) C fl_X9_111 dX9_known_59 0 rfl rfl ?_
    refine r_bipush (pc := 62) 15 C dX9_known_62 rfl ?_
    refine r_imulN (pc := 64) (ac_8 + 1) 15 C dX9_known_64 rfl rfl ?_
    obtain ⟨so_10, e_so_10⟩ : ∃ z : Nat → Int32, z = fX9_copies so_7 0 ((ac_8 + 1) * 15) := ⟨_, rfl⟩
    have K_11 := ctX9_copies l g zm za1 za2 za3 za4 za5 za6 za7 za8 za9 zaa mp mt ml md np nt nl nP nS nD so_7 (ac_8 + 1) mk mn mx nx mq mv wr ts sn sF sB sS mm 0 ((ac_8 + 1) * 15) (by omega) (by omega)
    rw [← e_so_10] at K_11
    refine w_cV (pc := 65) [wMod g zm za1 za2 za3 za4 za5 za6 za7 za8 za9 zaa mp mt ml md np nt nl nP nS nD so_10 (ac_8 + 1) mk mn mx nx mq mv wr ts sn sF sB sS mm] C mv_X9_131 K_11 dX9_known_65 (by decide) [0] rfl (by decide) (by simp only [List.map_cons, List.map_nil, adMod]) rfl 0 rfl rfl (Nat.le_of_ble_eq_true rfl) ⟨Nat.zero_le _, Nat.zero_le _⟩ ?_
    have hf : fX9_known so ac = (so_10, (ac_8 + 1)) := by first | (simp only [fX9_known, ← e_so_7, ← e_ac_8, ← e_so_10]; done) | (subst e_so_7 e_ac_8 e_so_10; rfl) | (subst e_so_7 e_ac_8 e_so_10; simp only [fX9_known]; done)
    rw [hf] at hR
    exact hR _ _ dX9_known_68
  refine r_icmpneN (pc := 6) ac 10 46 C dX9_known_6 (by decide) rfl rfl (by omega) (by omega) (fun c_1 => ?_) (fun c_1 => ?_)
  · exact hJ_9 _ _ (by first | (simp only [if_neg c_1]; done) | rfl | (simp [if_neg c_1]; done)) (by first | (simp only [if_neg c_1]; done) | rfl | (simp [if_neg c_1]; done))
  · refine r_bipush (pc := 9) 15 C dX9_known_9 rfl ?_
    refine r_istore_n (pc := 11) [(1, .int 15), (0, .ref zm)] C dX9_known_11 (by decide) rfl ?_
    have hX2 : ∀ (so0_6 : Nat → Int32) , (so0_6 = lX9_known_12 (150 - 15) 15 so) → Vw g X 2 0 0 (fl [wMod g zm za1 za2 za3 za4 za5 za6 za7 za8 za9 zaa mp mt ml md np nt nl nP nS nD so0_6 ac mk mn mx nx mq mv wr ts sn sF sB sS mm]) 40 [(0, .ref zm)] [] := by
      intro so0_6 e_so0_6 
      refine r_aload_n (pc := 40) C dX9_known_40 0 rfl ?_
      refine r_bipush (pc := 41) 9 C dX9_known_41 rfl ?_
      refine r_put (pc := 43) (fl [wMod g zm za1 za2 za3 za4 za5 za6 za7 za8 za9 zaa mp mt ml md np nt nl nP nS nD so0_6 9 mk mn mx nx mq mv wr ts sn sF sB sS mm]) C fp_X9_111 dX9_known_43 0 rfl (Nat.le_of_ble_eq_true rfl) rfl rfl rfl ?_
      exact hJ_9 _ _ (by first | (simp only [← e_so0_6, if_pos c_1]; done) | (subst e_so0_6; simp only [if_pos c_1]; done) | (subst e_so0_6; rfl) | (subst e_so0_6; simp [if_pos c_1]; done)) (by first | (simp only [← e_so0_6, if_pos c_1]; done) | (subst e_so0_6; simp only [if_pos c_1]; done) | (subst e_so0_6; rfl) | (subst e_so0_6; simp [if_pos c_1]; done))
    have hL2 : ∀ (n : Nat) (x1_2 : Nat) (so0_2 : Nat → Int32) , (x1_2 + n = 150) → lX9_known_12 n x1_2 so0_2 = lX9_known_12 (150 - 15) 15 so → Vw g X 2 0 0 (fl [wMod g zm za1 za2 za3 za4 za5 za6 za7 za8 za9 zaa mp mt ml md np nt nl nP nS nD so0_2 ac mk mn mx nx mq mv wr ts sn sF sB sS mm]) 12 [(0, .ref zm), (1, .int (nI x1_2))] [] := by
      intro n
      induction n with
      | zero =>
        intro x1_2 so0_2 hr2 hV2
        refine r_iload_n (pc := 12) C dX9_known_12 1 rfl ?_
        refine r_sipush (pc := 13) 150 C dX9_known_13 rfl ?_
        refine r_icmpgeN (pc := 16) x1_2 150 40 C dX9_known_16 (by decide) rfl rfl (by omega) (by omega) (fun _ => ?_) (fun c_3 => absurd (by omega) c_3)
        refine u_lv [(0, .ref zm)] [0] rfl ?_
        exact hX2 _ (by rw [← hV2]; first | rfl | (simp only [lX9_known_12]; done) | (simp [lX9_known_12]; done))
      | succ n ih =>
        intro x1_2 so0_2 hr2 hV2
        refine r_iload_n (pc := 12) C dX9_known_12 1 rfl ?_
        refine r_sipush (pc := 13) 150 C dX9_known_13 rfl ?_
        refine r_icmpgeN (pc := 16) x1_2 150 40 C dX9_known_16 (by decide) rfl rfl (by omega) (by omega) (fun c_4 => absurd c_4 (by omega)) (fun _ => ?_)
        refine r_aload_n (pc := 19) C dX9_known_19 0 rfl ?_
        refine r_get (pc := 20) C fl_X9_29 dX9_known_20 0 rfl rfl ?_
        refine r_iload_n (pc := 23) C dX9_known_23 1 rfl ?_
        refine r_aload_n (pc := 24) C dX9_known_24 0 rfl ?_
        refine r_get (pc := 25) C fl_X9_29 dX9_known_25 0 rfl rfl ?_
        refine r_iload_n (pc := 28) C dX9_known_28 1 rfl ?_
        refine r_bipush (pc := 29) 15 C dX9_known_29 rfl ?_
        refine r_iaddN (pc := 31) x1_2 15 C dX9_known_31 rfl rfl ?_
        refine r_iald (pc := 32) (x1_2 + 15) C dX9_known_32 5 rfl rfl (by omega) (by decide) ?_
        obtain ⟨so_5, e_so_5⟩ : ∃ z : Nat → Int32, z = upd so0_2 x1_2 (so0_2 (x1_2 + 15)) := ⟨_, rfl⟩
        refine r_iast (pc := 33) x1_2 (fl [wMod g zm za1 za2 za3 za4 za5 za6 za7 za8 za9 zaa mp mt ml md np nt nl nP nS nD so_5 ac mk mn mx nx mq mv wr ts sn sF sB sS mm]) C dX9_known_33 5 rfl rfl (by omega) (by decide) (by rw [← e_so_5]; rfl) ?_
        refine r_iinc (pc := 34) (nI (x1_2 + 1)) [(1, .int (nI (x1_2 + 1))), (0, .ref zm)] C dX9_known_34 1 rfl (inc1 _) (by decide) rfl ?_
        refine r_goto (pc := 37) 12 C dX9_known_37 (by decide) ?_
        refine u_lv [(0, .ref zm), (1, .int (nI (x1_2 + 1)))] [1, 0] rfl ?_
        exact ih (x1_2 + 1) so_5 (by omega) (by rw [← hV2]; first | (simp only [lX9_known_12, ← e_so_5]; done) | (subst e_so_5; rfl) | (subst e_so_5; simp only [lX9_known_12]; done))
    refine u_lv [(0, .ref zm), (1, .int 15)] [1, 0] rfl ?_
    exact hL2 (150 - 15) 15 so (by omega) rfl
theorem ctX9_known (l : Launch) (g : Gl) (zm : Nat) (za1 : Nat) (za2 : Nat) (za3 : Nat) (za4 : Nat) (za5 : Nat) (za6 : Nat) (za7 : Nat) (za8 : Nat) (za9 : Nat) (zaa : Nat) (mp : Int32) (mt : Nat) (ml : Int32) (md : Nat → Int32) (np : Int32) (nt : Nat) (nl : Int32) (nP : Nat → Int32) (nS : Nat → Int32) (nD : Nat → Int32) (so : Nat → Int32) (ac : Nat) (mk : Nat → Int32) (mn : Nat) (mx : Nat → Int32) (nx : Nat) (mq : Nat) (mv : Int32) (wr : Int32) (ts : Int32) (sn : Nat) (sF : Nat → Int32) (sB : Nat → Int32) (sS : Nat → Int32) (mm : Int64) (q0 : ac ≤ 10) : CtV l g yX9_known cX9_known 2 1 [.ref zm] (fl [wMod g zm za1 za2 za3 za4 za5 za6 za7 za8 za9 zaa mp mt ml md np nt nl nP nS nD so ac mk mn mx nx mq mv wr ts sn sF sB sS mm]) (fl [wMod g zm za1 za2 za3 za4 za5 za6 za7 za8 za9 zaa mp mt ml md np nt nl nP nS nD ((fX9_known so ac).1) ((fX9_known so ac).2) mk mn mx nx mq mv wr ts sn sF sB sS mm]) := mkV [(0, .ref zm)] (by decide) (Nat.le_of_ble_eq_true rfl) rfl (fun X C hR => bX9_known C zm za1 za2 za3 za4 za5 za6 za7 za8 za9 zaa mp mt ml md np nt nl nP nS nD so ac mk mn mx nx mq mv wr ts sn sF sB sS mm q0 hR)

def fX9_isTop (mt : Nat) (t : Int32) : (Int32) := (let r_1 : Int32 := fX9_in (((t : Int32)).toInt64) 0 (((((nI mt) - 1) : Int32)).toInt64); r_1)
set_option maxHeartbeats 4000000 in
set_option maxRecDepth 100000 in
theorem bX9_isTop {l : Launch} {g : Gl} {X : Cx} (C : Ok l g X RX9 cX9_isTop 2 1) (zm : Nat) (za1 : Nat) (za2 : Nat) (za3 : Nat) (za4 : Nat) (za5 : Nat) (za6 : Nat) (za7 : Nat) (za8 : Nat) (za9 : Nat) (zaa : Nat) (mp : Int32) (mt : Nat) (ml : Int32) (md : Nat → Int32) (np : Int32) (nt : Nat) (nl : Int32) (nP : Nat → Int32) (nS : Nat → Int32) (nD : Nat → Int32) (so : Nat → Int32) (ac : Nat) (mk : Nat → Int32) (mn : Nat) (mx : Nat → Int32) (nx : Nat) (mq : Nat) (mv : Int32) (wr : Int32) (ts : Int32) (sn : Nat) (sF : Nat → Int32) (sB : Nat → Int32) (sS : Nat → Int32) (mm : Int64) (t : Int32) (hR : RetI g X cX9_isTop 2 0 0 (fX9_isTop mt t) (fl [wMod g zm za1 za2 za3 za4 za5 za6 za7 za8 za9 zaa mp mt ml md np nt nl nP nS nD so ac mk mn mx nx mq mv wr ts sn sF sB sS mm])) : Vw g X 2 0 0 (fl [wMod g zm za1 za2 za3 za4 za5 za6 za7 za8 za9 zaa mp mt ml md np nt nl nP nS nD so ac mk mn mx nx mq mv wr ts sn sF sB sS mm]) 0 [(0, .ref zm), (1, .int t)] [] := by
  refine r_iload_n (pc := 0) C dX9_isTop_0 1 rfl ?_
  refine r_i2l (pc := 1) C dX9_isTop_1 ?_
  refine r_lconst (pc := 2) 0 C dX9_isTop_2 rfl ?_
  refine r_aload_n (pc := 3) C dX9_isTop_3 0 rfl ?_
  refine r_get (pc := 4) C fl_X9_108 dX9_isTop_4 0 rfl rfl ?_
  refine r_iconst (pc := 7) 1 C dX9_isTop_7 rfl ?_
  refine r_isub (pc := 8) C dX9_isTop_8 ?_
  refine r_i2l (pc := 9) C dX9_isTop_9 ?_
  obtain ⟨r_1, e_r_1⟩ : ∃ z : Int32, z = fX9_in (((t : Int32)).toInt64) 0 (((((nI mt) - 1) : Int32)).toInt64) := ⟨_, rfl⟩
  have K_2 := ctX9_in l g   (((t : Int32)).toInt64) 0 (((((nI mt) - 1) : Int32)).toInt64) 
  rw [← e_r_1] at K_2
  refine x_pI (pc := 10) C ms_X9_50 K_2 dX9_isTop_10 (by decide) [] rfl (by decide) rfl (Nat.le_of_ble_eq_true rfl) ⟨Nat.zero_le _, Nat.zero_le _⟩ ?_
  have hf : fX9_isTop mt t = r_1 := by first | (simp only [fX9_isTop, ← e_r_1]; done) | (subst e_r_1; rfl) | (subst e_r_1; simp only [fX9_isTop]; done)
  rw [hf] at hR
  exact hR _ _ dX9_isTop_13
theorem zX9_isTop (mt : Nat) (t : Int32) : fX9_isTop mt t = 0 ∨ fX9_isTop mt t = 1 := by unfold fX9_isTop; exact zX9_in _ _ _
theorem ctX9_isTop (l : Launch) (g : Gl) (zm : Nat) (za1 : Nat) (za2 : Nat) (za3 : Nat) (za4 : Nat) (za5 : Nat) (za6 : Nat) (za7 : Nat) (za8 : Nat) (za9 : Nat) (zaa : Nat) (mp : Int32) (mt : Nat) (ml : Int32) (md : Nat → Int32) (np : Int32) (nt : Nat) (nl : Int32) (nP : Nat → Int32) (nS : Nat → Int32) (nD : Nat → Int32) (so : Nat → Int32) (ac : Nat) (mk : Nat → Int32) (mn : Nat) (mx : Nat → Int32) (nx : Nat) (mq : Nat) (mv : Int32) (wr : Int32) (ts : Int32) (sn : Nat) (sF : Nat → Int32) (sB : Nat → Int32) (sS : Nat → Int32) (mm : Int64) (t : Int32) : CtI l g yX9_isTop cX9_isTop 2 (some .boolean) 1 [.ref zm, .int t] (fl [wMod g zm za1 za2 za3 za4 za5 za6 za7 za8 za9 zaa mp mt ml md np nt nl nP nS nD so ac mk mn mx nx mq mv wr ts sn sF sB sS mm]) (fX9_isTop mt t) (fl [wMod g zm za1 za2 za3 za4 za5 za6 za7 za8 za9 zaa mp mt ml md np nt nl nP nS nD so ac mk mn mx nx mq mv wr ts sn sF sB sS mm]) := mkI .boolean rfl (nar_b (zX9_isTop mt t)) [(0, .ref zm), (1, .int t)] (by decide) (Nat.le_of_ble_eq_true rfl) rfl (fun X C hR => bX9_isTop C zm za1 za2 za3 za4 za5 za6 za7 za8 za9 zaa mp mt ml md np nt nl nP nS nD so ac mk mn mx nx mq mv wr ts sn sF sB sS mm t hR)
theorem m_isTop_nat {mt : Nat} {x : Int32} (h : ¬ fX9_isTop mt x = 0) (h6 : mt ≤ 6 := by omega) : ∃ j, j < mt ∧ x = nI j := by
  unfold fX9_isTop at h
  refine in_nat ?_ h
  rw [Int32.toInt_toInt64, show (1 : Int32) = nI 1 from rfl, pk_sub_toInt (by omega) (by omega)]
  omega

def fX9_stands (so : Nat → Int32) (t : Int32) : (Int32) := (let r_1 : Int32 := fX9_has (so 12) t; r_1)
set_option maxHeartbeats 4000000 in
set_option maxRecDepth 100000 in
theorem bX9_stands {l : Launch} {g : Gl} {X : Cx} (C : Ok l g X RX9 cX9_stands 2 1) (zm : Nat) (za1 : Nat) (za2 : Nat) (za3 : Nat) (za4 : Nat) (za5 : Nat) (za6 : Nat) (za7 : Nat) (za8 : Nat) (za9 : Nat) (zaa : Nat) (mp : Int32) (mt : Nat) (ml : Int32) (md : Nat → Int32) (np : Int32) (nt : Nat) (nl : Int32) (nP : Nat → Int32) (nS : Nat → Int32) (nD : Nat → Int32) (so : Nat → Int32) (ac : Nat) (mk : Nat → Int32) (mn : Nat) (mx : Nat → Int32) (nx : Nat) (mq : Nat) (mv : Int32) (wr : Int32) (ts : Int32) (sn : Nat) (sF : Nat → Int32) (sB : Nat → Int32) (sS : Nat → Int32) (mm : Int64) (t : Int32) (hR : RetI g X cX9_stands 2 0 0 (fX9_stands so t) (fl [wMod g zm za1 za2 za3 za4 za5 za6 za7 za8 za9 zaa mp mt ml md np nt nl nP nS nD so ac mk mn mx nx mq mv wr ts sn sF sB sS mm])) : Vw g X 2 0 0 (fl [wMod g zm za1 za2 za3 za4 za5 za6 za7 za8 za9 zaa mp mt ml md np nt nl nP nS nD so ac mk mn mx nx mq mv wr ts sn sF sB sS mm]) 0 [(0, .ref zm), (1, .int t)] [] := by
  refine r_aload_n (pc := 0) C dX9_stands_0 0 rfl ?_
  refine r_get (pc := 1) C fl_X9_29 dX9_stands_1 0 rfl rfl ?_
  refine r_bipush (pc := 4) 12 C dX9_stands_4 rfl ?_
  refine r_iald (pc := 6) 12 C dX9_stands_6 5 rfl rfl (by omega) (by decide) ?_
  refine r_iload_n (pc := 7) C dX9_stands_7 1 rfl ?_
  obtain ⟨r_1, e_r_1⟩ : ∃ z : Int32, z = fX9_has (so 12) t := ⟨_, rfl⟩
  have K_2 := ctX9_has l g   (so 12) t 
  rw [← e_r_1] at K_2
  refine x_pI (pc := 8) C ms_X9_117 K_2 dX9_stands_8 (by decide) [] rfl (by decide) rfl (Nat.le_of_ble_eq_true rfl) ⟨Nat.zero_le _, Nat.zero_le _⟩ ?_
  have hf : fX9_stands so t = r_1 := by first | (simp only [fX9_stands, ← e_r_1]; done) | (subst e_r_1; rfl) | (subst e_r_1; simp only [fX9_stands]; done)
  rw [hf] at hR
  exact hR _ _ dX9_stands_11
theorem zX9_stands (so : Nat → Int32) (t : Int32) : fX9_stands so t = 0 ∨ fX9_stands so t = 1 := by unfold fX9_stands; exact zX9_has _ _
theorem ctX9_stands (l : Launch) (g : Gl) (zm : Nat) (za1 : Nat) (za2 : Nat) (za3 : Nat) (za4 : Nat) (za5 : Nat) (za6 : Nat) (za7 : Nat) (za8 : Nat) (za9 : Nat) (zaa : Nat) (mp : Int32) (mt : Nat) (ml : Int32) (md : Nat → Int32) (np : Int32) (nt : Nat) (nl : Int32) (nP : Nat → Int32) (nS : Nat → Int32) (nD : Nat → Int32) (so : Nat → Int32) (ac : Nat) (mk : Nat → Int32) (mn : Nat) (mx : Nat → Int32) (nx : Nat) (mq : Nat) (mv : Int32) (wr : Int32) (ts : Int32) (sn : Nat) (sF : Nat → Int32) (sB : Nat → Int32) (sS : Nat → Int32) (mm : Int64) (t : Int32) : CtI l g yX9_stands cX9_stands 2 (some .boolean) 1 [.ref zm, .int t] (fl [wMod g zm za1 za2 za3 za4 za5 za6 za7 za8 za9 zaa mp mt ml md np nt nl nP nS nD so ac mk mn mx nx mq mv wr ts sn sF sB sS mm]) (fX9_stands so t) (fl [wMod g zm za1 za2 za3 za4 za5 za6 za7 za8 za9 zaa mp mt ml md np nt nl nP nS nD so ac mk mn mx nx mq mv wr ts sn sF sB sS mm]) := mkI .boolean rfl (nar_b (zX9_stands so t)) [(0, .ref zm), (1, .int t)] (by decide) (Nat.le_of_ble_eq_true rfl) rfl (fun X C hR => bX9_stands C zm za1 za2 za3 za4 za5 za6 za7 za8 za9 zaa mp mt ml md np nt nl nP nS nD so ac mk mn mx nx mq mv wr ts sn sF sB sS mm t hR)

def lX9_fallOf_10 (t : Int32) (mp : Int32) (mt : Nat) (ml : Int32) (md : Nat → Int32) : Nat → (Nat) → (Nat → Int32) → (Nat) × (Nat → Int32)
  | 0, x2_3, so0_3 => ((x2_3, so0_3))
  | n + 1, x2_3, so0_3 => (let r_6 : Int32 := fX9_has (so0_3 207) t; if r_6 = 0 then ((x2_3, so0_3)) else (let so_9 : Nat → Int32 := fX9_beat mp mt ml md so0_3 195; lX9_fallOf_10 t mp mt ml md n (x2_3 + 1) so_9))
def fX9_fallOf (mp : Int32) (mt : Nat) (ml : Int32) (md : Nat → Int32) (so : Nat → Int32) (t : Int32) : (Int32) × (Nat → Int32) := (let so_1 : Nat → Int32 := fX9_copies so 0 195; let o3 := lX9_fallOf_10 t mp mt ml md 60 0 so_1; let x2_11 : Nat := o3.1; let so0_12 : Nat → Int32 := o3.2; let r_13 : Int32 := fX9_has (so0_12 207) t; if r_13 = 0 then (((nI x2_11), so0_12)) else (((-9), so0_12)))
set_option maxHeartbeats 4000000 in
set_option maxRecDepth 100000 in
theorem bX9_fallOf {l : Launch} {g : Gl} {X : Cx} (C : Ok l g X RX9 cX9_fallOf 3 4) (zm : Nat) (za1 : Nat) (za2 : Nat) (za3 : Nat) (za4 : Nat) (za5 : Nat) (za6 : Nat) (za7 : Nat) (za8 : Nat) (za9 : Nat) (zaa : Nat) (mp : Int32) (mt : Nat) (ml : Int32) (md : Nat → Int32) (np : Int32) (nt : Nat) (nl : Int32) (nP : Nat → Int32) (nS : Nat → Int32) (nD : Nat → Int32) (so : Nat → Int32) (ac : Nat) (mk : Nat → Int32) (mn : Nat) (mx : Nat → Int32) (nx : Nat) (mq : Nat) (mv : Int32) (wr : Int32) (ts : Int32) (sn : Nat) (sF : Nat → Int32) (sB : Nat → Int32) (sS : Nat → Int32) (mm : Int64) (t : Int32) (q0 : mt ≤ 6) (q1 : ¬ mp = 0) (hR : RetI g X cX9_fallOf 3 0 0 ((fX9_fallOf mp mt ml md so t).1) (fl [wMod g zm za1 za2 za3 za4 za5 za6 za7 za8 za9 zaa mp mt ml md np nt nl nP nS nD ((fX9_fallOf mp mt ml md so t).2) ac mk mn mx nx mq mv wr ts sn sF sB sS mm])) : Vw g X 3 0 0 (fl [wMod g zm za1 za2 za3 za4 za5 za6 za7 za8 za9 zaa mp mt ml md np nt nl nP nS nD so ac mk mn mx nx mq mv wr ts sn sF sB sS mm]) 0 [(0, .ref zm), (1, .int t)] [] := by
  refine r_aload_n (pc := 0) C dX9_fallOf_0 0 rfl ?_
  refine r_iconst (pc := 1) 0 C dX9_fallOf_1 rfl ?_
  refine r_sipush (pc := 2) 195 C dX9_fallOf_2 rfl ?_
  obtain ⟨so_1, e_so_1⟩ : ∃ z : Nat → Int32, z = fX9_copies so 0 195 := ⟨_, rfl⟩
  have K_2 := ctX9_copies l g zm za1 za2 za3 za4 za5 za6 za7 za8 za9 zaa mp mt ml md np nt nl nP nS nD so ac mk mn mx nx mq mv wr ts sn sF sB sS mm 0 195 (by omega) (by omega)
  rw [← e_so_1] at K_2
  refine w_cV (pc := 5) [wMod g zm za1 za2 za3 za4 za5 za6 za7 za8 za9 zaa mp mt ml md np nt nl nP nS nD so_1 ac mk mn mx nx mq mv wr ts sn sF sB sS mm] C mv_X9_131 K_2 dX9_fallOf_5 (by decide) [0] rfl (by decide) (by simp only [List.map_cons, List.map_nil, adMod]) rfl 0 rfl rfl (Nat.le_of_ble_eq_true rfl) ⟨Nat.zero_le _, Nat.zero_le _⟩ ?_
  refine r_iconst (pc := 8) 0 C dX9_fallOf_8 rfl ?_
  refine r_istore_n (pc := 9) [(2, .int 0), (0, .ref zm), (1, .int t)] C dX9_fallOf_9 (by decide) rfl ?_
  have hX3 : ∀ (x2_11 : Nat) (so0_12 : Nat → Int32) , (x2_11 = (lX9_fallOf_10 t mp mt ml md 60 0 so_1).1) → (so0_12 = (lX9_fallOf_10 t mp mt ml md 60 0 so_1).2) → Vw g X 3 0 0 (fl [wMod g zm za1 za2 za3 za4 za5 za6 za7 za8 za9 zaa mp mt ml md np nt nl nP nS nD so0_12 ac mk mn mx nx mq mv wr ts sn sF sB sS mm]) 44 [(0, .ref zm), (1, .int t), (2, .int (nI x2_11))] [] := by
    intro x2_11 so0_12 e_x2_11 e_so0_12 
    refine r_aload_n (pc := 44) C dX9_fallOf_44 0 rfl ?_
    refine r_get (pc := 45) C fl_X9_29 dX9_fallOf_45 0 rfl rfl ?_
    refine r_sipush (pc := 48) 207 C dX9_fallOf_48 rfl ?_
    refine r_iald (pc := 51) 207 C dX9_fallOf_51 5 rfl rfl (by omega) (by decide) ?_
    refine r_iload_n (pc := 52) C dX9_fallOf_52 1 rfl ?_
    obtain ⟨r_13, e_r_13⟩ : ∃ z : Int32, z = fX9_has (so0_12 207) t := ⟨_, rfl⟩
    have K_14 := ctX9_has l g   (so0_12 207) t 
    rw [← e_r_13] at K_14
    refine x_pI (pc := 53) C ms_X9_117 K_14 dX9_fallOf_53 (by decide) [] rfl (by decide) rfl (Nat.le_of_ble_eq_true rfl) ⟨Nat.zero_le _, Nat.zero_le _⟩ ?_
    refine r_ifeq (pc := 56) 64 C dX9_fallOf_56 (by decide) (fun c_15 => ?_) (fun c_15 => ?_)
    · refine r_iload_n (pc := 64) C dX9_fallOf_64 2 rfl ?_
      have hf : fX9_fallOf mp mt ml md so t = ((nI x2_11), so0_12) := by first | (simp only [fX9_fallOf, ← e_so_1, ← e_x2_11, ← e_so0_12, ← e_r_13, if_pos c_15]; done) | (subst e_so_1 e_x2_11 e_so0_12 e_r_13; simp only [fX9_fallOf, if_pos c_15]; done) | (subst e_so_1 e_x2_11 e_so0_12 e_r_13; rfl) | (subst e_so_1 e_x2_11 e_so0_12 e_r_13; simp [fX9_fallOf, if_pos c_15]; done)
      rw [hf] at hR
      exact hR _ _ dX9_fallOf_65
    · refine r_bipush (pc := 59) (-9) C dX9_fallOf_59 rfl ?_
      refine r_goto (pc := 61) 65 C dX9_fallOf_61 (by decide) ?_
      have hf : fX9_fallOf mp mt ml md so t = ((-9), so0_12) := by first | (simp only [fX9_fallOf, ← e_so_1, ← e_x2_11, ← e_so0_12, ← e_r_13, if_neg c_15]; done) | (subst e_so_1 e_x2_11 e_so0_12 e_r_13; simp only [fX9_fallOf, if_neg c_15]; done) | (subst e_so_1 e_x2_11 e_so0_12 e_r_13; rfl) | (subst e_so_1 e_x2_11 e_so0_12 e_r_13; simp [fX9_fallOf, if_neg c_15]; done)
      rw [hf] at hR
      exact hR _ _ dX9_fallOf_65
  have hL3 : ∀ (n : Nat) (x2_3 : Nat) (so0_3 : Nat → Int32) , (x2_3 + n = 60) → lX9_fallOf_10 t mp mt ml md n x2_3 so0_3 = lX9_fallOf_10 t mp mt ml md 60 0 so_1 → Vw g X 3 0 0 (fl [wMod g zm za1 za2 za3 za4 za5 za6 za7 za8 za9 zaa mp mt ml md np nt nl nP nS nD so0_3 ac mk mn mx nx mq mv wr ts sn sF sB sS mm]) 10 [(0, .ref zm), (1, .int t), (2, .int (nI x2_3))] [] := by
    intro n
    induction n with
    | zero =>
      intro x2_3 so0_3 hr3 hV3
      refine r_iload_n (pc := 10) C dX9_fallOf_10 2 rfl ?_
      refine r_bipush (pc := 11) 60 C dX9_fallOf_11 rfl ?_
      refine r_icmpgeN (pc := 13) x2_3 60 44 C dX9_fallOf_13 (by decide) rfl rfl (by omega) (by omega) (fun _ => ?_) (fun c_4 => absurd (by omega) c_4)
      exact hX3 _ _ (by rw [← hV3]; first | rfl | (simp only [lX9_fallOf_10]; done) | (simp [lX9_fallOf_10]; done)) (by rw [← hV3]; first | rfl | (simp only [lX9_fallOf_10]; done) | (simp [lX9_fallOf_10]; done))
    | succ n ih =>
      intro x2_3 so0_3 hr3 hV3
      refine r_iload_n (pc := 10) C dX9_fallOf_10 2 rfl ?_
      refine r_bipush (pc := 11) 60 C dX9_fallOf_11 rfl ?_
      refine r_icmpgeN (pc := 13) x2_3 60 44 C dX9_fallOf_13 (by decide) rfl rfl (by omega) (by omega) (fun c_5 => absurd c_5 (by omega)) (fun _ => ?_)
      refine r_aload_n (pc := 16) C dX9_fallOf_16 0 rfl ?_
      refine r_get (pc := 17) C fl_X9_29 dX9_fallOf_17 0 rfl rfl ?_
      refine r_sipush (pc := 20) 207 C dX9_fallOf_20 rfl ?_
      refine r_iald (pc := 23) 207 C dX9_fallOf_23 5 rfl rfl (by omega) (by decide) ?_
      refine r_iload_n (pc := 24) C dX9_fallOf_24 1 rfl ?_
      obtain ⟨r_6, e_r_6⟩ : ∃ z : Int32, z = fX9_has (so0_3 207) t := ⟨_, rfl⟩
      have K_7 := ctX9_has l g   (so0_3 207) t 
      rw [← e_r_6] at K_7
      refine x_pI (pc := 25) C ms_X9_117 K_7 dX9_fallOf_25 (by decide) [] rfl (by decide) rfl (Nat.le_of_ble_eq_true rfl) ⟨Nat.zero_le _, Nat.zero_le _⟩ ?_
      refine r_ifeq (pc := 28) 44 C dX9_fallOf_28 (by decide) (fun c_8 => ?_) (fun c_8 => ?_)
      · exact hX3 _ _ (by rw [← hV3]; first | (simp only [lX9_fallOf_10, ← e_r_6, if_pos c_8]; done) | (subst e_r_6; simp only [lX9_fallOf_10, if_pos c_8]; done) | (subst e_r_6; rfl) | (subst e_r_6; simp [lX9_fallOf_10, if_pos c_8]; done)) (by rw [← hV3]; first | (simp only [lX9_fallOf_10, ← e_r_6, if_pos c_8]; done) | (subst e_r_6; simp only [lX9_fallOf_10, if_pos c_8]; done) | (subst e_r_6; rfl) | (subst e_r_6; simp [lX9_fallOf_10, if_pos c_8]; done))
      · refine r_aload_n (pc := 31) C dX9_fallOf_31 0 rfl ?_
        refine r_sipush (pc := 32) 195 C dX9_fallOf_32 rfl ?_
        obtain ⟨so_9, e_so_9⟩ : ∃ z : Nat → Int32, z = fX9_beat mp mt ml md so0_3 195 := ⟨_, rfl⟩
        have K_10 := ctX9_beat l g zm za1 za2 za3 za4 za5 za6 za7 za8 za9 zaa mp mt ml md np nt nl nP nS nD so0_3 ac mk mn mx nx mq mv wr ts sn sF sB sS mm 195 (by omega) (by omega) (by assumption)
        rw [← e_so_9] at K_10
        refine w_cV (pc := 35) [wMod g zm za1 za2 za3 za4 za5 za6 za7 za8 za9 zaa mp mt ml md np nt nl nP nS nD so_9 ac mk mn mx nx mq mv wr ts sn sF sB sS mm] C mv_X9_134 K_10 dX9_fallOf_35 (by decide) [0] rfl (by decide) (by simp only [List.map_cons, List.map_nil, adMod]) rfl 0 rfl rfl (Nat.le_of_ble_eq_true rfl) ⟨Nat.zero_le _, Nat.zero_le _⟩ ?_
        refine r_iinc (pc := 38) (nI (x2_3 + 1)) [(2, .int (nI (x2_3 + 1))), (0, .ref zm), (1, .int t)] C dX9_fallOf_38 2 rfl (inc1 _) (by decide) rfl ?_
        refine r_goto (pc := 41) 10 C dX9_fallOf_41 (by decide) ?_
        refine u_lv [(0, .ref zm), (1, .int t), (2, .int (nI (x2_3 + 1)))] [1, 2, 0] rfl ?_
        exact ih (x2_3 + 1) so_9 (by omega) (by rw [← hV3]; first | (simp only [lX9_fallOf_10, ← e_r_6, ← e_so_9, if_neg c_8]; done) | (subst e_r_6 e_so_9; simp only [lX9_fallOf_10, if_neg c_8]; done) | (subst e_r_6 e_so_9; rfl) | (subst e_r_6 e_so_9; simp [lX9_fallOf_10, if_neg c_8]; done))
  refine u_lv [(0, .ref zm), (1, .int t), (2, .int 0)] [1, 2, 0] rfl ?_
  exact hL3 60 0 so_1 (by omega) rfl
theorem ctX9_fallOf (l : Launch) (g : Gl) (zm : Nat) (za1 : Nat) (za2 : Nat) (za3 : Nat) (za4 : Nat) (za5 : Nat) (za6 : Nat) (za7 : Nat) (za8 : Nat) (za9 : Nat) (zaa : Nat) (mp : Int32) (mt : Nat) (ml : Int32) (md : Nat → Int32) (np : Int32) (nt : Nat) (nl : Int32) (nP : Nat → Int32) (nS : Nat → Int32) (nD : Nat → Int32) (so : Nat → Int32) (ac : Nat) (mk : Nat → Int32) (mn : Nat) (mx : Nat → Int32) (nx : Nat) (mq : Nat) (mv : Int32) (wr : Int32) (ts : Int32) (sn : Nat) (sF : Nat → Int32) (sB : Nat → Int32) (sS : Nat → Int32) (mm : Int64) (t : Int32) (q0 : mt ≤ 6) (q1 : ¬ mp = 0) : CtI l g yX9_fallOf cX9_fallOf 3 (some .int) 4 [.ref zm, .int t] (fl [wMod g zm za1 za2 za3 za4 za5 za6 za7 za8 za9 zaa mp mt ml md np nt nl nP nS nD so ac mk mn mx nx mq mv wr ts sn sF sB sS mm]) ((fX9_fallOf mp mt ml md so t).1) (fl [wMod g zm za1 za2 za3 za4 za5 za6 za7 za8 za9 zaa mp mt ml md np nt nl nP nS nD ((fX9_fallOf mp mt ml md so t).2) ac mk mn mx nx mq mv wr ts sn sF sB sS mm]) := mkI .int rfl rfl [(0, .ref zm), (1, .int t)] (by decide) (Nat.le_of_ble_eq_true rfl) rfl (fun X C hR => bX9_fallOf C zm za1 za2 za3 za4 za5 za6 za7 za8 za9 zaa mp mt ml md np nt nl nP nS nD so ac mk mn mx nx mq mv wr ts sn sF sB sS mm t q0 q1 hR)

def lX9_last_7 (mp : Int32) (mt : Nat) (ml : Int32) (md : Nat → Int32) : Nat → (Int32) → (Int32) → (Nat) → (Nat → Int32) → (Int32) × (Nat → Int32)
  | 0, x1_1, x2_1, x3_1, so0_1 => ((x1_1, so0_1))
  | n + 1, x1_1, x2_1, x3_1, so0_1 => (let r_4 : Int32 := fX9_stands so0_1 (nI x3_1); let J_12 := (if r_4 = 0 then (((-1), so0_1)) else (let r_7 : Int32 := (fX9_fallOf mp mt ml md so0_1 (nI x3_1)).1; let so_8 : Nat → Int32 := (fX9_fallOf mp mt ml md so0_1 (nI x3_1)).2; (r_7, so_8)) : (Int32) × (Nat → Int32)); let w_10 : Int32 := J_12.1; let so_11 : Nat → Int32 := J_12.2; let w_14 : Int32 := (if w_10 ≤ x2_1 then (x1_1) else ((nI x3_1))); let r_16 : Int32 := fX9_larger x2_1 w_10; lX9_last_7 mp mt ml md n w_14 r_16 (x3_1 + 1) so_11)
def fX9_last (mp : Int32) (mt : Nat) (ml : Int32) (md : Nat → Int32) (so : Nat → Int32) : (Int32) × (Nat → Int32) := (let o1 := lX9_last_7 mp mt ml md mt (-9) (-1) 0 so; let x1_18 : Int32 := o1.1; let so0_19 : Nat → Int32 := o1.2; (x1_18, so0_19))
set_option maxHeartbeats 4000000 in
set_option maxRecDepth 100000 in
theorem bX9_last {l : Launch} {g : Gl} {X : Cx} (C : Ok l g X RX9 cX9_last 5 5) (zm : Nat) (za1 : Nat) (za2 : Nat) (za3 : Nat) (za4 : Nat) (za5 : Nat) (za6 : Nat) (za7 : Nat) (za8 : Nat) (za9 : Nat) (zaa : Nat) (mp : Int32) (mt : Nat) (ml : Int32) (md : Nat → Int32) (np : Int32) (nt : Nat) (nl : Int32) (nP : Nat → Int32) (nS : Nat → Int32) (nD : Nat → Int32) (so : Nat → Int32) (ac : Nat) (mk : Nat → Int32) (mn : Nat) (mx : Nat → Int32) (nx : Nat) (mq : Nat) (mv : Int32) (wr : Int32) (ts : Int32) (sn : Nat) (sF : Nat → Int32) (sB : Nat → Int32) (sS : Nat → Int32) (mm : Int64) (q0 : mt ≤ 6) (q1 : ¬ mp = 0) (hR : RetI g X cX9_last 5 0 0 ((fX9_last mp mt ml md so).1) (fl [wMod g zm za1 za2 za3 za4 za5 za6 za7 za8 za9 zaa mp mt ml md np nt nl nP nS nD ((fX9_last mp mt ml md so).2) ac mk mn mx nx mq mv wr ts sn sF sB sS mm])) : Vw g X 5 0 0 (fl [wMod g zm za1 za2 za3 za4 za5 za6 za7 za8 za9 zaa mp mt ml md np nt nl nP nS nD so ac mk mn mx nx mq mv wr ts sn sF sB sS mm]) 0 [(0, .ref zm)] [] := by
  refine r_bipush (pc := 0) (-9) C dX9_last_0 rfl ?_
  refine r_istore_n (pc := 2) [(1, .int (-9)), (0, .ref zm)] C dX9_last_2 (by decide) rfl ?_
  refine r_iconst (pc := 3) (-1) C dX9_last_3 rfl ?_
  refine r_istore_n (pc := 4) [(2, .int (-1)), (1, .int (-9)), (0, .ref zm)] C dX9_last_4 (by decide) rfl ?_
  refine r_iconst (pc := 5) 0 C dX9_last_5 rfl ?_
  refine r_istore_n (pc := 6) [(3, .int 0), (2, .int (-1)), (1, .int (-9)), (0, .ref zm)] C dX9_last_6 (by decide) rfl ?_
  have hX1 : ∀ (x1_18 : Int32) (so0_19 : Nat → Int32) , (x1_18 = (lX9_last_7 mp mt ml md mt (-9) (-1) 0 so).1) → (so0_19 = (lX9_last_7 mp mt ml md mt (-9) (-1) 0 so).2) → Vw g X 5 0 0 (fl [wMod g zm za1 za2 za3 za4 za5 za6 za7 za8 za9 zaa mp mt ml md np nt nl nP nS nD so0_19 ac mk mn mx nx mq mv wr ts sn sF sB sS mm]) 59 [(1, .int x1_18)] [] := by
    intro x1_18 so0_19 e_x1_18 e_so0_19 
    refine r_iload_n (pc := 59) C dX9_last_59 0 rfl ?_
    have hf : fX9_last mp mt ml md so = (x1_18, so0_19) := by first | (simp only [fX9_last, ← e_x1_18, ← e_so0_19]; done) | (subst e_x1_18 e_so0_19; rfl) | (subst e_x1_18 e_so0_19; simp only [fX9_last]; done)
    rw [hf] at hR
    exact hR _ _ dX9_last_60
  have hL1 : ∀ (n : Nat) (x1_1 : Int32) (x2_1 : Int32) (x3_1 : Nat) (so0_1 : Nat → Int32) , (x3_1 + n = mt) → lX9_last_7 mp mt ml md n x1_1 x2_1 x3_1 so0_1 = lX9_last_7 mp mt ml md mt (-9) (-1) 0 so → Vw g X 5 0 0 (fl [wMod g zm za1 za2 za3 za4 za5 za6 za7 za8 za9 zaa mp mt ml md np nt nl nP nS nD so0_1 ac mk mn mx nx mq mv wr ts sn sF sB sS mm]) 7 [(0, .ref zm), (1, .int x1_1), (2, .int x2_1), (3, .int (nI x3_1))] [] := by
    intro n
    induction n with
    | zero =>
      intro x1_1 x2_1 x3_1 so0_1 hr1 hV1
      refine r_iload_n (pc := 7) C dX9_last_7 3 rfl ?_
      refine r_aload_n (pc := 8) C dX9_last_8 0 rfl ?_
      refine r_get (pc := 9) C fl_X9_108 dX9_last_9 0 rfl rfl ?_
      refine r_icmpgeN (pc := 12) x3_1 mt 59 C dX9_last_12 (by decide) rfl rfl (by omega) (by omega) (fun _ => ?_) (fun c_2 => absurd (by omega) c_2)
      refine u_lv [(1, .int x1_1)] [1] rfl ?_
      exact hX1 _ _ (by rw [← hV1]; first | rfl | (simp only [lX9_last_7]; done) | (simp [lX9_last_7]; done)) (by rw [← hV1]; first | rfl | (simp only [lX9_last_7]; done) | (simp [lX9_last_7]; done))
    | succ n ih =>
      intro x1_1 x2_1 x3_1 so0_1 hr1 hV1
      refine r_iload_n (pc := 7) C dX9_last_7 3 rfl ?_
      refine r_aload_n (pc := 8) C dX9_last_8 0 rfl ?_
      refine r_get (pc := 9) C fl_X9_108 dX9_last_9 0 rfl rfl ?_
      refine r_icmpgeN (pc := 12) x3_1 mt 59 C dX9_last_12 (by decide) rfl rfl (by omega) (by omega) (fun c_3 => absurd c_3 (by omega)) (fun _ => ?_)
      refine r_aload_n (pc := 15) C dX9_last_15 0 rfl ?_
      refine r_iload_n (pc := 16) C dX9_last_16 3 rfl ?_
      obtain ⟨r_4, e_r_4⟩ : ∃ z : Int32, z = fX9_stands so0_1 (nI x3_1) := ⟨_, rfl⟩
      have K_5 := ctX9_stands l g zm za1 za2 za3 za4 za5 za6 za7 za8 za9 zaa mp mt ml md np nt nl nP nS nD so0_1 ac mk mn mx nx mq mv wr ts sn sF sB sS mm (nI x3_1) 
      rw [← e_r_4] at K_5
      refine w_pI (pc := 17) C mv_X9_138 K_5 dX9_last_17 (by decide) [0] rfl (by decide) 0 rfl rfl (Nat.le_of_ble_eq_true rfl) ⟨Nat.zero_le _, Nat.zero_le _⟩ ?_
      have hJ_12 : ∀ (w_10 : Int32) (so_11 : Nat → Int32) , (w_10 = (if r_4 = 0 then (((-1), so0_1)) else (let r_7 : Int32 := (fX9_fallOf mp mt ml md so0_1 (nI x3_1)).1; let so_8 : Nat → Int32 := (fX9_fallOf mp mt ml md so0_1 (nI x3_1)).2; (r_7, so_8)) : (Int32) × (Nat → Int32)).1) → (so_11 = (if r_4 = 0 then (((-1), so0_1)) else (let r_7 : Int32 := (fX9_fallOf mp mt ml md so0_1 (nI x3_1)).1; let so_8 : Nat → Int32 := (fX9_fallOf mp mt ml md so0_1 (nI x3_1)).2; (r_7, so_8)) : (Int32) × (Nat → Int32)).2) → Vw g X 5 0 0 (fl [wMod g zm za1 za2 za3 za4 za5 za6 za7 za8 za9 zaa mp mt ml md np nt nl nP nS nD so_11 ac mk mn mx nx mq mv wr ts sn sF sB sS mm]) 32 [(0, .ref zm), (1, .int x1_1), (2, .int x2_1), (3, .int (nI x3_1))] [.int w_10] := by
        intro w_10 so_11 e_w_10 e_so_11
        refine r_istore (pc := 32) [(4, .int w_10), (0, .ref zm), (1, .int x1_1), (2, .int x2_1), (3, .int (nI x3_1))] C dX9_last_32 (by decide) rfl ?_
        refine r_iload (pc := 34) C dX9_last_34 0 rfl ?_
        refine r_iload_n (pc := 36) C dX9_last_36 3 rfl ?_
        have hJ_15 : ∀ (w_14 : Int32) , (w_14 = (if w_10 ≤ x2_1 then (x1_1) else ((nI x3_1)))) → Vw g X 5 0 0 (fl [wMod g zm za1 za2 za3 za4 za5 za6 za7 za8 za9 zaa mp mt ml md np nt nl nP nS nD so_11 ac mk mn mx nx mq mv wr ts sn sF sB sS mm]) 45 [(0, .ref zm), (2, .int x2_1), (3, .int (nI x3_1)), (4, .int w_10)] [.int w_14] := by
          intro w_14 e_w_14
          refine r_istore_n (pc := 45) [(1, .int w_14), (0, .ref zm), (2, .int x2_1), (3, .int (nI x3_1)), (4, .int w_10)] C dX9_last_45 (by decide) rfl ?_
          refine r_iload_n (pc := 46) C dX9_last_46 2 rfl ?_
          refine r_iload (pc := 47) C dX9_last_47 4 rfl ?_
          obtain ⟨r_16, e_r_16⟩ : ∃ z : Int32, z = fX9_larger x2_1 w_10 := ⟨_, rfl⟩
          have K_17 := ctX9_larger l g   x2_1 w_10 
          rw [← e_r_16] at K_17
          refine x_pI (pc := 49) C ms_X9_145 K_17 dX9_last_49 (by decide) [] rfl (by decide) rfl (Nat.le_of_ble_eq_true rfl) ⟨Nat.zero_le _, Nat.zero_le _⟩ ?_
          refine r_istore_n (pc := 52) [(2, .int r_16), (1, .int w_14), (0, .ref zm), (3, .int (nI x3_1)), (4, .int w_10)] C dX9_last_52 (by decide) rfl ?_
          refine r_iinc (pc := 53) (nI (x3_1 + 1)) [(3, .int (nI (x3_1 + 1))), (2, .int r_16), (1, .int w_14), (0, .ref zm), (4, .int w_10)] C dX9_last_53 3 rfl (inc1 _) (by decide) rfl ?_
          refine r_goto (pc := 56) 7 C dX9_last_56 (by decide) ?_
          refine u_lv [(0, .ref zm), (1, .int w_14), (2, .int r_16), (3, .int (nI (x3_1 + 1)))] [3, 2, 1, 0] rfl ?_
          exact ih w_14 r_16 (x3_1 + 1) so_11 (by omega) (by rw [← hV1]; first | (simp only [lX9_last_7, ← e_r_4, ← e_w_10, ← e_so_11, ← e_w_14, ← e_r_16]; done) | (subst e_r_4 e_w_10 e_so_11 e_w_14 e_r_16; rfl) | (subst e_r_4 e_w_10 e_so_11 e_w_14 e_r_16; simp only [lX9_last_7]; done))
        refine r_icmple (pc := 37) 44 C dX9_last_37 (by decide) (fun c_13 => ?_) (fun c_13 => ?_)
        · refine r_iload_n (pc := 44) C dX9_last_44 2 rfl ?_
          refine u_lv [(0, .ref zm), (2, .int x2_1), (3, .int (nI x3_1)), (4, .int w_10)] [1, 3, 4, 0] rfl ?_
          exact hJ_15 _ (by first | (simp only [if_pos c_13]; done) | rfl | (simp [if_pos c_13]; done))
        · refine r_iload_n (pc := 40) C dX9_last_40 4 rfl ?_
          refine r_goto (pc := 41) 45 C dX9_last_41 (by decide) ?_
          refine u_lv [(0, .ref zm), (2, .int x2_1), (3, .int (nI x3_1)), (4, .int w_10)] [1, 3, 4, 0] rfl ?_
          exact hJ_15 _ (by first | (simp only [if_neg c_13]; done) | rfl | (simp [if_neg c_13]; done))
      refine r_ifeq (pc := 20) 31 C dX9_last_20 (by decide) (fun c_6 => ?_) (fun c_6 => ?_)
      · refine r_iconst (pc := 31) (-1) C dX9_last_31 rfl ?_
        exact hJ_12 _ _ (by first | (simp only [if_pos c_6]; done) | rfl | (simp [if_pos c_6]; done)) (by first | (simp only [if_pos c_6]; done) | rfl | (simp [if_pos c_6]; done))
      · refine r_aload_n (pc := 23) C dX9_last_23 0 rfl ?_
        refine r_iload_n (pc := 24) C dX9_last_24 3 rfl ?_
        obtain ⟨r_7, e_r_7⟩ : ∃ z : Int32, z = (fX9_fallOf mp mt ml md so0_1 (nI x3_1)).1 := ⟨_, rfl⟩
        obtain ⟨so_8, e_so_8⟩ : ∃ z : Nat → Int32, z = (fX9_fallOf mp mt ml md so0_1 (nI x3_1)).2 := ⟨_, rfl⟩
        have K_9 := ctX9_fallOf l g zm za1 za2 za3 za4 za5 za6 za7 za8 za9 zaa mp mt ml md np nt nl nP nS nD so0_1 ac mk mn mx nx mq mv wr ts sn sF sB sS mm (nI x3_1) (by omega) (by assumption)
        rw [← e_r_7, ← e_so_8] at K_9
        refine w_cI (pc := 25) [wMod g zm za1 za2 za3 za4 za5 za6 za7 za8 za9 zaa mp mt ml md np nt nl nP nS nD so_8 ac mk mn mx nx mq mv wr ts sn sF sB sS mm] C mv_X9_142 K_9 dX9_last_25 (by decide) [0] rfl (by decide) (by simp only [List.map_cons, List.map_nil, adMod]) rfl 0 rfl rfl (Nat.le_of_ble_eq_true rfl) ⟨Nat.zero_le _, Nat.zero_le _⟩ ?_
        refine r_goto (pc := 28) 32 C dX9_last_28 (by decide) ?_
        exact hJ_12 _ _ (by first | (simp only [← e_r_7, ← e_so_8, if_neg c_6]; done) | (subst e_r_7 e_so_8; simp only [if_neg c_6]; done) | (subst e_r_7 e_so_8; rfl) | (subst e_r_7 e_so_8; simp [if_neg c_6]; done)) (by first | (simp only [← e_r_7, ← e_so_8, if_neg c_6]; done) | (subst e_r_7 e_so_8; simp only [if_neg c_6]; done) | (subst e_r_7 e_so_8; rfl) | (subst e_r_7 e_so_8; simp [if_neg c_6]; done))
  refine u_lv [(0, .ref zm), (1, .int (-9)), (2, .int (-1)), (3, .int 0)] [3, 2, 1, 0] rfl ?_
  exact hL1 mt (-9) (-1) 0 so (by omega) rfl
theorem ctX9_last (l : Launch) (g : Gl) (zm : Nat) (za1 : Nat) (za2 : Nat) (za3 : Nat) (za4 : Nat) (za5 : Nat) (za6 : Nat) (za7 : Nat) (za8 : Nat) (za9 : Nat) (zaa : Nat) (mp : Int32) (mt : Nat) (ml : Int32) (md : Nat → Int32) (np : Int32) (nt : Nat) (nl : Int32) (nP : Nat → Int32) (nS : Nat → Int32) (nD : Nat → Int32) (so : Nat → Int32) (ac : Nat) (mk : Nat → Int32) (mn : Nat) (mx : Nat → Int32) (nx : Nat) (mq : Nat) (mv : Int32) (wr : Int32) (ts : Int32) (sn : Nat) (sF : Nat → Int32) (sB : Nat → Int32) (sS : Nat → Int32) (mm : Int64) (q0 : mt ≤ 6) (q1 : ¬ mp = 0) : CtI l g yX9_last cX9_last 5 (some .int) 5 [.ref zm] (fl [wMod g zm za1 za2 za3 za4 za5 za6 za7 za8 za9 zaa mp mt ml md np nt nl nP nS nD so ac mk mn mx nx mq mv wr ts sn sF sB sS mm]) ((fX9_last mp mt ml md so).1) (fl [wMod g zm za1 za2 za3 za4 za5 za6 za7 za8 za9 zaa mp mt ml md np nt nl nP nS nD ((fX9_last mp mt ml md so).2) ac mk mn mx nx mq mv wr ts sn sF sB sS mm]) := mkI .int rfl rfl [(0, .ref zm)] (by decide) (Nat.le_of_ble_eq_true rfl) rfl (fun X C hR => bX9_last C zm za1 za2 za3 za4 za5 za6 za7 za8 za9 zaa mp mt ml md np nt nl nP nS nD so ac mk mn mx nx mq mv wr ts sn sF sB sS mm q0 q1 hR)

def fX9_top (mp : Int32) (mt : Nat) (ml : Int32) (md : Nat → Int32) (so : Nat → Int32) (t : Int32) (w : Int32) : (Int32) × (Nat → Int32) := (let r_1 : Int32 := fX9_isTop mt t; if r_1 = 0 then (((-1), so)) else (let r_4 : Int32 := fX9_in (((w : Int32)).toInt64) 0 4; if r_4 = 0 then (((-1), so)) else (if w = 0 then (let r_18 : Int32 := fX9_stands so (nI t.toNatClampNeg); if r_18 = 0 then (((-9), so)) else (((so t.toNatClampNeg), so))) else (if w = 1 then (((so (6 + t.toNatClampNeg)), so)) else (if w = 2 then (((md t.toNatClampNeg), so)) else (if w = 3 then (let r_15 : Int32 := fX9_stands so (nI t.toNatClampNeg); if r_15 = 0 then ((0, so)) else ((1, so))) else (let r_12 : Int32 := (fX9_fallOf mp mt ml md so (nI t.toNatClampNeg)).1; let so_13 : Nat → Int32 := (fX9_fallOf mp mt ml md so (nI t.toNatClampNeg)).2; (r_12, so_13))))))))
set_option maxHeartbeats 4000000 in
set_option maxRecDepth 100000 in
theorem bX9_top {l : Launch} {g : Gl} {X : Cx} (C : Ok l g X RX9 cX9_top 3 5) (zm : Nat) (za1 : Nat) (za2 : Nat) (za3 : Nat) (za4 : Nat) (za5 : Nat) (za6 : Nat) (za7 : Nat) (za8 : Nat) (za9 : Nat) (zaa : Nat) (mp : Int32) (mt : Nat) (ml : Int32) (md : Nat → Int32) (np : Int32) (nt : Nat) (nl : Int32) (nP : Nat → Int32) (nS : Nat → Int32) (nD : Nat → Int32) (so : Nat → Int32) (ac : Nat) (mk : Nat → Int32) (mn : Nat) (mx : Nat → Int32) (nx : Nat) (mq : Nat) (mv : Int32) (wr : Int32) (ts : Int32) (sn : Nat) (sF : Nat → Int32) (sB : Nat → Int32) (sS : Nat → Int32) (mm : Int64) (t : Int32) (w : Int32) (q0 : mt ≤ 6) (q1 : ¬ mp = 0) (hR : RetI g X cX9_top 3 0 0 ((fX9_top mp mt ml md so t w).1) (fl [wMod g zm za1 za2 za3 za4 za5 za6 za7 za8 za9 zaa mp mt ml md np nt nl nP nS nD ((fX9_top mp mt ml md so t w).2) ac mk mn mx nx mq mv wr ts sn sF sB sS mm])) : Vw g X 3 0 0 (fl [wMod g zm za1 za2 za3 za4 za5 za6 za7 za8 za9 zaa mp mt ml md np nt nl nP nS nD so ac mk mn mx nx mq mv wr ts sn sF sB sS mm]) 0 [(0, .ref zm), (1, .int t), (2, .int w)] [] := by
  refine r_aload_n (pc := 0) C dX9_top_0 0 rfl ?_
  refine r_iload_n (pc := 1) C dX9_top_1 1 rfl ?_
  obtain ⟨r_1, e_r_1⟩ : ∃ z : Int32, z = fX9_isTop mt t := ⟨_, rfl⟩
  have K_2 := ctX9_isTop l g zm za1 za2 za3 za4 za5 za6 za7 za8 za9 zaa mp mt ml md np nt nl nP nS nD so ac mk mn mx nx mq mv wr ts sn sF sB sS mm t 
  rw [← e_r_1] at K_2
  refine w_pI (pc := 2) C mv_X9_148 K_2 dX9_top_2 (by decide) [0] rfl (by decide) 0 rfl rfl (Nat.le_of_ble_eq_true rfl) ⟨Nat.zero_le _, Nat.zero_le _⟩ ?_
  refine r_ifeq (pc := 5) 20 C dX9_top_5 (by decide) (fun c_3 => ?_) (fun c_3 => ?_)
  · refine r_iconst (pc := 20) (-1) C dX9_top_20 rfl ?_
    have hf : fX9_top mp mt ml md so t w = ((-1), so) := by first | (simp only [fX9_top, ← e_r_1, if_pos c_3]; done) | (subst e_r_1; simp only [fX9_top, if_pos c_3]; done) | (subst e_r_1; rfl) | (subst e_r_1; simp [fX9_top, if_pos c_3]; done)
    rw [hf] at hR
    exact hR _ _ dX9_top_21
  · refine r_iload_n (pc := 8) C dX9_top_8 2 rfl ?_
    refine r_i2l (pc := 9) C dX9_top_9 ?_
    refine r_lconst (pc := 10) 0 C dX9_top_10 rfl ?_
    refine r_ldc2 (pc := 11) C dX9_top_11 kl_X9_151 ?_
    obtain ⟨r_4, e_r_4⟩ : ∃ z : Int32, z = fX9_in (((w : Int32)).toInt64) 0 4 := ⟨_, rfl⟩
    have K_5 := ctX9_in l g   (((w : Int32)).toInt64) 0 4 
    rw [← e_r_4] at K_5
    refine x_pI (pc := 14) C ms_X9_50 K_5 dX9_top_14 (by decide) [] rfl (by decide) rfl (Nat.le_of_ble_eq_true rfl) ⟨Nat.zero_le _, Nat.zero_le _⟩ ?_
    refine r_ifne (pc := 17) 22 C dX9_top_17 (by decide) (fun c_6 => ?_) (fun c_6 => ?_)
    · obtain ⟨h_7, qh_7⟩ := natc (x := t) (B := mt) (by omega) (m_isTop_nat (by rw [← e_r_1]; assumption))
      refine u_lvq [(0, .ref zm), (1, .int (nI t.toNatClampNeg)), (2, .int w)] (by rw [qh_7]) ?_
      refine r_iload_n (pc := 22) C dX9_top_22 2 rfl ?_
      refine r_ifne (pc := 23) 48 C dX9_top_23 (by decide) (fun c_8 => ?_) (fun c_8 => ?_)
      · refine r_iload_n (pc := 48) C dX9_top_48 2 rfl ?_
        refine r_iconst (pc := 49) 1 C dX9_top_49 rfl ?_
        refine r_icmpne (pc := 50) 65 C dX9_top_50 (by decide) (fun c_9 => ?_) (fun c_9 => ?_)
        · refine r_iload_n (pc := 65) C dX9_top_65 2 rfl ?_
          refine r_iconst (pc := 66) 2 C dX9_top_66 rfl ?_
          refine r_icmpne (pc := 67) 79 C dX9_top_67 (by decide) (fun c_10 => ?_) (fun c_10 => ?_)
          · refine r_iload_n (pc := 79) C dX9_top_79 2 rfl ?_
            refine r_iconst (pc := 80) 3 C dX9_top_80 rfl ?_
            refine r_icmpne (pc := 81) 100 C dX9_top_81 (by decide) (fun c_11 => ?_) (fun c_11 => ?_)
            · refine r_aload_n (pc := 100) C dX9_top_100 0 rfl ?_
              refine r_iload_n (pc := 101) C dX9_top_101 1 rfl ?_
              obtain ⟨r_12, e_r_12⟩ : ∃ z : Int32, z = (fX9_fallOf mp mt ml md so (nI t.toNatClampNeg)).1 := ⟨_, rfl⟩
              obtain ⟨so_13, e_so_13⟩ : ∃ z : Nat → Int32, z = (fX9_fallOf mp mt ml md so (nI t.toNatClampNeg)).2 := ⟨_, rfl⟩
              have K_14 := ctX9_fallOf l g zm za1 za2 za3 za4 za5 za6 za7 za8 za9 zaa mp mt ml md np nt nl nP nS nD so ac mk mn mx nx mq mv wr ts sn sF sB sS mm (nI t.toNatClampNeg) (by omega) (by assumption)
              rw [← e_r_12, ← e_so_13] at K_14
              refine w_cI (pc := 102) [wMod g zm za1 za2 za3 za4 za5 za6 za7 za8 za9 zaa mp mt ml md np nt nl nP nS nD so_13 ac mk mn mx nx mq mv wr ts sn sF sB sS mm] C mv_X9_142 K_14 dX9_top_102 (by decide) [0] rfl (by decide) (by simp only [List.map_cons, List.map_nil, adMod]) rfl 0 rfl rfl (Nat.le_of_ble_eq_true rfl) ⟨Nat.zero_le _, Nat.zero_le _⟩ ?_
              have hf : fX9_top mp mt ml md so t w = (r_12, so_13) := by first | (simp only [fX9_top, ← e_r_1, ← e_r_4, ← e_r_12, ← e_so_13, if_neg c_3, if_neg c_6, if_neg c_8, if_neg c_9, if_neg c_10, if_neg c_11]; done) | (subst e_r_1 e_r_4 e_r_12 e_so_13; simp only [fX9_top, if_neg c_3, if_neg c_6, if_neg c_8, if_neg c_9, if_neg c_10, if_neg c_11]; done) | (subst e_r_1 e_r_4 e_r_12 e_so_13; rfl) | (subst e_r_1 e_r_4 e_r_12 e_so_13; simp [fX9_top, if_neg c_3, if_neg c_6, if_neg c_8, if_neg c_9, if_neg c_10, if_neg c_11]; done)
              rw [hf] at hR
              exact hR _ _ dX9_top_105
            · refine r_aload_n (pc := 84) C dX9_top_84 0 rfl ?_
              refine r_iload_n (pc := 85) C dX9_top_85 1 rfl ?_
              obtain ⟨r_15, e_r_15⟩ : ∃ z : Int32, z = fX9_stands so (nI t.toNatClampNeg) := ⟨_, rfl⟩
              have K_16 := ctX9_stands l g zm za1 za2 za3 za4 za5 za6 za7 za8 za9 zaa mp mt ml md np nt nl nP nS nD so ac mk mn mx nx mq mv wr ts sn sF sB sS mm (nI t.toNatClampNeg) 
              rw [← e_r_15] at K_16
              refine w_pI (pc := 86) C mv_X9_138 K_16 dX9_top_86 (by decide) [0] rfl (by decide) 0 rfl rfl (Nat.le_of_ble_eq_true rfl) ⟨Nat.zero_le _, Nat.zero_le _⟩ ?_
              refine r_ifeq (pc := 89) 96 C dX9_top_89 (by decide) (fun c_17 => ?_) (fun c_17 => ?_)
              · refine r_iconst (pc := 96) 0 C dX9_top_96 rfl ?_
                refine r_goto (pc := 97) 105 C dX9_top_97 (by decide) ?_
                have hf : fX9_top mp mt ml md so t w = (0, so) := by first | (simp only [fX9_top, ← e_r_1, ← e_r_4, ← e_r_15, if_neg c_3, if_neg c_6, if_neg c_8, if_neg c_9, if_neg c_10, if_pos c_11, if_pos c_17]; done) | (subst e_r_1 e_r_4 e_r_15; simp only [fX9_top, if_neg c_3, if_neg c_6, if_neg c_8, if_neg c_9, if_neg c_10, if_pos c_11, if_pos c_17]; done) | (subst e_r_1 e_r_4 e_r_15; rfl) | (subst e_r_1 e_r_4 e_r_15; simp [fX9_top, if_neg c_3, if_neg c_6, if_neg c_8, if_neg c_9, if_neg c_10, if_pos c_11, if_pos c_17]; done)
                rw [hf] at hR
                exact hR _ _ dX9_top_105
              · refine r_iconst (pc := 92) 1 C dX9_top_92 rfl ?_
                refine r_goto (pc := 93) 105 C dX9_top_93 (by decide) ?_
                have hf : fX9_top mp mt ml md so t w = (1, so) := by first | (simp only [fX9_top, ← e_r_1, ← e_r_4, ← e_r_15, if_neg c_3, if_neg c_6, if_neg c_8, if_neg c_9, if_neg c_10, if_pos c_11, if_neg c_17]; done) | (subst e_r_1 e_r_4 e_r_15; simp only [fX9_top, if_neg c_3, if_neg c_6, if_neg c_8, if_neg c_9, if_neg c_10, if_pos c_11, if_neg c_17]; done) | (subst e_r_1 e_r_4 e_r_15; rfl) | (subst e_r_1 e_r_4 e_r_15; simp [fX9_top, if_neg c_3, if_neg c_6, if_neg c_8, if_neg c_9, if_neg c_10, if_pos c_11, if_neg c_17]; done)
                rw [hf] at hR
                exact hR _ _ dX9_top_105
          · refine r_aload_n (pc := 70) C dX9_top_70 0 rfl ?_
            refine r_get (pc := 71) C fl_X9_16 dX9_top_71 0 rfl rfl ?_
            refine r_iload_n (pc := 74) C dX9_top_74 1 rfl ?_
            refine r_iald (pc := 75) t.toNatClampNeg C dX9_top_75 1 rfl rfl (by omega) (by decide) ?_
            refine r_goto (pc := 76) 105 C dX9_top_76 (by decide) ?_
            have hf : fX9_top mp mt ml md so t w = ((md t.toNatClampNeg), so) := by first | (simp only [fX9_top, ← e_r_1, ← e_r_4, if_neg c_3, if_neg c_6, if_neg c_8, if_neg c_9, if_pos c_10]; done) | (subst e_r_1 e_r_4; simp only [fX9_top, if_neg c_3, if_neg c_6, if_neg c_8, if_neg c_9, if_pos c_10]; done) | (subst e_r_1 e_r_4; rfl) | (subst e_r_1 e_r_4; simp [fX9_top, if_neg c_3, if_neg c_6, if_neg c_8, if_neg c_9, if_pos c_10]; done)
            rw [hf] at hR
            exact hR _ _ dX9_top_105
        · refine r_aload_n (pc := 53) C dX9_top_53 0 rfl ?_
          refine r_get (pc := 54) C fl_X9_29 dX9_top_54 0 rfl rfl ?_
          refine r_bipush (pc := 57) 6 C dX9_top_57 rfl ?_
          refine r_iload_n (pc := 59) C dX9_top_59 1 rfl ?_
          refine r_iaddN (pc := 60) 6 t.toNatClampNeg C dX9_top_60 rfl rfl ?_
          refine r_iald (pc := 61) (6 + t.toNatClampNeg) C dX9_top_61 5 rfl rfl (by omega) (by decide) ?_
          refine r_goto (pc := 62) 105 C dX9_top_62 (by decide) ?_
          have hf : fX9_top mp mt ml md so t w = ((so (6 + t.toNatClampNeg)), so) := by first | (simp only [fX9_top, ← e_r_1, ← e_r_4, if_neg c_3, if_neg c_6, if_neg c_8, if_pos c_9]; done) | (subst e_r_1 e_r_4; simp only [fX9_top, if_neg c_3, if_neg c_6, if_neg c_8, if_pos c_9]; done) | (subst e_r_1 e_r_4; rfl) | (subst e_r_1 e_r_4; simp [fX9_top, if_neg c_3, if_neg c_6, if_neg c_8, if_pos c_9]; done)
          rw [hf] at hR
          exact hR _ _ dX9_top_105
      · refine r_aload_n (pc := 26) C dX9_top_26 0 rfl ?_
        refine r_iload_n (pc := 27) C dX9_top_27 1 rfl ?_
        obtain ⟨r_18, e_r_18⟩ : ∃ z : Int32, z = fX9_stands so (nI t.toNatClampNeg) := ⟨_, rfl⟩
        have K_19 := ctX9_stands l g zm za1 za2 za3 za4 za5 za6 za7 za8 za9 zaa mp mt ml md np nt nl nP nS nD so ac mk mn mx nx mq mv wr ts sn sF sB sS mm (nI t.toNatClampNeg) 
        rw [← e_r_18] at K_19
        refine w_pI (pc := 28) C mv_X9_138 K_19 dX9_top_28 (by decide) [0] rfl (by decide) 0 rfl rfl (Nat.le_of_ble_eq_true rfl) ⟨Nat.zero_le _, Nat.zero_le _⟩ ?_
        refine r_ifeq (pc := 31) 43 C dX9_top_31 (by decide) (fun c_20 => ?_) (fun c_20 => ?_)
        · refine r_bipush (pc := 43) (-9) C dX9_top_43 rfl ?_
          refine r_goto (pc := 45) 105 C dX9_top_45 (by decide) ?_
          have hf : fX9_top mp mt ml md so t w = ((-9), so) := by first | (simp only [fX9_top, ← e_r_1, ← e_r_4, ← e_r_18, if_neg c_3, if_neg c_6, if_pos c_8, if_pos c_20]; done) | (subst e_r_1 e_r_4 e_r_18; simp only [fX9_top, if_neg c_3, if_neg c_6, if_pos c_8, if_pos c_20]; done) | (subst e_r_1 e_r_4 e_r_18; rfl) | (subst e_r_1 e_r_4 e_r_18; simp [fX9_top, if_neg c_3, if_neg c_6, if_pos c_8, if_pos c_20]; done)
          rw [hf] at hR
          exact hR _ _ dX9_top_105
        · refine r_aload_n (pc := 34) C dX9_top_34 0 rfl ?_
          refine r_get (pc := 35) C fl_X9_29 dX9_top_35 0 rfl rfl ?_
          refine r_iload_n (pc := 38) C dX9_top_38 1 rfl ?_
          refine r_iald (pc := 39) t.toNatClampNeg C dX9_top_39 5 rfl rfl (by omega) (by decide) ?_
          refine r_goto (pc := 40) 105 C dX9_top_40 (by decide) ?_
          have hf : fX9_top mp mt ml md so t w = ((so t.toNatClampNeg), so) := by first | (simp only [fX9_top, ← e_r_1, ← e_r_4, ← e_r_18, if_neg c_3, if_neg c_6, if_pos c_8, if_neg c_20]; done) | (subst e_r_1 e_r_4 e_r_18; simp only [fX9_top, if_neg c_3, if_neg c_6, if_pos c_8, if_neg c_20]; done) | (subst e_r_1 e_r_4 e_r_18; rfl) | (subst e_r_1 e_r_4 e_r_18; simp [fX9_top, if_neg c_3, if_neg c_6, if_pos c_8, if_neg c_20]; done)
          rw [hf] at hR
          exact hR _ _ dX9_top_105
    · refine r_iconst (pc := 20) (-1) C dX9_top_20 rfl ?_
      have hf : fX9_top mp mt ml md so t w = ((-1), so) := by first | (simp only [fX9_top, ← e_r_1, ← e_r_4, if_neg c_3, if_pos c_6]; done) | (subst e_r_1 e_r_4; simp only [fX9_top, if_neg c_3, if_pos c_6]; done) | (subst e_r_1 e_r_4; rfl) | (subst e_r_1 e_r_4; simp [fX9_top, if_neg c_3, if_pos c_6]; done)
      rw [hf] at hR
      exact hR _ _ dX9_top_21
theorem ctX9_top (l : Launch) (g : Gl) (zm : Nat) (za1 : Nat) (za2 : Nat) (za3 : Nat) (za4 : Nat) (za5 : Nat) (za6 : Nat) (za7 : Nat) (za8 : Nat) (za9 : Nat) (zaa : Nat) (mp : Int32) (mt : Nat) (ml : Int32) (md : Nat → Int32) (np : Int32) (nt : Nat) (nl : Int32) (nP : Nat → Int32) (nS : Nat → Int32) (nD : Nat → Int32) (so : Nat → Int32) (ac : Nat) (mk : Nat → Int32) (mn : Nat) (mx : Nat → Int32) (nx : Nat) (mq : Nat) (mv : Int32) (wr : Int32) (ts : Int32) (sn : Nat) (sF : Nat → Int32) (sB : Nat → Int32) (sS : Nat → Int32) (mm : Int64) (t : Int32) (w : Int32) (q0 : mt ≤ 6) (q1 : ¬ mp = 0) : CtI l g yX9_top cX9_top 3 (some .int) 5 [.ref zm, .int t, .int w] (fl [wMod g zm za1 za2 za3 za4 za5 za6 za7 za8 za9 zaa mp mt ml md np nt nl nP nS nD so ac mk mn mx nx mq mv wr ts sn sF sB sS mm]) ((fX9_top mp mt ml md so t w).1) (fl [wMod g zm za1 za2 za3 za4 za5 za6 za7 za8 za9 zaa mp mt ml md np nt nl nP nS nD ((fX9_top mp mt ml md so t w).2) ac mk mn mx nx mq mv wr ts sn sF sB sS mm]) := mkI .int rfl rfl [(0, .ref zm), (1, .int t), (2, .int w)] (by decide) (Nat.le_of_ble_eq_true rfl) rfl (fun X C hR => bX9_top C zm za1 za2 za3 za4 za5 za6 za7 za8 za9 zaa mp mt ml md np nt nl nP nS nD so ac mk mn mx nx mq mv wr ts sn sF sB sS mm t w q0 q1 hR)

def fX9_at (mp : Int32) (mt : Nat) (so : Nat → Int32) (w : Int32) : (Int32) := (let r_1 : Int32 := fX9_in (((w : Int32)).toInt64) 0 ((((mp - 1) : Int32)).toInt64); if r_1 = 0 then ((-1)) else (let r_4 : Int32 := fX9_whoAt mt so 0 w (-9); r_4))
set_option maxHeartbeats 4000000 in
set_option maxRecDepth 100000 in
theorem bX9_at {l : Launch} {g : Gl} {X : Cx} (C : Ok l g X RX9 cX9_at 2 2) (zm : Nat) (za1 : Nat) (za2 : Nat) (za3 : Nat) (za4 : Nat) (za5 : Nat) (za6 : Nat) (za7 : Nat) (za8 : Nat) (za9 : Nat) (zaa : Nat) (mp : Int32) (mt : Nat) (ml : Int32) (md : Nat → Int32) (np : Int32) (nt : Nat) (nl : Int32) (nP : Nat → Int32) (nS : Nat → Int32) (nD : Nat → Int32) (so : Nat → Int32) (ac : Nat) (mk : Nat → Int32) (mn : Nat) (mx : Nat → Int32) (nx : Nat) (mq : Nat) (mv : Int32) (wr : Int32) (ts : Int32) (sn : Nat) (sF : Nat → Int32) (sB : Nat → Int32) (sS : Nat → Int32) (mm : Int64) (w : Int32) (q0 : mt ≤ 6) (hR : RetI g X cX9_at 2 0 0 (fX9_at mp mt so w) (fl [wMod g zm za1 za2 za3 za4 za5 za6 za7 za8 za9 zaa mp mt ml md np nt nl nP nS nD so ac mk mn mx nx mq mv wr ts sn sF sB sS mm])) : Vw g X 2 0 0 (fl [wMod g zm za1 za2 za3 za4 za5 za6 za7 za8 za9 zaa mp mt ml md np nt nl nP nS nD so ac mk mn mx nx mq mv wr ts sn sF sB sS mm]) 0 [(0, .ref zm), (1, .int w)] [] := by
  refine r_iload_n (pc := 0) C dX9_at_0 1 rfl ?_
  refine r_i2l (pc := 1) C dX9_at_1 ?_
  refine r_lconst (pc := 2) 0 C dX9_at_2 rfl ?_
  refine r_aload_n (pc := 3) C dX9_at_3 0 rfl ?_
  refine r_get (pc := 4) C fl_X9_7 dX9_at_4 0 rfl rfl ?_
  refine r_iconst (pc := 7) 1 C dX9_at_7 rfl ?_
  refine r_isub (pc := 8) C dX9_at_8 ?_
  refine r_i2l (pc := 9) C dX9_at_9 ?_
  obtain ⟨r_1, e_r_1⟩ : ∃ z : Int32, z = fX9_in (((w : Int32)).toInt64) 0 ((((mp - 1) : Int32)).toInt64) := ⟨_, rfl⟩
  have K_2 := ctX9_in l g   (((w : Int32)).toInt64) 0 ((((mp - 1) : Int32)).toInt64) 
  rw [← e_r_1] at K_2
  refine x_pI (pc := 10) C ms_X9_50 K_2 dX9_at_10 (by decide) [] rfl (by decide) rfl (Nat.le_of_ble_eq_true rfl) ⟨Nat.zero_le _, Nat.zero_le _⟩ ?_
  refine r_ifeq (pc := 13) 27 C dX9_at_13 (by decide) (fun c_3 => ?_) (fun c_3 => ?_)
  · refine r_iconst (pc := 27) (-1) C dX9_at_27 rfl ?_
    have hf : fX9_at mp mt so w = (-1) := by first | (simp only [fX9_at, ← e_r_1, if_pos c_3]; done) | (subst e_r_1; simp only [fX9_at, if_pos c_3]; done) | (subst e_r_1; rfl) | (subst e_r_1; simp [fX9_at, if_pos c_3]; done)
    rw [hf] at hR
    exact hR _ _ dX9_at_28
  · refine r_aload_n (pc := 16) C dX9_at_16 0 rfl ?_
    refine r_iconst (pc := 17) 0 C dX9_at_17 rfl ?_
    refine r_iload_n (pc := 18) C dX9_at_18 1 rfl ?_
    refine r_bipush (pc := 19) (-9) C dX9_at_19 rfl ?_
    obtain ⟨r_4, e_r_4⟩ : ∃ z : Int32, z = fX9_whoAt mt so 0 w (-9) := ⟨_, rfl⟩
    have K_5 := ctX9_whoAt l g zm za1 za2 za3 za4 za5 za6 za7 za8 za9 zaa mp mt ml md np nt nl nP nS nD so ac mk mn mx nx mq mv wr ts sn sF sB sS mm 0 w (-9) (by omega) (by omega)
    rw [← e_r_4] at K_5
    refine w_pI (pc := 21) C mv_X9_121 K_5 dX9_at_21 (by decide) [0] rfl (by decide) 0 rfl rfl (Nat.le_of_ble_eq_true rfl) ⟨Nat.zero_le _, Nat.zero_le _⟩ ?_
    refine r_goto (pc := 24) 28 C dX9_at_24 (by decide) ?_
    have hf : fX9_at mp mt so w = r_4 := by first | (simp only [fX9_at, ← e_r_1, ← e_r_4, if_neg c_3]; done) | (subst e_r_1 e_r_4; simp only [fX9_at, if_neg c_3]; done) | (subst e_r_1 e_r_4; rfl) | (subst e_r_1 e_r_4; simp [fX9_at, if_neg c_3]; done)
    rw [hf] at hR
    exact hR _ _ dX9_at_28
theorem ctX9_at (l : Launch) (g : Gl) (zm : Nat) (za1 : Nat) (za2 : Nat) (za3 : Nat) (za4 : Nat) (za5 : Nat) (za6 : Nat) (za7 : Nat) (za8 : Nat) (za9 : Nat) (zaa : Nat) (mp : Int32) (mt : Nat) (ml : Int32) (md : Nat → Int32) (np : Int32) (nt : Nat) (nl : Int32) (nP : Nat → Int32) (nS : Nat → Int32) (nD : Nat → Int32) (so : Nat → Int32) (ac : Nat) (mk : Nat → Int32) (mn : Nat) (mx : Nat → Int32) (nx : Nat) (mq : Nat) (mv : Int32) (wr : Int32) (ts : Int32) (sn : Nat) (sF : Nat → Int32) (sB : Nat → Int32) (sS : Nat → Int32) (mm : Int64) (w : Int32) (q0 : mt ≤ 6) : CtI l g yX9_at cX9_at 2 (some .int) 2 [.ref zm, .int w] (fl [wMod g zm za1 za2 za3 za4 za5 za6 za7 za8 za9 zaa mp mt ml md np nt nl nP nS nD so ac mk mn mx nx mq mv wr ts sn sF sB sS mm]) (fX9_at mp mt so w) (fl [wMod g zm za1 za2 za3 za4 za5 za6 za7 za8 za9 zaa mp mt ml md np nt nl nP nS nD so ac mk mn mx nx mq mv wr ts sn sF sB sS mm]) := mkI .int rfl rfl [(0, .ref zm), (1, .int w)] (by decide) (Nat.le_of_ble_eq_true rfl) rfl (fun X C hR => bX9_at C zm za1 za2 za3 za4 za5 za6 za7 za8 za9 zaa mp mt ml md np nt nl nP nS nD so ac mk mn mx nx mq mv wr ts sn sF sB sS mm w q0 hR)

def lX9_spins_4 (so : Nat → Int32) : Nat → (Int32) → (Nat) → (Int32)
  | 0, x1_1, x2_1 => (x1_1)
  | n + 1, x1_1, x2_1 => (lX9_spins_4 so n (x1_1 + (so (6 + x2_1))) (x2_1 + 1))
def fX9_spins (mt : Nat) (so : Nat → Int32) : (Int32) := (let x1_4 : Int32 := lX9_spins_4 so mt 0 0; x1_4)
set_option maxHeartbeats 4000000 in
set_option maxRecDepth 100000 in
theorem bX9_spins {l : Launch} {g : Gl} {X : Cx} (C : Ok l g X RX9 cX9_spins 3 0) (zm : Nat) (za1 : Nat) (za2 : Nat) (za3 : Nat) (za4 : Nat) (za5 : Nat) (za6 : Nat) (za7 : Nat) (za8 : Nat) (za9 : Nat) (zaa : Nat) (mp : Int32) (mt : Nat) (ml : Int32) (md : Nat → Int32) (np : Int32) (nt : Nat) (nl : Int32) (nP : Nat → Int32) (nS : Nat → Int32) (nD : Nat → Int32) (so : Nat → Int32) (ac : Nat) (mk : Nat → Int32) (mn : Nat) (mx : Nat → Int32) (nx : Nat) (mq : Nat) (mv : Int32) (wr : Int32) (ts : Int32) (sn : Nat) (sF : Nat → Int32) (sB : Nat → Int32) (sS : Nat → Int32) (mm : Int64) (q0 : mt ≤ 6) (hR : RetI g X cX9_spins 3 0 0 (fX9_spins mt so) (fl [wMod g zm za1 za2 za3 za4 za5 za6 za7 za8 za9 zaa mp mt ml md np nt nl nP nS nD so ac mk mn mx nx mq mv wr ts sn sF sB sS mm])) : Vw g X 3 0 0 (fl [wMod g zm za1 za2 za3 za4 za5 za6 za7 za8 za9 zaa mp mt ml md np nt nl nP nS nD so ac mk mn mx nx mq mv wr ts sn sF sB sS mm]) 0 [(0, .ref zm)] [] := by
  refine r_iconst (pc := 0) 0 C dX9_spins_0 rfl ?_
  refine r_istore_n (pc := 1) [(1, .int 0), (0, .ref zm)] C dX9_spins_1 (by decide) rfl ?_
  refine r_iconst (pc := 2) 0 C dX9_spins_2 rfl ?_
  refine r_istore_n (pc := 3) [(2, .int 0), (1, .int 0), (0, .ref zm)] C dX9_spins_3 (by decide) rfl ?_
  have hX1 : ∀ (x1_4 : Int32) , (x1_4 = lX9_spins_4 so mt 0 0) → Vw g X 3 0 0 (fl [wMod g zm za1 za2 za3 za4 za5 za6 za7 za8 za9 zaa mp mt ml md np nt nl nP nS nD so ac mk mn mx nx mq mv wr ts sn sF sB sS mm]) 30 [(1, .int x1_4)] [] := by
    intro x1_4 e_x1_4 
    refine r_iload_n (pc := 30) C dX9_spins_30 0 rfl ?_
    have hf : fX9_spins mt so = x1_4 := by first | (simp only [fX9_spins, ← e_x1_4]; done) | (subst e_x1_4; rfl) | (subst e_x1_4; simp only [fX9_spins]; done)
    rw [hf] at hR
    exact hR _ _ dX9_spins_31
  have hL1 : ∀ (n : Nat) (x1_1 : Int32) (x2_1 : Nat) , (x2_1 + n = mt) → lX9_spins_4 so n x1_1 x2_1 = lX9_spins_4 so mt 0 0 → Vw g X 3 0 0 (fl [wMod g zm za1 za2 za3 za4 za5 za6 za7 za8 za9 zaa mp mt ml md np nt nl nP nS nD so ac mk mn mx nx mq mv wr ts sn sF sB sS mm]) 4 [(0, .ref zm), (1, .int x1_1), (2, .int (nI x2_1))] [] := by
    intro n
    induction n with
    | zero =>
      intro x1_1 x2_1 hr1 hV1
      refine r_iload_n (pc := 4) C dX9_spins_4 2 rfl ?_
      refine r_aload_n (pc := 5) C dX9_spins_5 0 rfl ?_
      refine r_get (pc := 6) C fl_X9_108 dX9_spins_6 0 rfl rfl ?_
      refine r_icmpgeN (pc := 9) x2_1 mt 30 C dX9_spins_9 (by decide) rfl rfl (by omega) (by omega) (fun _ => ?_) (fun c_2 => absurd (by omega) c_2)
      refine u_lv [(1, .int x1_1)] [1] rfl ?_
      exact hX1 _ (by rw [← hV1]; first | rfl | (simp only [lX9_spins_4]; done) | (simp [lX9_spins_4]; done))
    | succ n ih =>
      intro x1_1 x2_1 hr1 hV1
      refine r_iload_n (pc := 4) C dX9_spins_4 2 rfl ?_
      refine r_aload_n (pc := 5) C dX9_spins_5 0 rfl ?_
      refine r_get (pc := 6) C fl_X9_108 dX9_spins_6 0 rfl rfl ?_
      refine r_icmpgeN (pc := 9) x2_1 mt 30 C dX9_spins_9 (by decide) rfl rfl (by omega) (by omega) (fun c_3 => absurd c_3 (by omega)) (fun _ => ?_)
      refine r_iload_n (pc := 12) C dX9_spins_12 1 rfl ?_
      refine r_aload_n (pc := 13) C dX9_spins_13 0 rfl ?_
      refine r_get (pc := 14) C fl_X9_29 dX9_spins_14 0 rfl rfl ?_
      refine r_bipush (pc := 17) 6 C dX9_spins_17 rfl ?_
      refine r_iload_n (pc := 19) C dX9_spins_19 2 rfl ?_
      refine r_iaddN (pc := 20) 6 x2_1 C dX9_spins_20 rfl rfl ?_
      refine r_iald (pc := 21) (6 + x2_1) C dX9_spins_21 5 rfl rfl (by omega) (by decide) ?_
      refine r_iadd (pc := 22) C dX9_spins_22 ?_
      refine r_istore_n (pc := 23) [(1, .int (x1_1 + (so (6 + x2_1)))), (0, .ref zm), (2, .int (nI x2_1))] C dX9_spins_23 (by decide) rfl ?_
      refine r_iinc (pc := 24) (nI (x2_1 + 1)) [(2, .int (nI (x2_1 + 1))), (1, .int (x1_1 + (so (6 + x2_1)))), (0, .ref zm)] C dX9_spins_24 2 rfl (inc1 _) (by decide) rfl ?_
      refine r_goto (pc := 27) 4 C dX9_spins_27 (by decide) ?_
      refine u_lv [(0, .ref zm), (1, .int (x1_1 + (so (6 + x2_1)))), (2, .int (nI (x2_1 + 1)))] [2, 1, 0] rfl ?_
      exact ih (x1_1 + (so (6 + x2_1))) (x2_1 + 1) (by omega) (by rw [← hV1]; first | rfl | (simp only [lX9_spins_4]; done) | (simp [lX9_spins_4]; done))
  refine u_lv [(0, .ref zm), (1, .int 0), (2, .int 0)] [2, 1, 0] rfl ?_
  exact hL1 mt 0 0 (by omega) rfl
theorem ctX9_spins (l : Launch) (g : Gl) (zm : Nat) (za1 : Nat) (za2 : Nat) (za3 : Nat) (za4 : Nat) (za5 : Nat) (za6 : Nat) (za7 : Nat) (za8 : Nat) (za9 : Nat) (zaa : Nat) (mp : Int32) (mt : Nat) (ml : Int32) (md : Nat → Int32) (np : Int32) (nt : Nat) (nl : Int32) (nP : Nat → Int32) (nS : Nat → Int32) (nD : Nat → Int32) (so : Nat → Int32) (ac : Nat) (mk : Nat → Int32) (mn : Nat) (mx : Nat → Int32) (nx : Nat) (mq : Nat) (mv : Int32) (wr : Int32) (ts : Int32) (sn : Nat) (sF : Nat → Int32) (sB : Nat → Int32) (sS : Nat → Int32) (mm : Int64) (q0 : mt ≤ 6) : CtI l g yX9_spins cX9_spins 3 (some .int) 0 [.ref zm] (fl [wMod g zm za1 za2 za3 za4 za5 za6 za7 za8 za9 zaa mp mt ml md np nt nl nP nS nD so ac mk mn mx nx mq mv wr ts sn sF sB sS mm]) (fX9_spins mt so) (fl [wMod g zm za1 za2 za3 za4 za5 za6 za7 za8 za9 zaa mp mt ml md np nt nl nP nS nD so ac mk mn mx nx mq mv wr ts sn sF sB sS mm]) := mkI .int rfl rfl [(0, .ref zm)] (by decide) (Nat.le_of_ble_eq_true rfl) rfl (fun X C hR => bX9_spins C zm za1 za2 za3 za4 za5 za6 za7 za8 za9 zaa mp mt ml md np nt nl nP nS nD so ac mk mn mx nx mq mv wr ts sn sF sB sS mm q0 hR)

def fX9_now (mp : Int32) (mt : Nat) (ml : Int32) (md : Nat → Int32) (so : Nat → Int32) (ac : Nat) (w : Int32) : (Int32) × (Nat → Int32) := (let r_1 : Int32 := fX9_in (((w : Int32)).toInt64) 0 5; if r_1 = 0 then (((-1), so)) else (if w = 0 then (((so 13), so)) else (if w = 1 then (((so 14), so)) else (if w = 2 then (((so 12), so)) else (if w = 3 then (let r_12 : Int32 := fX9_spins mt so; (r_12, so)) else (if w = 4 then (let r_9 : Int32 := (fX9_last mp mt ml md so).1; let so_10 : Nat → Int32 := (fX9_last mp mt ml md so).2; (r_9, so_10)) else (((nI ac), so))))))))
set_option maxHeartbeats 4000000 in
set_option maxRecDepth 100000 in
theorem bX9_now {l : Launch} {g : Gl} {X : Cx} (C : Ok l g X RX9 cX9_now 2 6) (zm : Nat) (za1 : Nat) (za2 : Nat) (za3 : Nat) (za4 : Nat) (za5 : Nat) (za6 : Nat) (za7 : Nat) (za8 : Nat) (za9 : Nat) (zaa : Nat) (mp : Int32) (mt : Nat) (ml : Int32) (md : Nat → Int32) (np : Int32) (nt : Nat) (nl : Int32) (nP : Nat → Int32) (nS : Nat → Int32) (nD : Nat → Int32) (so : Nat → Int32) (ac : Nat) (mk : Nat → Int32) (mn : Nat) (mx : Nat → Int32) (nx : Nat) (mq : Nat) (mv : Int32) (wr : Int32) (ts : Int32) (sn : Nat) (sF : Nat → Int32) (sB : Nat → Int32) (sS : Nat → Int32) (mm : Int64) (w : Int32) (q0 : mt ≤ 6) (q1 : ¬ mp = 0) (hR : RetI g X cX9_now 2 0 0 ((fX9_now mp mt ml md so ac w).1) (fl [wMod g zm za1 za2 za3 za4 za5 za6 za7 za8 za9 zaa mp mt ml md np nt nl nP nS nD ((fX9_now mp mt ml md so ac w).2) ac mk mn mx nx mq mv wr ts sn sF sB sS mm])) : Vw g X 2 0 0 (fl [wMod g zm za1 za2 za3 za4 za5 za6 za7 za8 za9 zaa mp mt ml md np nt nl nP nS nD so ac mk mn mx nx mq mv wr ts sn sF sB sS mm]) 0 [(0, .ref zm), (1, .int w)] [] := by
  refine r_iload_n (pc := 0) C dX9_now_0 1 rfl ?_
  refine r_i2l (pc := 1) C dX9_now_1 ?_
  refine r_lconst (pc := 2) 0 C dX9_now_2 rfl ?_
  refine r_ldc2 (pc := 3) C dX9_now_3 kl_X9_153 ?_
  obtain ⟨r_1, e_r_1⟩ : ∃ z : Int32, z = fX9_in (((w : Int32)).toInt64) 0 5 := ⟨_, rfl⟩
  have K_2 := ctX9_in l g   (((w : Int32)).toInt64) 0 5 
  rw [← e_r_1] at K_2
  refine x_pI (pc := 6) C ms_X9_50 K_2 dX9_now_6 (by decide) [] rfl (by decide) rfl (Nat.le_of_ble_eq_true rfl) ⟨Nat.zero_le _, Nat.zero_le _⟩ ?_
  refine r_ifne (pc := 9) 14 C dX9_now_9 (by decide) (fun c_3 => ?_) (fun c_3 => ?_)
  · refine r_iload_n (pc := 14) C dX9_now_14 1 rfl ?_
    refine r_ifne (pc := 15) 28 C dX9_now_15 (by decide) (fun c_4 => ?_) (fun c_4 => ?_)
    · refine r_iload_n (pc := 28) C dX9_now_28 1 rfl ?_
      refine r_iconst (pc := 29) 1 C dX9_now_29 rfl ?_
      refine r_icmpne (pc := 30) 43 C dX9_now_30 (by decide) (fun c_5 => ?_) (fun c_5 => ?_)
      · refine r_iload_n (pc := 43) C dX9_now_43 1 rfl ?_
        refine r_iconst (pc := 44) 2 C dX9_now_44 rfl ?_
        refine r_icmpne (pc := 45) 58 C dX9_now_45 (by decide) (fun c_6 => ?_) (fun c_6 => ?_)
        · refine r_iload_n (pc := 58) C dX9_now_58 1 rfl ?_
          refine r_iconst (pc := 59) 3 C dX9_now_59 rfl ?_
          refine r_icmpne (pc := 60) 70 C dX9_now_60 (by decide) (fun c_7 => ?_) (fun c_7 => ?_)
          · refine r_iload_n (pc := 70) C dX9_now_70 1 rfl ?_
            refine r_iconst (pc := 71) 4 C dX9_now_71 rfl ?_
            refine r_icmpne (pc := 72) 82 C dX9_now_72 (by decide) (fun c_8 => ?_) (fun c_8 => ?_)
            · refine r_aload_n (pc := 82) C dX9_now_82 0 rfl ?_
              refine r_get (pc := 83) C fl_X9_111 dX9_now_83 0 rfl rfl ?_
              have hf : fX9_now mp mt ml md so ac w = ((nI ac), so) := by first | (simp only [fX9_now, ← e_r_1, if_neg c_3, if_neg c_4, if_neg c_5, if_neg c_6, if_neg c_7, if_neg c_8]; done) | (subst e_r_1; simp only [fX9_now, if_neg c_3, if_neg c_4, if_neg c_5, if_neg c_6, if_neg c_7, if_neg c_8]; done) | (subst e_r_1; rfl) | (subst e_r_1; simp [fX9_now, if_neg c_3, if_neg c_4, if_neg c_5, if_neg c_6, if_neg c_7, if_neg c_8]; done)
              rw [hf] at hR
              exact hR _ _ dX9_now_86
            · refine r_aload_n (pc := 75) C dX9_now_75 0 rfl ?_
              obtain ⟨r_9, e_r_9⟩ : ∃ z : Int32, z = (fX9_last mp mt ml md so).1 := ⟨_, rfl⟩
              obtain ⟨so_10, e_so_10⟩ : ∃ z : Nat → Int32, z = (fX9_last mp mt ml md so).2 := ⟨_, rfl⟩
              have K_11 := ctX9_last l g zm za1 za2 za3 za4 za5 za6 za7 za8 za9 zaa mp mt ml md np nt nl nP nS nD so ac mk mn mx nx mq mv wr ts sn sF sB sS mm  (by omega) (by assumption)
              rw [← e_r_9, ← e_so_10] at K_11
              refine w_cI (pc := 76) [wMod g zm za1 za2 za3 za4 za5 za6 za7 za8 za9 zaa mp mt ml md np nt nl nP nS nD so_10 ac mk mn mx nx mq mv wr ts sn sF sB sS mm] C mv_X9_158 K_11 dX9_now_76 (by decide) [0] rfl (by decide) (by simp only [List.map_cons, List.map_nil, adMod]) rfl 0 rfl rfl (Nat.le_of_ble_eq_true rfl) ⟨Nat.zero_le _, Nat.zero_le _⟩ ?_
              refine r_goto (pc := 79) 86 C dX9_now_79 (by decide) ?_
              have hf : fX9_now mp mt ml md so ac w = (r_9, so_10) := by first | (simp only [fX9_now, ← e_r_1, ← e_r_9, ← e_so_10, if_neg c_3, if_neg c_4, if_neg c_5, if_neg c_6, if_neg c_7, if_pos c_8]; done) | (subst e_r_1 e_r_9 e_so_10; simp only [fX9_now, if_neg c_3, if_neg c_4, if_neg c_5, if_neg c_6, if_neg c_7, if_pos c_8]; done) | (subst e_r_1 e_r_9 e_so_10; rfl) | (subst e_r_1 e_r_9 e_so_10; simp [fX9_now, if_neg c_3, if_neg c_4, if_neg c_5, if_neg c_6, if_neg c_7, if_pos c_8]; done)
              rw [hf] at hR
              exact hR _ _ dX9_now_86
          · refine r_aload_n (pc := 63) C dX9_now_63 0 rfl ?_
            obtain ⟨r_12, e_r_12⟩ : ∃ z : Int32, z = fX9_spins mt so := ⟨_, rfl⟩
            have K_13 := ctX9_spins l g zm za1 za2 za3 za4 za5 za6 za7 za8 za9 zaa mp mt ml md np nt nl nP nS nD so ac mk mn mx nx mq mv wr ts sn sF sB sS mm  (by omega)
            rw [← e_r_12] at K_13
            refine w_pI (pc := 64) C mv_X9_155 K_13 dX9_now_64 (by decide) [0] rfl (by decide) 0 rfl rfl (Nat.le_of_ble_eq_true rfl) ⟨Nat.zero_le _, Nat.zero_le _⟩ ?_
            refine r_goto (pc := 67) 86 C dX9_now_67 (by decide) ?_
            have hf : fX9_now mp mt ml md so ac w = (r_12, so) := by first | (simp only [fX9_now, ← e_r_1, ← e_r_12, if_neg c_3, if_neg c_4, if_neg c_5, if_neg c_6, if_pos c_7]; done) | (subst e_r_1 e_r_12; simp only [fX9_now, if_neg c_3, if_neg c_4, if_neg c_5, if_neg c_6, if_pos c_7]; done) | (subst e_r_1 e_r_12; rfl) | (subst e_r_1 e_r_12; simp [fX9_now, if_neg c_3, if_neg c_4, if_neg c_5, if_neg c_6, if_pos c_7]; done)
            rw [hf] at hR
            exact hR _ _ dX9_now_86
        · refine r_aload_n (pc := 48) C dX9_now_48 0 rfl ?_
          refine r_get (pc := 49) C fl_X9_29 dX9_now_49 0 rfl rfl ?_
          refine r_bipush (pc := 52) 12 C dX9_now_52 rfl ?_
          refine r_iald (pc := 54) 12 C dX9_now_54 5 rfl rfl (by omega) (by decide) ?_
          refine r_goto (pc := 55) 86 C dX9_now_55 (by decide) ?_
          have hf : fX9_now mp mt ml md so ac w = ((so 12), so) := by first | (simp only [fX9_now, ← e_r_1, if_neg c_3, if_neg c_4, if_neg c_5, if_pos c_6]; done) | (subst e_r_1; simp only [fX9_now, if_neg c_3, if_neg c_4, if_neg c_5, if_pos c_6]; done) | (subst e_r_1; rfl) | (subst e_r_1; simp [fX9_now, if_neg c_3, if_neg c_4, if_neg c_5, if_pos c_6]; done)
          rw [hf] at hR
          exact hR _ _ dX9_now_86
      · refine r_aload_n (pc := 33) C dX9_now_33 0 rfl ?_
        refine r_get (pc := 34) C fl_X9_29 dX9_now_34 0 rfl rfl ?_
        refine r_bipush (pc := 37) 14 C dX9_now_37 rfl ?_
        refine r_iald (pc := 39) 14 C dX9_now_39 5 rfl rfl (by omega) (by decide) ?_
        refine r_goto (pc := 40) 86 C dX9_now_40 (by decide) ?_
        have hf : fX9_now mp mt ml md so ac w = ((so 14), so) := by first | (simp only [fX9_now, ← e_r_1, if_neg c_3, if_neg c_4, if_pos c_5]; done) | (subst e_r_1; simp only [fX9_now, if_neg c_3, if_neg c_4, if_pos c_5]; done) | (subst e_r_1; rfl) | (subst e_r_1; simp [fX9_now, if_neg c_3, if_neg c_4, if_pos c_5]; done)
        rw [hf] at hR
        exact hR _ _ dX9_now_86
    · refine r_aload_n (pc := 18) C dX9_now_18 0 rfl ?_
      refine r_get (pc := 19) C fl_X9_29 dX9_now_19 0 rfl rfl ?_
      refine r_bipush (pc := 22) 13 C dX9_now_22 rfl ?_
      refine r_iald (pc := 24) 13 C dX9_now_24 5 rfl rfl (by omega) (by decide) ?_
      refine r_goto (pc := 25) 86 C dX9_now_25 (by decide) ?_
      have hf : fX9_now mp mt ml md so ac w = ((so 13), so) := by first | (simp only [fX9_now, ← e_r_1, if_neg c_3, if_pos c_4]; done) | (subst e_r_1; simp only [fX9_now, if_neg c_3, if_pos c_4]; done) | (subst e_r_1; rfl) | (subst e_r_1; simp [fX9_now, if_neg c_3, if_pos c_4]; done)
      rw [hf] at hR
      exact hR _ _ dX9_now_86
  · refine r_iconst (pc := 12) (-1) C dX9_now_12 rfl ?_
    have hf : fX9_now mp mt ml md so ac w = ((-1), so) := by first | (simp only [fX9_now, ← e_r_1, if_pos c_3]; done) | (subst e_r_1; simp only [fX9_now, if_pos c_3]; done) | (subst e_r_1; rfl) | (subst e_r_1; simp [fX9_now, if_pos c_3]; done)
    rw [hf] at hR
    exact hR _ _ dX9_now_13
theorem ctX9_now (l : Launch) (g : Gl) (zm : Nat) (za1 : Nat) (za2 : Nat) (za3 : Nat) (za4 : Nat) (za5 : Nat) (za6 : Nat) (za7 : Nat) (za8 : Nat) (za9 : Nat) (zaa : Nat) (mp : Int32) (mt : Nat) (ml : Int32) (md : Nat → Int32) (np : Int32) (nt : Nat) (nl : Int32) (nP : Nat → Int32) (nS : Nat → Int32) (nD : Nat → Int32) (so : Nat → Int32) (ac : Nat) (mk : Nat → Int32) (mn : Nat) (mx : Nat → Int32) (nx : Nat) (mq : Nat) (mv : Int32) (wr : Int32) (ts : Int32) (sn : Nat) (sF : Nat → Int32) (sB : Nat → Int32) (sS : Nat → Int32) (mm : Int64) (w : Int32) (q0 : mt ≤ 6) (q1 : ¬ mp = 0) : CtI l g yX9_now cX9_now 2 (some .int) 6 [.ref zm, .int w] (fl [wMod g zm za1 za2 za3 za4 za5 za6 za7 za8 za9 zaa mp mt ml md np nt nl nP nS nD so ac mk mn mx nx mq mv wr ts sn sF sB sS mm]) ((fX9_now mp mt ml md so ac w).1) (fl [wMod g zm za1 za2 za3 za4 za5 za6 za7 za8 za9 zaa mp mt ml md np nt nl nP nS nD ((fX9_now mp mt ml md so ac w).2) ac mk mn mx nx mq mv wr ts sn sF sB sS mm]) := mkI .int rfl rfl [(0, .ref zm), (1, .int w)] (by decide) (Nat.le_of_ble_eq_true rfl) rfl (fun X C hR => bX9_now C zm za1 za2 za3 za4 za5 za6 za7 za8 za9 zaa mp mt ml md np nt nl nP nS nD so ac mk mn mx nx mq mv wr ts sn sF sB sS mm w q0 q1 hR)

def fX9_beats (mp : Int32) (mt : Nat) (ml : Int32) (md : Nat → Int32) (so : Nat → Int32) (ac : Nat) : (Int32) × (Nat → Int32) × (Nat) := (if (so 13) = 999 then (((-2), so, ac)) else (let so_2 : Nat → Int32 := (fX9_known so ac).1; let ac_3 : Nat := (fX9_known so ac).2; let r_5 : Int32 := fX9_bits (so_2 12); let so_7 : Nat → Int32 := fX9_beat mp mt ml md so_2 0; let r_9 : Int32 := fX9_bits (so_7 12); ((r_5 - r_9), so_7, ac_3)))
set_option maxHeartbeats 4000000 in
set_option maxRecDepth 100000 in
theorem bX9_beats {l : Launch} {g : Gl} {X : Cx} (C : Ok l g X RX9 cX9_beats 2 4) (zm : Nat) (za1 : Nat) (za2 : Nat) (za3 : Nat) (za4 : Nat) (za5 : Nat) (za6 : Nat) (za7 : Nat) (za8 : Nat) (za9 : Nat) (zaa : Nat) (mp : Int32) (mt : Nat) (ml : Int32) (md : Nat → Int32) (np : Int32) (nt : Nat) (nl : Int32) (nP : Nat → Int32) (nS : Nat → Int32) (nD : Nat → Int32) (so : Nat → Int32) (ac : Nat) (mk : Nat → Int32) (mn : Nat) (mx : Nat → Int32) (nx : Nat) (mq : Nat) (mv : Int32) (wr : Int32) (ts : Int32) (sn : Nat) (sF : Nat → Int32) (sB : Nat → Int32) (sS : Nat → Int32) (mm : Int64) (q0 : mt ≤ 6) (q1 : ¬ mp = 0) (q2 : ac ≤ 10) (hR : RetI g X cX9_beats 2 0 0 ((fX9_beats mp mt ml md so ac).1) (fl [wMod g zm za1 za2 za3 za4 za5 za6 za7 za8 za9 zaa mp mt ml md np nt nl nP nS nD ((fX9_beats mp mt ml md so ac).2.1) ((fX9_beats mp mt ml md so ac).2.2) mk mn mx nx mq mv wr ts sn sF sB sS mm])) : Vw g X 2 0 0 (fl [wMod g zm za1 za2 za3 za4 za5 za6 za7 za8 za9 zaa mp mt ml md np nt nl nP nS nD so ac mk mn mx nx mq mv wr ts sn sF sB sS mm]) 0 [(0, .ref zm)] [] := by
  refine r_aload_n (pc := 0) C dX9_beats_0 0 rfl ?_
  refine r_get (pc := 1) C fl_X9_29 dX9_beats_1 0 rfl rfl ?_
  refine r_bipush (pc := 4) 13 C dX9_beats_4 rfl ?_
  refine r_iald (pc := 6) 13 C dX9_beats_6 5 rfl rfl (by omega) (by decide) ?_
  refine r_sipush (pc := 7) 999 C dX9_beats_7 rfl ?_
  refine r_icmpne (pc := 10) 16 C dX9_beats_10 (by decide) (fun c_1 => ?_) (fun c_1 => ?_)
  · refine r_aload_n (pc := 16) C dX9_beats_16 0 rfl ?_
    obtain ⟨so_2, e_so_2⟩ : ∃ z : Nat → Int32, z = (fX9_known so ac).1 := ⟨_, rfl⟩
    obtain ⟨ac_3, e_ac_3⟩ : ∃ z : Nat, z = (fX9_known so ac).2 := ⟨_, rfl⟩
    have K_4 := ctX9_known l g zm za1 za2 za3 za4 za5 za6 za7 za8 za9 zaa mp mt ml md np nt nl nP nS nD so ac mk mn mx nx mq mv wr ts sn sF sB sS mm  (by omega)
    rw [← e_so_2, ← e_ac_3] at K_4
    refine w_cV (pc := 17) [wMod g zm za1 za2 za3 za4 za5 za6 za7 za8 za9 zaa mp mt ml md np nt nl nP nS nD so_2 ac_3 mk mn mx nx mq mv wr ts sn sF sB sS mm] C mv_X9_161 K_4 dX9_beats_17 (by decide) [0] rfl (by decide) (by simp only [List.map_cons, List.map_nil, adMod]) rfl 0 rfl rfl (Nat.le_of_ble_eq_true rfl) ⟨Nat.zero_le _, Nat.zero_le _⟩ ?_
    refine r_aload_n (pc := 20) C dX9_beats_20 0 rfl ?_
    refine r_get (pc := 21) C fl_X9_29 dX9_beats_21 0 rfl rfl ?_
    refine r_bipush (pc := 24) 12 C dX9_beats_24 rfl ?_
    refine r_iald (pc := 26) 12 C dX9_beats_26 5 rfl rfl (by omega) (by decide) ?_
    obtain ⟨r_5, e_r_5⟩ : ∃ z : Int32, z = fX9_bits (so_2 12) := ⟨_, rfl⟩
    have K_6 := ctX9_bits l g   (so_2 12) 
    rw [← e_r_5] at K_6
    refine x_pI (pc := 27) C ms_X9_164 K_6 dX9_beats_27 (by decide) [] rfl (by decide) rfl (Nat.le_of_ble_eq_true rfl) ⟨Nat.zero_le _, Nat.zero_le _⟩ ?_
    refine r_istore_n (pc := 30) [(1, .int r_5), (0, .ref zm)] C dX9_beats_30 (by decide) rfl ?_
    refine r_aload_n (pc := 31) C dX9_beats_31 1 rfl ?_
    refine r_iconst (pc := 32) 0 C dX9_beats_32 rfl ?_
    obtain ⟨so_7, e_so_7⟩ : ∃ z : Nat → Int32, z = fX9_beat mp mt ml md so_2 0 := ⟨_, rfl⟩
    have K_8 := ctX9_beat l g zm za1 za2 za3 za4 za5 za6 za7 za8 za9 zaa mp mt ml md np nt nl nP nS nD so_2 ac_3 mk mn mx nx mq mv wr ts sn sF sB sS mm 0 (by omega) (by omega) (by assumption)
    rw [← e_so_7] at K_8
    refine w_cV (pc := 33) [wMod g zm za1 za2 za3 za4 za5 za6 za7 za8 za9 zaa mp mt ml md np nt nl nP nS nD so_7 ac_3 mk mn mx nx mq mv wr ts sn sF sB sS mm] C mv_X9_134 K_8 dX9_beats_33 (by decide) [0] rfl (by decide) (by simp only [List.map_cons, List.map_nil, adMod]) rfl 0 rfl rfl (Nat.le_of_ble_eq_true rfl) ⟨Nat.zero_le _, Nat.zero_le _⟩ ?_
    refine r_iload_n (pc := 36) C dX9_beats_36 0 rfl ?_
    refine r_aload_n (pc := 37) C dX9_beats_37 1 rfl ?_
    refine r_get (pc := 38) C fl_X9_29 dX9_beats_38 0 rfl rfl ?_
    refine r_bipush (pc := 41) 12 C dX9_beats_41 rfl ?_
    refine r_iald (pc := 43) 12 C dX9_beats_43 5 rfl rfl (by omega) (by decide) ?_
    obtain ⟨r_9, e_r_9⟩ : ∃ z : Int32, z = fX9_bits (so_7 12) := ⟨_, rfl⟩
    have K_10 := ctX9_bits l g   (so_7 12) 
    rw [← e_r_9] at K_10
    refine x_pI (pc := 44) C ms_X9_164 K_10 dX9_beats_44 (by decide) [] rfl (by decide) rfl (Nat.le_of_ble_eq_true rfl) ⟨Nat.zero_le _, Nat.zero_le _⟩ ?_
    refine r_isub (pc := 47) C dX9_beats_47 ?_
    have hf : fX9_beats mp mt ml md so ac = ((r_5 - r_9), so_7, ac_3) := by first | (simp only [fX9_beats, ← e_so_2, ← e_ac_3, ← e_r_5, ← e_so_7, ← e_r_9, if_neg c_1]; done) | (subst e_so_2 e_ac_3 e_r_5 e_so_7 e_r_9; simp only [fX9_beats, if_neg c_1]; done) | (subst e_so_2 e_ac_3 e_r_5 e_so_7 e_r_9; rfl) | (subst e_so_2 e_ac_3 e_r_5 e_so_7 e_r_9; simp [fX9_beats, if_neg c_1]; done)
    rw [hf] at hR
    exact hR _ _ dX9_beats_48
  · refine r_bipush (pc := 13) (-2) C dX9_beats_13 rfl ?_
    have hf : fX9_beats mp mt ml md so ac = ((-2), so, ac) := by first | (simp only [fX9_beats, if_pos c_1]; done) | rfl | (simp [fX9_beats, if_pos c_1]; done)
    rw [hf] at hR
    exact hR _ _ dX9_beats_15
theorem ctX9_beats (l : Launch) (g : Gl) (zm : Nat) (za1 : Nat) (za2 : Nat) (za3 : Nat) (za4 : Nat) (za5 : Nat) (za6 : Nat) (za7 : Nat) (za8 : Nat) (za9 : Nat) (zaa : Nat) (mp : Int32) (mt : Nat) (ml : Int32) (md : Nat → Int32) (np : Int32) (nt : Nat) (nl : Int32) (nP : Nat → Int32) (nS : Nat → Int32) (nD : Nat → Int32) (so : Nat → Int32) (ac : Nat) (mk : Nat → Int32) (mn : Nat) (mx : Nat → Int32) (nx : Nat) (mq : Nat) (mv : Int32) (wr : Int32) (ts : Int32) (sn : Nat) (sF : Nat → Int32) (sB : Nat → Int32) (sS : Nat → Int32) (mm : Int64) (q0 : mt ≤ 6) (q1 : ¬ mp = 0) (q2 : ac ≤ 10) : CtI l g yX9_beats cX9_beats 2 (some .int) 4 [.ref zm] (fl [wMod g zm za1 za2 za3 za4 za5 za6 za7 za8 za9 zaa mp mt ml md np nt nl nP nS nD so ac mk mn mx nx mq mv wr ts sn sF sB sS mm]) ((fX9_beats mp mt ml md so ac).1) (fl [wMod g zm za1 za2 za3 za4 za5 za6 za7 za8 za9 zaa mp mt ml md np nt nl nP nS nD ((fX9_beats mp mt ml md so ac).2.1) ((fX9_beats mp mt ml md so ac).2.2) mk mn mx nx mq mv wr ts sn sF sB sS mm]) := mkI .int rfl rfl [(0, .ref zm)] (by decide) (Nat.le_of_ble_eq_true rfl) rfl (fun X C hR => bX9_beats C zm za1 za2 za3 za4 za5 za6 za7 za8 za9 zaa mp mt ml md np nt nl nP nS nD so ac mk mn mx nx mq mv wr ts sn sF sB sS mm q0 q1 q2 hR)

def fX9_whipped (so : Nat → Int32) (b0 : Nat) (t : Nat) (v : Int32) : (Nat → Int32) := (let w_2 : Int32 := (if ((so ((b0 + 6) + t)) + v) ≤ 60 then (((so ((b0 + 6) + t)) + v)) else (60)); let so_4 : Nat → Int32 := upd so ((b0 + 6) + t) w_2; so_4)
set_option maxHeartbeats 4000000 in
set_option maxRecDepth 100000 in
theorem bX9_whipped {l : Launch} {g : Gl} {X : Cx} (C : Ok l g X RX9 cX9_whipped 4 0) (zm : Nat) (za1 : Nat) (za2 : Nat) (za3 : Nat) (za4 : Nat) (za5 : Nat) (za6 : Nat) (za7 : Nat) (za8 : Nat) (za9 : Nat) (zaa : Nat) (mp : Int32) (mt : Nat) (ml : Int32) (md : Nat → Int32) (np : Int32) (nt : Nat) (nl : Int32) (nP : Nat → Int32) (nS : Nat → Int32) (nD : Nat → Int32) (so : Nat → Int32) (ac : Nat) (mk : Nat → Int32) (mn : Nat) (mx : Nat → Int32) (nx : Nat) (mq : Nat) (mv : Int32) (wr : Int32) (ts : Int32) (sn : Nat) (sF : Nat → Int32) (sB : Nat → Int32) (sS : Nat → Int32) (mm : Int64) (b0 : Nat) (t : Nat) (v : Int32) (q0 : b0 + 15 ≤ 210) (q1 : t < 6) (hR : RetV g X cX9_whipped 4 0 0 (fl [wMod g zm za1 za2 za3 za4 za5 za6 za7 za8 za9 zaa mp mt ml md np nt nl nP nS nD (fX9_whipped so b0 t v) ac mk mn mx nx mq mv wr ts sn sF sB sS mm])) : Vw g X 4 0 0 (fl [wMod g zm za1 za2 za3 za4 za5 za6 za7 za8 za9 zaa mp mt ml md np nt nl nP nS nD so ac mk mn mx nx mq mv wr ts sn sF sB sS mm]) 0 [(0, .ref zm), (1, .int (nI b0)), (2, .int (nI t)), (3, .int v)] [] := by
  refine r_aload_n (pc := 0) C dX9_whipped_0 0 rfl ?_
  refine r_get (pc := 1) C fl_X9_29 dX9_whipped_1 0 rfl rfl ?_
  refine r_iload_n (pc := 4) C dX9_whipped_4 1 rfl ?_
  refine r_bipush (pc := 5) 6 C dX9_whipped_5 rfl ?_
  refine r_iaddN (pc := 7) b0 6 C dX9_whipped_7 rfl rfl ?_
  refine r_iload_n (pc := 8) C dX9_whipped_8 2 rfl ?_
  refine r_iaddN (pc := 9) (b0 + 6) t C dX9_whipped_9 rfl rfl ?_
  refine r_aload_n (pc := 10) C dX9_whipped_10 0 rfl ?_
  refine r_get (pc := 11) C fl_X9_29 dX9_whipped_11 0 rfl rfl ?_
  refine r_iload_n (pc := 14) C dX9_whipped_14 1 rfl ?_
  refine r_bipush (pc := 15) 6 C dX9_whipped_15 rfl ?_
  refine r_iaddN (pc := 17) b0 6 C dX9_whipped_17 rfl rfl ?_
  refine r_iload_n (pc := 18) C dX9_whipped_18 2 rfl ?_
  refine r_iaddN (pc := 19) (b0 + 6) t C dX9_whipped_19 rfl rfl ?_
  refine r_iald (pc := 20) ((b0 + 6) + t) C dX9_whipped_20 5 rfl rfl (by omega) (by decide) ?_
  refine r_iload_n (pc := 21) C dX9_whipped_21 3 rfl ?_
  refine r_iadd (pc := 22) C dX9_whipped_22 ?_
  refine r_bipush (pc := 23) 60 C dX9_whipped_23 rfl ?_
  have hJ_3 : ∀ (w_2 : Int32) , (w_2 = (if ((so ((b0 + 6) + t)) + v) ≤ 60 then (((so ((b0 + 6) + t)) + v)) else (60))) → Vw g X 4 0 0 (fl [wMod g zm za1 za2 za3 za4 za5 za6 za7 za8 za9 zaa mp mt ml md np nt nl nP nS nD so ac mk mn mx nx mq mv wr ts sn sF sB sS mm]) 46 [] [.int w_2, .int (nI ((b0 + 6) + t)), .ref za5] := by
    intro w_2 e_w_2
    obtain ⟨so_4, e_so_4⟩ : ∃ z : Nat → Int32, z = upd so ((b0 + 6) + t) w_2 := ⟨_, rfl⟩
    refine r_iast (pc := 46) ((b0 + 6) + t) (fl [wMod g zm za1 za2 za3 za4 za5 za6 za7 za8 za9 zaa mp mt ml md np nt nl nP nS nD so_4 ac mk mn mx nx mq mv wr ts sn sF sB sS mm]) C dX9_whipped_46 5 rfl rfl (by omega) (by decide) (by rw [← e_so_4]; rfl) ?_
    have hf : fX9_whipped so b0 t v = so_4 := by first | (simp only [fX9_whipped, ← e_w_2, ← e_so_4]; done) | (subst e_w_2 e_so_4; rfl) | (subst e_w_2 e_so_4; simp only [fX9_whipped]; done)
    rw [hf] at hR
    exact hR _ _ dX9_whipped_47
  refine r_icmple (pc := 25) 33 C dX9_whipped_25 (by decide) (fun c_1 => ?_) (fun c_1 => ?_)
  · refine r_aload_n (pc := 33) C dX9_whipped_33 0 rfl ?_
    refine r_get (pc := 34) C fl_X9_29 dX9_whipped_34 0 rfl rfl ?_
    refine r_iload_n (pc := 37) C dX9_whipped_37 1 rfl ?_
    refine r_bipush (pc := 38) 6 C dX9_whipped_38 rfl ?_
    refine r_iaddN (pc := 40) b0 6 C dX9_whipped_40 rfl rfl ?_
    refine r_iload_n (pc := 41) C dX9_whipped_41 2 rfl ?_
    refine r_iaddN (pc := 42) (b0 + 6) t C dX9_whipped_42 rfl rfl ?_
    refine r_iald (pc := 43) ((b0 + 6) + t) C dX9_whipped_43 5 rfl rfl (by omega) (by decide) ?_
    refine r_iload_n (pc := 44) C dX9_whipped_44 3 rfl ?_
    refine r_iadd (pc := 45) C dX9_whipped_45 ?_
    refine u_lv [] [] rfl ?_
    exact hJ_3 _ (by first | (simp only [if_pos c_1]; done) | rfl | (simp [if_pos c_1]; done))
  · refine r_bipush (pc := 28) 60 C dX9_whipped_28 rfl ?_
    refine r_goto (pc := 30) 46 C dX9_whipped_30 (by decide) ?_
    refine u_lv [] [] rfl ?_
    exact hJ_3 _ (by first | (simp only [if_neg c_1]; done) | rfl | (simp [if_neg c_1]; done))
theorem ctX9_whipped (l : Launch) (g : Gl) (zm : Nat) (za1 : Nat) (za2 : Nat) (za3 : Nat) (za4 : Nat) (za5 : Nat) (za6 : Nat) (za7 : Nat) (za8 : Nat) (za9 : Nat) (zaa : Nat) (mp : Int32) (mt : Nat) (ml : Int32) (md : Nat → Int32) (np : Int32) (nt : Nat) (nl : Int32) (nP : Nat → Int32) (nS : Nat → Int32) (nD : Nat → Int32) (so : Nat → Int32) (ac : Nat) (mk : Nat → Int32) (mn : Nat) (mx : Nat → Int32) (nx : Nat) (mq : Nat) (mv : Int32) (wr : Int32) (ts : Int32) (sn : Nat) (sF : Nat → Int32) (sB : Nat → Int32) (sS : Nat → Int32) (mm : Int64) (b0 : Nat) (t : Nat) (v : Int32) (q0 : b0 + 15 ≤ 210) (q1 : t < 6) : CtV l g yX9_whipped cX9_whipped 4 0 [.ref zm, .int (nI b0), .int (nI t), .int v] (fl [wMod g zm za1 za2 za3 za4 za5 za6 za7 za8 za9 zaa mp mt ml md np nt nl nP nS nD so ac mk mn mx nx mq mv wr ts sn sF sB sS mm]) (fl [wMod g zm za1 za2 za3 za4 za5 za6 za7 za8 za9 zaa mp mt ml md np nt nl nP nS nD (fX9_whipped so b0 t v) ac mk mn mx nx mq mv wr ts sn sF sB sS mm]) := mkV [(0, .ref zm), (1, .int (nI b0)), (2, .int (nI t)), (3, .int v)] (by decide) (Nat.le_of_ble_eq_true rfl) rfl (fun X C hR => bX9_whipped C zm za1 za2 za3 za4 za5 za6 za7 za8 za9 zaa mp mt ml md np nt nl nP nS nD so ac mk mn mx nx mq mv wr ts sn sF sB sS mm b0 t v q0 q1 hR)

def fX9_whips (mt : Nat) (so : Nat → Int32) (ac : Nat) (t : Int32) (v : Int32) : (Int32) × (Nat → Int32) × (Nat) := (let r_1 : Int32 := fX9_isTop mt t; if r_1 = 0 then (((-1), so, ac)) else (let r_4 : Int32 := fX9_in (((v : Int32)).toInt64) 1 20; if r_4 = 0 then (((-1), so, ac)) else (let r_8 : Int32 := fX9_stands so (nI t.toNatClampNeg); if r_8 = 0 then (((-2), so, ac)) else (let so_11 : Nat → Int32 := (fX9_known so ac).1; let ac_12 : Nat := (fX9_known so ac).2; let so_14 : Nat → Int32 := fX9_whipped so_11 0 t.toNatClampNeg v; ((so_14 (6 + t.toNatClampNeg)), so_14, ac_12)))))
set_option maxHeartbeats 4000000 in
set_option maxRecDepth 100000 in
theorem bX9_whips {l : Launch} {g : Gl} {X : Cx} (C : Ok l g X RX9 cX9_whips 3 2) (zm : Nat) (za1 : Nat) (za2 : Nat) (za3 : Nat) (za4 : Nat) (za5 : Nat) (za6 : Nat) (za7 : Nat) (za8 : Nat) (za9 : Nat) (zaa : Nat) (mp : Int32) (mt : Nat) (ml : Int32) (md : Nat → Int32) (np : Int32) (nt : Nat) (nl : Int32) (nP : Nat → Int32) (nS : Nat → Int32) (nD : Nat → Int32) (so : Nat → Int32) (ac : Nat) (mk : Nat → Int32) (mn : Nat) (mx : Nat → Int32) (nx : Nat) (mq : Nat) (mv : Int32) (wr : Int32) (ts : Int32) (sn : Nat) (sF : Nat → Int32) (sB : Nat → Int32) (sS : Nat → Int32) (mm : Int64) (t : Int32) (v : Int32) (q0 : mt ≤ 6) (q1 : ac ≤ 10) (hR : RetI g X cX9_whips 3 0 0 ((fX9_whips mt so ac t v).1) (fl [wMod g zm za1 za2 za3 za4 za5 za6 za7 za8 za9 zaa mp mt ml md np nt nl nP nS nD ((fX9_whips mt so ac t v).2.1) ((fX9_whips mt so ac t v).2.2) mk mn mx nx mq mv wr ts sn sF sB sS mm])) : Vw g X 3 0 0 (fl [wMod g zm za1 za2 za3 za4 za5 za6 za7 za8 za9 zaa mp mt ml md np nt nl nP nS nD so ac mk mn mx nx mq mv wr ts sn sF sB sS mm]) 0 [(0, .ref zm), (1, .int t), (2, .int v)] [] := by
  refine r_aload_n (pc := 0) C dX9_whips_0 0 rfl ?_
  refine r_iload_n (pc := 1) C dX9_whips_1 1 rfl ?_
  obtain ⟨r_1, e_r_1⟩ : ∃ z : Int32, z = fX9_isTop mt t := ⟨_, rfl⟩
  have K_2 := ctX9_isTop l g zm za1 za2 za3 za4 za5 za6 za7 za8 za9 zaa mp mt ml md np nt nl nP nS nD so ac mk mn mx nx mq mv wr ts sn sF sB sS mm t 
  rw [← e_r_1] at K_2
  refine w_pI (pc := 2) C mv_X9_148 K_2 dX9_whips_2 (by decide) [0] rfl (by decide) 0 rfl rfl (Nat.le_of_ble_eq_true rfl) ⟨Nat.zero_le _, Nat.zero_le _⟩ ?_
  refine r_ifeq (pc := 5) 20 C dX9_whips_5 (by decide) (fun c_3 => ?_) (fun c_3 => ?_)
  · refine r_iconst (pc := 20) (-1) C dX9_whips_20 rfl ?_
    have hf : fX9_whips mt so ac t v = ((-1), so, ac) := by first | (simp only [fX9_whips, ← e_r_1, if_pos c_3]; done) | (subst e_r_1; simp only [fX9_whips, if_pos c_3]; done) | (subst e_r_1; rfl) | (subst e_r_1; simp [fX9_whips, if_pos c_3]; done)
    rw [hf] at hR
    exact hR _ _ dX9_whips_21
  · refine r_iload_n (pc := 8) C dX9_whips_8 2 rfl ?_
    refine r_i2l (pc := 9) C dX9_whips_9 ?_
    refine r_lconst (pc := 10) 1 C dX9_whips_10 rfl ?_
    refine r_ldc2 (pc := 11) C dX9_whips_11 kl_X9_167 ?_
    obtain ⟨r_4, e_r_4⟩ : ∃ z : Int32, z = fX9_in (((v : Int32)).toInt64) 1 20 := ⟨_, rfl⟩
    have K_5 := ctX9_in l g   (((v : Int32)).toInt64) 1 20 
    rw [← e_r_4] at K_5
    refine x_pI (pc := 14) C ms_X9_50 K_5 dX9_whips_14 (by decide) [] rfl (by decide) rfl (Nat.le_of_ble_eq_true rfl) ⟨Nat.zero_le _, Nat.zero_le _⟩ ?_
    refine r_ifne (pc := 17) 22 C dX9_whips_17 (by decide) (fun c_6 => ?_) (fun c_6 => ?_)
    · obtain ⟨h_7, qh_7⟩ := natc (x := t) (B := mt) (by omega) (m_isTop_nat (by rw [← e_r_1]; assumption))
      refine u_lvq [(0, .ref zm), (1, .int (nI t.toNatClampNeg)), (2, .int v)] (by rw [qh_7]) ?_
      refine r_aload_n (pc := 22) C dX9_whips_22 0 rfl ?_
      refine r_iload_n (pc := 23) C dX9_whips_23 1 rfl ?_
      obtain ⟨r_8, e_r_8⟩ : ∃ z : Int32, z = fX9_stands so (nI t.toNatClampNeg) := ⟨_, rfl⟩
      have K_9 := ctX9_stands l g zm za1 za2 za3 za4 za5 za6 za7 za8 za9 zaa mp mt ml md np nt nl nP nS nD so ac mk mn mx nx mq mv wr ts sn sF sB sS mm (nI t.toNatClampNeg) 
      rw [← e_r_8] at K_9
      refine w_pI (pc := 24) C mv_X9_138 K_9 dX9_whips_24 (by decide) [0] rfl (by decide) 0 rfl rfl (Nat.le_of_ble_eq_true rfl) ⟨Nat.zero_le _, Nat.zero_le _⟩ ?_
      refine r_ifne (pc := 27) 33 C dX9_whips_27 (by decide) (fun c_10 => ?_) (fun c_10 => ?_)
      · refine r_aload_n (pc := 33) C dX9_whips_33 0 rfl ?_
        obtain ⟨so_11, e_so_11⟩ : ∃ z : Nat → Int32, z = (fX9_known so ac).1 := ⟨_, rfl⟩
        obtain ⟨ac_12, e_ac_12⟩ : ∃ z : Nat, z = (fX9_known so ac).2 := ⟨_, rfl⟩
        have K_13 := ctX9_known l g zm za1 za2 za3 za4 za5 za6 za7 za8 za9 zaa mp mt ml md np nt nl nP nS nD so ac mk mn mx nx mq mv wr ts sn sF sB sS mm  (by omega)
        rw [← e_so_11, ← e_ac_12] at K_13
        refine w_cV (pc := 34) [wMod g zm za1 za2 za3 za4 za5 za6 za7 za8 za9 zaa mp mt ml md np nt nl nP nS nD so_11 ac_12 mk mn mx nx mq mv wr ts sn sF sB sS mm] C mv_X9_161 K_13 dX9_whips_34 (by decide) [0] rfl (by decide) (by simp only [List.map_cons, List.map_nil, adMod]) rfl 0 rfl rfl (Nat.le_of_ble_eq_true rfl) ⟨Nat.zero_le _, Nat.zero_le _⟩ ?_
        refine r_aload_n (pc := 37) C dX9_whips_37 0 rfl ?_
        refine r_iconst (pc := 38) 0 C dX9_whips_38 rfl ?_
        refine r_iload_n (pc := 39) C dX9_whips_39 1 rfl ?_
        refine r_iload_n (pc := 40) C dX9_whips_40 2 rfl ?_
        obtain ⟨so_14, e_so_14⟩ : ∃ z : Nat → Int32, z = fX9_whipped so_11 0 t.toNatClampNeg v := ⟨_, rfl⟩
        have K_15 := ctX9_whipped l g zm za1 za2 za3 za4 za5 za6 za7 za8 za9 zaa mp mt ml md np nt nl nP nS nD so_11 ac_12 mk mn mx nx mq mv wr ts sn sF sB sS mm 0 t.toNatClampNeg v (by omega) (by omega)
        rw [← e_so_14] at K_15
        refine w_cV (pc := 41) [wMod g zm za1 za2 za3 za4 za5 za6 za7 za8 za9 zaa mp mt ml md np nt nl nP nS nD so_14 ac_12 mk mn mx nx mq mv wr ts sn sF sB sS mm] C mv_X9_169 K_15 dX9_whips_41 (by decide) [0] rfl (by decide) (by simp only [List.map_cons, List.map_nil, adMod]) rfl 0 rfl rfl (Nat.le_of_ble_eq_true rfl) ⟨Nat.zero_le _, Nat.zero_le _⟩ ?_
        refine r_aload_n (pc := 44) C dX9_whips_44 0 rfl ?_
        refine r_get (pc := 45) C fl_X9_29 dX9_whips_45 0 rfl rfl ?_
        refine r_bipush (pc := 48) 6 C dX9_whips_48 rfl ?_
        refine r_iload_n (pc := 50) C dX9_whips_50 1 rfl ?_
        refine r_iaddN (pc := 51) 6 t.toNatClampNeg C dX9_whips_51 rfl rfl ?_
        refine r_iald (pc := 52) (6 + t.toNatClampNeg) C dX9_whips_52 5 rfl rfl (by omega) (by decide) ?_
        have hf : fX9_whips mt so ac t v = ((so_14 (6 + t.toNatClampNeg)), so_14, ac_12) := by first | (simp only [fX9_whips, ← e_r_1, ← e_r_4, ← e_r_8, ← e_so_11, ← e_ac_12, ← e_so_14, if_neg c_3, if_neg c_6, if_neg c_10]; done) | (subst e_r_1 e_r_4 e_r_8 e_so_11 e_ac_12 e_so_14; simp only [fX9_whips, if_neg c_3, if_neg c_6, if_neg c_10]; done) | (subst e_r_1 e_r_4 e_r_8 e_so_11 e_ac_12 e_so_14; rfl) | (subst e_r_1 e_r_4 e_r_8 e_so_11 e_ac_12 e_so_14; simp [fX9_whips, if_neg c_3, if_neg c_6, if_neg c_10]; done)
        rw [hf] at hR
        exact hR _ _ dX9_whips_53
      · refine r_bipush (pc := 30) (-2) C dX9_whips_30 rfl ?_
        have hf : fX9_whips mt so ac t v = ((-2), so, ac) := by first | (simp only [fX9_whips, ← e_r_1, ← e_r_4, ← e_r_8, if_neg c_3, if_neg c_6, if_pos c_10]; done) | (subst e_r_1 e_r_4 e_r_8; simp only [fX9_whips, if_neg c_3, if_neg c_6, if_pos c_10]; done) | (subst e_r_1 e_r_4 e_r_8; rfl) | (subst e_r_1 e_r_4 e_r_8; simp [fX9_whips, if_neg c_3, if_neg c_6, if_pos c_10]; done)
        rw [hf] at hR
        exact hR _ _ dX9_whips_32
    · refine r_iconst (pc := 20) (-1) C dX9_whips_20 rfl ?_
      have hf : fX9_whips mt so ac t v = ((-1), so, ac) := by first | (simp only [fX9_whips, ← e_r_1, ← e_r_4, if_neg c_3, if_pos c_6]; done) | (subst e_r_1 e_r_4; simp only [fX9_whips, if_neg c_3, if_pos c_6]; done) | (subst e_r_1 e_r_4; rfl) | (subst e_r_1 e_r_4; simp [fX9_whips, if_neg c_3, if_pos c_6]; done)
      rw [hf] at hR
      exact hR _ _ dX9_whips_21
theorem ctX9_whips (l : Launch) (g : Gl) (zm : Nat) (za1 : Nat) (za2 : Nat) (za3 : Nat) (za4 : Nat) (za5 : Nat) (za6 : Nat) (za7 : Nat) (za8 : Nat) (za9 : Nat) (zaa : Nat) (mp : Int32) (mt : Nat) (ml : Int32) (md : Nat → Int32) (np : Int32) (nt : Nat) (nl : Int32) (nP : Nat → Int32) (nS : Nat → Int32) (nD : Nat → Int32) (so : Nat → Int32) (ac : Nat) (mk : Nat → Int32) (mn : Nat) (mx : Nat → Int32) (nx : Nat) (mq : Nat) (mv : Int32) (wr : Int32) (ts : Int32) (sn : Nat) (sF : Nat → Int32) (sB : Nat → Int32) (sS : Nat → Int32) (mm : Int64) (t : Int32) (v : Int32) (q0 : mt ≤ 6) (q1 : ac ≤ 10) : CtI l g yX9_whips cX9_whips 3 (some .int) 2 [.ref zm, .int t, .int v] (fl [wMod g zm za1 za2 za3 za4 za5 za6 za7 za8 za9 zaa mp mt ml md np nt nl nP nS nD so ac mk mn mx nx mq mv wr ts sn sF sB sS mm]) ((fX9_whips mt so ac t v).1) (fl [wMod g zm za1 za2 za3 za4 za5 za6 za7 za8 za9 zaa mp mt ml md np nt nl nP nS nD ((fX9_whips mt so ac t v).2.1) ((fX9_whips mt so ac t v).2.2) mk mn mx nx mq mv wr ts sn sF sB sS mm]) := mkI .int rfl rfl [(0, .ref zm), (1, .int t), (2, .int v)] (by decide) (Nat.le_of_ble_eq_true rfl) rfl (fun X C hR => bX9_whips C zm za1 za2 za3 za4 za5 za6 za7 za8 za9 zaa mp mt ml md np nt nl nP nS nD so ac mk mn mx nx mq mv wr ts sn sF sB sS mm t v q0 q1 hR)

def fX9_tilts (so : Nat → Int32) (ac : Nat) (w : Int32) : (Int32) × (Nat → Int32) × (Nat) := (let r_1 : Int32 := fX9_in (((w : Int32)).toInt64) 0 2; if r_1 = 0 then (((-1), so, ac)) else (if (so 14) = w then (((-2), so, ac)) else (let so_5 : Nat → Int32 := (fX9_known so ac).1; let ac_6 : Nat := (fX9_known so ac).2; let so_8 : Nat → Int32 := upd so_5 14 w; ((so_5 14), so_8, ac_6))))
set_option maxHeartbeats 4000000 in
set_option maxRecDepth 100000 in
theorem bX9_tilts {l : Launch} {g : Gl} {X : Cx} (C : Ok l g X RX9 cX9_tilts 3 2) (zm : Nat) (za1 : Nat) (za2 : Nat) (za3 : Nat) (za4 : Nat) (za5 : Nat) (za6 : Nat) (za7 : Nat) (za8 : Nat) (za9 : Nat) (zaa : Nat) (mp : Int32) (mt : Nat) (ml : Int32) (md : Nat → Int32) (np : Int32) (nt : Nat) (nl : Int32) (nP : Nat → Int32) (nS : Nat → Int32) (nD : Nat → Int32) (so : Nat → Int32) (ac : Nat) (mk : Nat → Int32) (mn : Nat) (mx : Nat → Int32) (nx : Nat) (mq : Nat) (mv : Int32) (wr : Int32) (ts : Int32) (sn : Nat) (sF : Nat → Int32) (sB : Nat → Int32) (sS : Nat → Int32) (mm : Int64) (w : Int32) (q0 : ac ≤ 10) (hR : RetI g X cX9_tilts 3 0 0 ((fX9_tilts so ac w).1) (fl [wMod g zm za1 za2 za3 za4 za5 za6 za7 za8 za9 zaa mp mt ml md np nt nl nP nS nD ((fX9_tilts so ac w).2.1) ((fX9_tilts so ac w).2.2) mk mn mx nx mq mv wr ts sn sF sB sS mm])) : Vw g X 3 0 0 (fl [wMod g zm za1 za2 za3 za4 za5 za6 za7 za8 za9 zaa mp mt ml md np nt nl nP nS nD so ac mk mn mx nx mq mv wr ts sn sF sB sS mm]) 0 [(0, .ref zm), (1, .int w)] [] := by
  refine r_iload_n (pc := 0) C dX9_tilts_0 1 rfl ?_
  refine r_i2l (pc := 1) C dX9_tilts_1 ?_
  refine r_lconst (pc := 2) 0 C dX9_tilts_2 rfl ?_
  refine r_ldc2 (pc := 3) C dX9_tilts_3 kl_X9_173 ?_
  obtain ⟨r_1, e_r_1⟩ : ∃ z : Int32, z = fX9_in (((w : Int32)).toInt64) 0 2 := ⟨_, rfl⟩
  have K_2 := ctX9_in l g   (((w : Int32)).toInt64) 0 2 
  rw [← e_r_1] at K_2
  refine x_pI (pc := 6) C ms_X9_50 K_2 dX9_tilts_6 (by decide) [] rfl (by decide) rfl (Nat.le_of_ble_eq_true rfl) ⟨Nat.zero_le _, Nat.zero_le _⟩ ?_
  refine r_ifne (pc := 9) 14 C dX9_tilts_9 (by decide) (fun c_3 => ?_) (fun c_3 => ?_)
  · refine r_aload_n (pc := 14) C dX9_tilts_14 0 rfl ?_
    refine r_get (pc := 15) C fl_X9_29 dX9_tilts_15 0 rfl rfl ?_
    refine r_bipush (pc := 18) 14 C dX9_tilts_18 rfl ?_
    refine r_iald (pc := 20) 14 C dX9_tilts_20 5 rfl rfl (by omega) (by decide) ?_
    refine r_iload_n (pc := 21) C dX9_tilts_21 1 rfl ?_
    refine r_icmpne (pc := 22) 28 C dX9_tilts_22 (by decide) (fun c_4 => ?_) (fun c_4 => ?_)
    · refine r_aload_n (pc := 28) C dX9_tilts_28 0 rfl ?_
      obtain ⟨so_5, e_so_5⟩ : ∃ z : Nat → Int32, z = (fX9_known so ac).1 := ⟨_, rfl⟩
      obtain ⟨ac_6, e_ac_6⟩ : ∃ z : Nat, z = (fX9_known so ac).2 := ⟨_, rfl⟩
      have K_7 := ctX9_known l g zm za1 za2 za3 za4 za5 za6 za7 za8 za9 zaa mp mt ml md np nt nl nP nS nD so ac mk mn mx nx mq mv wr ts sn sF sB sS mm  (by omega)
      rw [← e_so_5, ← e_ac_6] at K_7
      refine w_cV (pc := 29) [wMod g zm za1 za2 za3 za4 za5 za6 za7 za8 za9 zaa mp mt ml md np nt nl nP nS nD so_5 ac_6 mk mn mx nx mq mv wr ts sn sF sB sS mm] C mv_X9_161 K_7 dX9_tilts_29 (by decide) [0] rfl (by decide) (by simp only [List.map_cons, List.map_nil, adMod]) rfl 0 rfl rfl (Nat.le_of_ble_eq_true rfl) ⟨Nat.zero_le _, Nat.zero_le _⟩ ?_
      refine r_aload_n (pc := 32) C dX9_tilts_32 0 rfl ?_
      refine r_get (pc := 33) C fl_X9_29 dX9_tilts_33 0 rfl rfl ?_
      refine r_bipush (pc := 36) 14 C dX9_tilts_36 rfl ?_
      refine r_iald (pc := 38) 14 C dX9_tilts_38 5 rfl rfl (by omega) (by decide) ?_
      refine r_istore_n (pc := 39) [(2, .int (so_5 14)), (0, .ref zm), (1, .int w)] C dX9_tilts_39 (by decide) rfl ?_
      refine r_aload_n (pc := 40) C dX9_tilts_40 1 rfl ?_
      refine r_get (pc := 41) C fl_X9_29 dX9_tilts_41 0 rfl rfl ?_
      refine r_bipush (pc := 44) 14 C dX9_tilts_44 rfl ?_
      refine r_iload_n (pc := 46) C dX9_tilts_46 2 rfl ?_
      obtain ⟨so_8, e_so_8⟩ : ∃ z : Nat → Int32, z = upd so_5 14 w := ⟨_, rfl⟩
      refine r_iast (pc := 47) 14 (fl [wMod g zm za1 za2 za3 za4 za5 za6 za7 za8 za9 zaa mp mt ml md np nt nl nP nS nD so_8 ac_6 mk mn mx nx mq mv wr ts sn sF sB sS mm]) C dX9_tilts_47 5 rfl rfl (by omega) (by decide) (by rw [← e_so_8]; rfl) ?_
      refine r_iload_n (pc := 48) C dX9_tilts_48 0 rfl ?_
      have hf : fX9_tilts so ac w = ((so_5 14), so_8, ac_6) := by first | (simp only [fX9_tilts, ← e_r_1, ← e_so_5, ← e_ac_6, ← e_so_8, if_neg c_3, if_neg c_4]; done) | (subst e_r_1 e_so_5 e_ac_6 e_so_8; simp only [fX9_tilts, if_neg c_3, if_neg c_4]; done) | (subst e_r_1 e_so_5 e_ac_6 e_so_8; rfl) | (subst e_r_1 e_so_5 e_ac_6 e_so_8; simp [fX9_tilts, if_neg c_3, if_neg c_4]; done)
      rw [hf] at hR
      exact hR _ _ dX9_tilts_49
    · refine r_bipush (pc := 25) (-2) C dX9_tilts_25 rfl ?_
      have hf : fX9_tilts so ac w = ((-2), so, ac) := by first | (simp only [fX9_tilts, ← e_r_1, if_neg c_3, if_pos c_4]; done) | (subst e_r_1; simp only [fX9_tilts, if_neg c_3, if_pos c_4]; done) | (subst e_r_1; rfl) | (subst e_r_1; simp [fX9_tilts, if_neg c_3, if_pos c_4]; done)
      rw [hf] at hR
      exact hR _ _ dX9_tilts_27
  · refine r_iconst (pc := 12) (-1) C dX9_tilts_12 rfl ?_
    have hf : fX9_tilts so ac w = ((-1), so, ac) := by first | (simp only [fX9_tilts, ← e_r_1, if_pos c_3]; done) | (subst e_r_1; simp only [fX9_tilts, if_pos c_3]; done) | (subst e_r_1; rfl) | (subst e_r_1; simp [fX9_tilts, if_pos c_3]; done)
    rw [hf] at hR
    exact hR _ _ dX9_tilts_13
theorem ctX9_tilts (l : Launch) (g : Gl) (zm : Nat) (za1 : Nat) (za2 : Nat) (za3 : Nat) (za4 : Nat) (za5 : Nat) (za6 : Nat) (za7 : Nat) (za8 : Nat) (za9 : Nat) (zaa : Nat) (mp : Int32) (mt : Nat) (ml : Int32) (md : Nat → Int32) (np : Int32) (nt : Nat) (nl : Int32) (nP : Nat → Int32) (nS : Nat → Int32) (nD : Nat → Int32) (so : Nat → Int32) (ac : Nat) (mk : Nat → Int32) (mn : Nat) (mx : Nat → Int32) (nx : Nat) (mq : Nat) (mv : Int32) (wr : Int32) (ts : Int32) (sn : Nat) (sF : Nat → Int32) (sB : Nat → Int32) (sS : Nat → Int32) (mm : Int64) (w : Int32) (q0 : ac ≤ 10) : CtI l g yX9_tilts cX9_tilts 3 (some .int) 2 [.ref zm, .int w] (fl [wMod g zm za1 za2 za3 za4 za5 za6 za7 za8 za9 zaa mp mt ml md np nt nl nP nS nD so ac mk mn mx nx mq mv wr ts sn sF sB sS mm]) ((fX9_tilts so ac w).1) (fl [wMod g zm za1 za2 za3 za4 za5 za6 za7 za8 za9 zaa mp mt ml md np nt nl nP nS nD ((fX9_tilts so ac w).2.1) ((fX9_tilts so ac w).2.2) mk mn mx nx mq mv wr ts sn sF sB sS mm]) := mkI .int rfl rfl [(0, .ref zm), (1, .int w)] (by decide) (Nat.le_of_ble_eq_true rfl) rfl (fun X C hR => bX9_tilts C zm za1 za2 za3 za4 za5 za6 za7 za8 za9 zaa mp mt ml md np nt nl nP nS nD so ac mk mn mx nx mq mv wr ts sn sF sB sS mm w q0 hR)

def fX9_sets (mp : Int32) (mt : Nat) (so : Nat → Int32) (ac : Nat) (t : Int32) (w : Int32) : (Int32) × (Nat → Int32) × (Nat) := (let r_1 : Int32 := fX9_isTop mt t; if r_1 = 0 then (((-1), so, ac)) else (let r_4 : Int32 := fX9_in (((w : Int32)).toInt64) 0 ((((mp - 1) : Int32)).toInt64); if r_4 = 0 then (((-1), so, ac)) else (let r_8 : Int32 := fX9_stands so (nI t.toNatClampNeg); if r_8 = 0 then (((-2), so, ac)) else (let r_11 : Int32 := fX9_whoAt mt so 0 w (-9); if r_11 < 0 then (let so_14 : Nat → Int32 := (fX9_known so ac).1; let ac_15 : Nat := (fX9_known so ac).2; let so_17 : Nat → Int32 := upd so_14 t.toNatClampNeg w; ((so_14 t.toNatClampNeg), so_17, ac_15)) else (((-2), so, ac))))))
set_option maxHeartbeats 4000000 in
set_option maxRecDepth 100000 in
theorem bX9_sets {l : Launch} {g : Gl} {X : Cx} (C : Ok l g X RX9 cX9_sets 4 2) (zm : Nat) (za1 : Nat) (za2 : Nat) (za3 : Nat) (za4 : Nat) (za5 : Nat) (za6 : Nat) (za7 : Nat) (za8 : Nat) (za9 : Nat) (zaa : Nat) (mp : Int32) (mt : Nat) (ml : Int32) (md : Nat → Int32) (np : Int32) (nt : Nat) (nl : Int32) (nP : Nat → Int32) (nS : Nat → Int32) (nD : Nat → Int32) (so : Nat → Int32) (ac : Nat) (mk : Nat → Int32) (mn : Nat) (mx : Nat → Int32) (nx : Nat) (mq : Nat) (mv : Int32) (wr : Int32) (ts : Int32) (sn : Nat) (sF : Nat → Int32) (sB : Nat → Int32) (sS : Nat → Int32) (mm : Int64) (t : Int32) (w : Int32) (q0 : mt ≤ 6) (q1 : ac ≤ 10) (hR : RetI g X cX9_sets 4 0 0 ((fX9_sets mp mt so ac t w).1) (fl [wMod g zm za1 za2 za3 za4 za5 za6 za7 za8 za9 zaa mp mt ml md np nt nl nP nS nD ((fX9_sets mp mt so ac t w).2.1) ((fX9_sets mp mt so ac t w).2.2) mk mn mx nx mq mv wr ts sn sF sB sS mm])) : Vw g X 4 0 0 (fl [wMod g zm za1 za2 za3 za4 za5 za6 za7 za8 za9 zaa mp mt ml md np nt nl nP nS nD so ac mk mn mx nx mq mv wr ts sn sF sB sS mm]) 0 [(0, .ref zm), (1, .int t), (2, .int w)] [] := by
  refine r_aload_n (pc := 0) C dX9_sets_0 0 rfl ?_
  refine r_iload_n (pc := 1) C dX9_sets_1 1 rfl ?_
  obtain ⟨r_1, e_r_1⟩ : ∃ z : Int32, z = fX9_isTop mt t := ⟨_, rfl⟩
  have K_2 := ctX9_isTop l g zm za1 za2 za3 za4 za5 za6 za7 za8 za9 zaa mp mt ml md np nt nl nP nS nD so ac mk mn mx nx mq mv wr ts sn sF sB sS mm t 
  rw [← e_r_1] at K_2
  refine w_pI (pc := 2) C mv_X9_148 K_2 dX9_sets_2 (by decide) [0] rfl (by decide) 0 rfl rfl (Nat.le_of_ble_eq_true rfl) ⟨Nat.zero_le _, Nat.zero_le _⟩ ?_
  refine r_ifeq (pc := 5) 24 C dX9_sets_5 (by decide) (fun c_3 => ?_) (fun c_3 => ?_)
  · refine r_iconst (pc := 24) (-1) C dX9_sets_24 rfl ?_
    have hf : fX9_sets mp mt so ac t w = ((-1), so, ac) := by first | (simp only [fX9_sets, ← e_r_1, if_pos c_3]; done) | (subst e_r_1; simp only [fX9_sets, if_pos c_3]; done) | (subst e_r_1; rfl) | (subst e_r_1; simp [fX9_sets, if_pos c_3]; done)
    rw [hf] at hR
    exact hR _ _ dX9_sets_25
  · refine r_iload_n (pc := 8) C dX9_sets_8 2 rfl ?_
    refine r_i2l (pc := 9) C dX9_sets_9 ?_
    refine r_lconst (pc := 10) 0 C dX9_sets_10 rfl ?_
    refine r_aload_n (pc := 11) C dX9_sets_11 0 rfl ?_
    refine r_get (pc := 12) C fl_X9_7 dX9_sets_12 0 rfl rfl ?_
    refine r_iconst (pc := 15) 1 C dX9_sets_15 rfl ?_
    refine r_isub (pc := 16) C dX9_sets_16 ?_
    refine r_i2l (pc := 17) C dX9_sets_17 ?_
    obtain ⟨r_4, e_r_4⟩ : ∃ z : Int32, z = fX9_in (((w : Int32)).toInt64) 0 ((((mp - 1) : Int32)).toInt64) := ⟨_, rfl⟩
    have K_5 := ctX9_in l g   (((w : Int32)).toInt64) 0 ((((mp - 1) : Int32)).toInt64) 
    rw [← e_r_4] at K_5
    refine x_pI (pc := 18) C ms_X9_50 K_5 dX9_sets_18 (by decide) [] rfl (by decide) rfl (Nat.le_of_ble_eq_true rfl) ⟨Nat.zero_le _, Nat.zero_le _⟩ ?_
    refine r_ifne (pc := 21) 26 C dX9_sets_21 (by decide) (fun c_6 => ?_) (fun c_6 => ?_)
    · obtain ⟨h_7, qh_7⟩ := natc (x := t) (B := mt) (by omega) (m_isTop_nat (by rw [← e_r_1]; assumption))
      refine u_lvq [(0, .ref zm), (1, .int (nI t.toNatClampNeg)), (2, .int w)] (by rw [qh_7]) ?_
      refine r_aload_n (pc := 26) C dX9_sets_26 0 rfl ?_
      refine r_iload_n (pc := 27) C dX9_sets_27 1 rfl ?_
      obtain ⟨r_8, e_r_8⟩ : ∃ z : Int32, z = fX9_stands so (nI t.toNatClampNeg) := ⟨_, rfl⟩
      have K_9 := ctX9_stands l g zm za1 za2 za3 za4 za5 za6 za7 za8 za9 zaa mp mt ml md np nt nl nP nS nD so ac mk mn mx nx mq mv wr ts sn sF sB sS mm (nI t.toNatClampNeg) 
      rw [← e_r_8] at K_9
      refine w_pI (pc := 28) C mv_X9_138 K_9 dX9_sets_28 (by decide) [0] rfl (by decide) 0 rfl rfl (Nat.le_of_ble_eq_true rfl) ⟨Nat.zero_le _, Nat.zero_le _⟩ ?_
      refine r_ifeq (pc := 31) 45 C dX9_sets_31 (by decide) (fun c_10 => ?_) (fun c_10 => ?_)
      · refine r_bipush (pc := 45) (-2) C dX9_sets_45 rfl ?_
        have hf : fX9_sets mp mt so ac t w = ((-2), so, ac) := by first | (simp only [fX9_sets, ← e_r_1, ← e_r_4, ← e_r_8, if_neg c_3, if_neg c_6, if_pos c_10]; done) | (subst e_r_1 e_r_4 e_r_8; simp only [fX9_sets, if_neg c_3, if_neg c_6, if_pos c_10]; done) | (subst e_r_1 e_r_4 e_r_8; rfl) | (subst e_r_1 e_r_4 e_r_8; simp [fX9_sets, if_neg c_3, if_neg c_6, if_pos c_10]; done)
        rw [hf] at hR
        exact hR _ _ dX9_sets_47
      · refine r_aload_n (pc := 34) C dX9_sets_34 0 rfl ?_
        refine r_iconst (pc := 35) 0 C dX9_sets_35 rfl ?_
        refine r_iload_n (pc := 36) C dX9_sets_36 2 rfl ?_
        refine r_bipush (pc := 37) (-9) C dX9_sets_37 rfl ?_
        obtain ⟨r_11, e_r_11⟩ : ∃ z : Int32, z = fX9_whoAt mt so 0 w (-9) := ⟨_, rfl⟩
        have K_12 := ctX9_whoAt l g zm za1 za2 za3 za4 za5 za6 za7 za8 za9 zaa mp mt ml md np nt nl nP nS nD so ac mk mn mx nx mq mv wr ts sn sF sB sS mm 0 w (-9) (by omega) (by omega)
        rw [← e_r_11] at K_12
        refine w_pI (pc := 39) C mv_X9_121 K_12 dX9_sets_39 (by decide) [0] rfl (by decide) 0 rfl rfl (Nat.le_of_ble_eq_true rfl) ⟨Nat.zero_le _, Nat.zero_le _⟩ ?_
        refine r_iflt (pc := 42) 48 C dX9_sets_42 (by decide) (fun c_13 => ?_) (fun c_13 => ?_)
        · refine r_aload_n (pc := 48) C dX9_sets_48 0 rfl ?_
          obtain ⟨so_14, e_so_14⟩ : ∃ z : Nat → Int32, z = (fX9_known so ac).1 := ⟨_, rfl⟩
          obtain ⟨ac_15, e_ac_15⟩ : ∃ z : Nat, z = (fX9_known so ac).2 := ⟨_, rfl⟩
          have K_16 := ctX9_known l g zm za1 za2 za3 za4 za5 za6 za7 za8 za9 zaa mp mt ml md np nt nl nP nS nD so ac mk mn mx nx mq mv wr ts sn sF sB sS mm  (by omega)
          rw [← e_so_14, ← e_ac_15] at K_16
          refine w_cV (pc := 49) [wMod g zm za1 za2 za3 za4 za5 za6 za7 za8 za9 zaa mp mt ml md np nt nl nP nS nD so_14 ac_15 mk mn mx nx mq mv wr ts sn sF sB sS mm] C mv_X9_161 K_16 dX9_sets_49 (by decide) [0] rfl (by decide) (by simp only [List.map_cons, List.map_nil, adMod]) rfl 0 rfl rfl (Nat.le_of_ble_eq_true rfl) ⟨Nat.zero_le _, Nat.zero_le _⟩ ?_
          refine r_aload_n (pc := 52) C dX9_sets_52 0 rfl ?_
          refine r_get (pc := 53) C fl_X9_29 dX9_sets_53 0 rfl rfl ?_
          refine r_iload_n (pc := 56) C dX9_sets_56 1 rfl ?_
          refine r_iald (pc := 57) t.toNatClampNeg C dX9_sets_57 5 rfl rfl (by omega) (by decide) ?_
          refine r_istore_n (pc := 58) [(3, .int (so_14 t.toNatClampNeg)), (0, .ref zm), (1, .int (nI t.toNatClampNeg)), (2, .int w)] C dX9_sets_58 (by decide) rfl ?_
          refine r_aload_n (pc := 59) C dX9_sets_59 1 rfl ?_
          refine r_get (pc := 60) C fl_X9_29 dX9_sets_60 0 rfl rfl ?_
          refine r_iload_n (pc := 63) C dX9_sets_63 2 rfl ?_
          refine r_iload_n (pc := 64) C dX9_sets_64 3 rfl ?_
          obtain ⟨so_17, e_so_17⟩ : ∃ z : Nat → Int32, z = upd so_14 t.toNatClampNeg w := ⟨_, rfl⟩
          refine r_iast (pc := 65) t.toNatClampNeg (fl [wMod g zm za1 za2 za3 za4 za5 za6 za7 za8 za9 zaa mp mt ml md np nt nl nP nS nD so_17 ac_15 mk mn mx nx mq mv wr ts sn sF sB sS mm]) C dX9_sets_65 5 rfl rfl (by omega) (by decide) (by rw [← e_so_17]; rfl) ?_
          refine r_iload_n (pc := 66) C dX9_sets_66 0 rfl ?_
          have hf : fX9_sets mp mt so ac t w = ((so_14 t.toNatClampNeg), so_17, ac_15) := by first | (simp only [fX9_sets, ← e_r_1, ← e_r_4, ← e_r_8, ← e_r_11, ← e_so_14, ← e_ac_15, ← e_so_17, if_neg c_3, if_neg c_6, if_neg c_10, if_pos c_13]; done) | (subst e_r_1 e_r_4 e_r_8 e_r_11 e_so_14 e_ac_15 e_so_17; simp only [fX9_sets, if_neg c_3, if_neg c_6, if_neg c_10, if_pos c_13]; done) | (subst e_r_1 e_r_4 e_r_8 e_r_11 e_so_14 e_ac_15 e_so_17; rfl) | (subst e_r_1 e_r_4 e_r_8 e_r_11 e_so_14 e_ac_15 e_so_17; simp [fX9_sets, if_neg c_3, if_neg c_6, if_neg c_10, if_pos c_13]; done)
          rw [hf] at hR
          exact hR _ _ dX9_sets_67
        · refine r_bipush (pc := 45) (-2) C dX9_sets_45 rfl ?_
          have hf : fX9_sets mp mt so ac t w = ((-2), so, ac) := by first | (simp only [fX9_sets, ← e_r_1, ← e_r_4, ← e_r_8, ← e_r_11, if_neg c_3, if_neg c_6, if_neg c_10, if_neg c_13]; done) | (subst e_r_1 e_r_4 e_r_8 e_r_11; simp only [fX9_sets, if_neg c_3, if_neg c_6, if_neg c_10, if_neg c_13]; done) | (subst e_r_1 e_r_4 e_r_8 e_r_11; rfl) | (subst e_r_1 e_r_4 e_r_8 e_r_11; simp [fX9_sets, if_neg c_3, if_neg c_6, if_neg c_10, if_neg c_13]; done)
          rw [hf] at hR
          exact hR _ _ dX9_sets_47
    · refine r_iconst (pc := 24) (-1) C dX9_sets_24 rfl ?_
      have hf : fX9_sets mp mt so ac t w = ((-1), so, ac) := by first | (simp only [fX9_sets, ← e_r_1, ← e_r_4, if_neg c_3, if_pos c_6]; done) | (subst e_r_1 e_r_4; simp only [fX9_sets, if_neg c_3, if_pos c_6]; done) | (subst e_r_1 e_r_4; rfl) | (subst e_r_1 e_r_4; simp [fX9_sets, if_neg c_3, if_pos c_6]; done)
      rw [hf] at hR
      exact hR _ _ dX9_sets_25
theorem ctX9_sets (l : Launch) (g : Gl) (zm : Nat) (za1 : Nat) (za2 : Nat) (za3 : Nat) (za4 : Nat) (za5 : Nat) (za6 : Nat) (za7 : Nat) (za8 : Nat) (za9 : Nat) (zaa : Nat) (mp : Int32) (mt : Nat) (ml : Int32) (md : Nat → Int32) (np : Int32) (nt : Nat) (nl : Int32) (nP : Nat → Int32) (nS : Nat → Int32) (nD : Nat → Int32) (so : Nat → Int32) (ac : Nat) (mk : Nat → Int32) (mn : Nat) (mx : Nat → Int32) (nx : Nat) (mq : Nat) (mv : Int32) (wr : Int32) (ts : Int32) (sn : Nat) (sF : Nat → Int32) (sB : Nat → Int32) (sS : Nat → Int32) (mm : Int64) (t : Int32) (w : Int32) (q0 : mt ≤ 6) (q1 : ac ≤ 10) : CtI l g yX9_sets cX9_sets 4 (some .int) 2 [.ref zm, .int t, .int w] (fl [wMod g zm za1 za2 za3 za4 za5 za6 za7 za8 za9 zaa mp mt ml md np nt nl nP nS nD so ac mk mn mx nx mq mv wr ts sn sF sB sS mm]) ((fX9_sets mp mt so ac t w).1) (fl [wMod g zm za1 za2 za3 za4 za5 za6 za7 za8 za9 zaa mp mt ml md np nt nl nP nS nD ((fX9_sets mp mt so ac t w).2.1) ((fX9_sets mp mt so ac t w).2.2) mk mn mx nx mq mv wr ts sn sF sB sS mm]) := mkI .int rfl rfl [(0, .ref zm), (1, .int t), (2, .int w)] (by decide) (Nat.le_of_ble_eq_true rfl) rfl (fun X C hR => bX9_sets C zm za1 za2 za3 za4 za5 za6 za7 za8 za9 zaa mp mt ml md np nt nl nP nS nD so ac mk mn mx nx mq mv wr ts sn sF sB sS mm t w q0 q1 hR)

def fX9_undo (so : Nat → Int32) (ac : Nat) : (Int32) × (Nat → Int32) × (Nat) := (if ac = 0 then (((-2), so, ac)) else (let so_2 : Nat → Int32 := fX9_copies so (ac * 15) 0; ((nI (ac - 1)), so_2, (ac - 1))))
set_option maxHeartbeats 4000000 in
set_option maxRecDepth 100000 in
theorem bX9_undo {l : Launch} {g : Gl} {X : Cx} (C : Ok l g X RX9 cX9_undo 1 1) (zm : Nat) (za1 : Nat) (za2 : Nat) (za3 : Nat) (za4 : Nat) (za5 : Nat) (za6 : Nat) (za7 : Nat) (za8 : Nat) (za9 : Nat) (zaa : Nat) (mp : Int32) (mt : Nat) (ml : Int32) (md : Nat → Int32) (np : Int32) (nt : Nat) (nl : Int32) (nP : Nat → Int32) (nS : Nat → Int32) (nD : Nat → Int32) (so : Nat → Int32) (ac : Nat) (mk : Nat → Int32) (mn : Nat) (mx : Nat → Int32) (nx : Nat) (mq : Nat) (mv : Int32) (wr : Int32) (ts : Int32) (sn : Nat) (sF : Nat → Int32) (sB : Nat → Int32) (sS : Nat → Int32) (mm : Int64) (q0 : ac ≤ 10) (hR : RetI g X cX9_undo 1 0 0 ((fX9_undo so ac).1) (fl [wMod g zm za1 za2 za3 za4 za5 za6 za7 za8 za9 zaa mp mt ml md np nt nl nP nS nD ((fX9_undo so ac).2.1) ((fX9_undo so ac).2.2) mk mn mx nx mq mv wr ts sn sF sB sS mm])) : Vw g X 1 0 0 (fl [wMod g zm za1 za2 za3 za4 za5 za6 za7 za8 za9 zaa mp mt ml md np nt nl nP nS nD so ac mk mn mx nx mq mv wr ts sn sF sB sS mm]) 0 [(0, .ref zm)] [] := by
  refine r_aload_n (pc := 0) C dX9_undo_0 0 rfl ?_
  refine r_get (pc := 1) C fl_X9_111 dX9_undo_1 0 rfl rfl ?_
  refine r_ifneN (pc := 4) ac 10 C dX9_undo_4 (by decide) rfl (by omega) (fun c_1 => ?_) (fun c_1 => ?_)
  · refine r_aload_n (pc := 10) C dX9_undo_10 0 rfl ?_
    refine r_aload_n (pc := 11) C dX9_undo_11 0 rfl ?_
    refine r_get (pc := 12) C fl_X9_111 dX9_undo_12 0 rfl rfl ?_
    refine r_bipush (pc := 15) 15 C dX9_undo_15 rfl ?_
    refine r_imulN (pc := 17) ac 15 C dX9_undo_17 rfl rfl ?_
    refine r_iconst (pc := 18) 0 C dX9_undo_18 rfl ?_
    obtain ⟨so_2, e_so_2⟩ : ∃ z : Nat → Int32, z = fX9_copies so (ac * 15) 0 := ⟨_, rfl⟩
    have K_3 := ctX9_copies l g zm za1 za2 za3 za4 za5 za6 za7 za8 za9 zaa mp mt ml md np nt nl nP nS nD so ac mk mn mx nx mq mv wr ts sn sF sB sS mm (ac * 15) 0 (by omega) (by omega)
    rw [← e_so_2] at K_3
    refine w_cV (pc := 19) [wMod g zm za1 za2 za3 za4 za5 za6 za7 za8 za9 zaa mp mt ml md np nt nl nP nS nD so_2 ac mk mn mx nx mq mv wr ts sn sF sB sS mm] C mv_X9_131 K_3 dX9_undo_19 (by decide) [0] rfl (by decide) (by simp only [List.map_cons, List.map_nil, adMod]) rfl 0 rfl rfl (Nat.le_of_ble_eq_true rfl) ⟨Nat.zero_le _, Nat.zero_le _⟩ ?_
    refine r_aload_n (pc := 22) C dX9_undo_22 0 rfl ?_
    refine r_dup (pc := 23) C dX9_undo_23 rfl ?_
    refine r_get (pc := 24) C fl_X9_111 dX9_undo_24 0 rfl rfl ?_
    refine r_iconst (pc := 27) 1 C dX9_undo_27 rfl ?_
    refine r_isubN (pc := 28) ac 1 C dX9_undo_28 rfl rfl (by omega) ?_
    refine r_put (pc := 29) (fl [wMod g zm za1 za2 za3 za4 za5 za6 za7 za8 za9 zaa mp mt ml md np nt nl nP nS nD so_2 (ac - 1) mk mn mx nx mq mv wr ts sn sF sB sS mm]) C fp_X9_111 dX9_undo_29 0 rfl (Nat.le_of_ble_eq_true rfl) rfl rfl rfl ?_
    refine r_aload_n (pc := 32) C dX9_undo_32 0 rfl ?_
    refine r_get (pc := 33) C fl_X9_111 dX9_undo_33 0 rfl rfl ?_
    have hf : fX9_undo so ac = ((nI (ac - 1)), so_2, (ac - 1)) := by first | (simp only [fX9_undo, ← e_so_2, if_neg c_1]; done) | (subst e_so_2; simp only [fX9_undo, if_neg c_1]; done) | (subst e_so_2; rfl) | (subst e_so_2; simp [fX9_undo, if_neg c_1]; done)
    rw [hf] at hR
    exact hR _ _ dX9_undo_36
  · refine r_bipush (pc := 7) (-2) C dX9_undo_7 rfl ?_
    have hf : fX9_undo so ac = ((-2), so, ac) := by first | (simp only [fX9_undo, if_pos c_1]; done) | rfl | (simp [fX9_undo, if_pos c_1]; done)
    rw [hf] at hR
    exact hR _ _ dX9_undo_9
theorem ctX9_undo (l : Launch) (g : Gl) (zm : Nat) (za1 : Nat) (za2 : Nat) (za3 : Nat) (za4 : Nat) (za5 : Nat) (za6 : Nat) (za7 : Nat) (za8 : Nat) (za9 : Nat) (zaa : Nat) (mp : Int32) (mt : Nat) (ml : Int32) (md : Nat → Int32) (np : Int32) (nt : Nat) (nl : Int32) (nP : Nat → Int32) (nS : Nat → Int32) (nD : Nat → Int32) (so : Nat → Int32) (ac : Nat) (mk : Nat → Int32) (mn : Nat) (mx : Nat → Int32) (nx : Nat) (mq : Nat) (mv : Int32) (wr : Int32) (ts : Int32) (sn : Nat) (sF : Nat → Int32) (sB : Nat → Int32) (sS : Nat → Int32) (mm : Int64) (q0 : ac ≤ 10) : CtI l g yX9_undo cX9_undo 1 (some .int) 1 [.ref zm] (fl [wMod g zm za1 za2 za3 za4 za5 za6 za7 za8 za9 zaa mp mt ml md np nt nl nP nS nD so ac mk mn mx nx mq mv wr ts sn sF sB sS mm]) ((fX9_undo so ac).1) (fl [wMod g zm za1 za2 za3 za4 za5 za6 za7 za8 za9 zaa mp mt ml md np nt nl nP nS nD ((fX9_undo so ac).2.1) ((fX9_undo so ac).2.2) mk mn mx nx mq mv wr ts sn sF sB sS mm]) := mkI .int rfl rfl [(0, .ref zm)] (by decide) (Nat.le_of_ble_eq_true rfl) rfl (fun X C hR => bX9_undo C zm za1 za2 za3 za4 za5 za6 za7 za8 za9 zaa mp mt ml md np nt nl nP nS nD so ac mk mn mx nx mq mv wr ts sn sF sB sS mm q0 hR)

def lX9_standBehind_2 (mp : Int32) (mt : Nat) (ml : Int32) (md : Nat → Int32) : Nat → (Nat) → (Nat → Int32) → (Nat → Int32)
  | 0, x2_1, so0_1 => (so0_1)
  | n + 1, x2_1, so0_1 => (let so_4 : Nat → Int32 := fX9_beat mp mt ml md so0_1 195; lX9_standBehind_2 mp mt ml md n (x2_1 + 1) so_4)
def fX9_standBehind (mp : Int32) (mt : Nat) (ml : Int32) (md : Nat → Int32) (so : Nat → Int32) (m0 : Nat) : (Int32) × (Nat → Int32) := (let so0_6 : Nat → Int32 := lX9_standBehind_2 mp mt ml md m0 0 so; ((so0_6 207), so0_6))
set_option maxHeartbeats 4000000 in
set_option maxRecDepth 100000 in
theorem bX9_standBehind {l : Launch} {g : Gl} {X : Cx} (C : Ok l g X RX9 cX9_standBehind 3 4) (zm : Nat) (za1 : Nat) (za2 : Nat) (za3 : Nat) (za4 : Nat) (za5 : Nat) (za6 : Nat) (za7 : Nat) (za8 : Nat) (za9 : Nat) (zaa : Nat) (mp : Int32) (mt : Nat) (ml : Int32) (md : Nat → Int32) (np : Int32) (nt : Nat) (nl : Int32) (nP : Nat → Int32) (nS : Nat → Int32) (nD : Nat → Int32) (so : Nat → Int32) (ac : Nat) (mk : Nat → Int32) (mn : Nat) (mx : Nat → Int32) (nx : Nat) (mq : Nat) (mv : Int32) (wr : Int32) (ts : Int32) (sn : Nat) (sF : Nat → Int32) (sB : Nat → Int32) (sS : Nat → Int32) (mm : Int64) (m0 : Nat) (q0 : mt ≤ 6) (q1 : ¬ mp = 0) (q2 : m0 < 2 ^ 31) (hR : RetI g X cX9_standBehind 3 0 0 ((fX9_standBehind mp mt ml md so m0).1) (fl [wMod g zm za1 za2 za3 za4 za5 za6 za7 za8 za9 zaa mp mt ml md np nt nl nP nS nD ((fX9_standBehind mp mt ml md so m0).2) ac mk mn mx nx mq mv wr ts sn sF sB sS mm])) : Vw g X 3 0 0 (fl [wMod g zm za1 za2 za3 za4 za5 za6 za7 za8 za9 zaa mp mt ml md np nt nl nP nS nD so ac mk mn mx nx mq mv wr ts sn sF sB sS mm]) 0 [(0, .ref zm), (1, .int (nI m0))] [] := by
  refine r_iconst (pc := 0) 0 C dX9_standBehind_0 rfl ?_
  refine r_istore_n (pc := 1) [(2, .int 0), (0, .ref zm), (1, .int (nI m0))] C dX9_standBehind_1 (by decide) rfl ?_
  have hX1 : ∀ (so0_6 : Nat → Int32) , (so0_6 = lX9_standBehind_2 mp mt ml md m0 0 so) → Vw g X 3 0 0 (fl [wMod g zm za1 za2 za3 za4 za5 za6 za7 za8 za9 zaa mp mt ml md np nt nl nP nS nD so0_6 ac mk mn mx nx mq mv wr ts sn sF sB sS mm]) 20 [(0, .ref zm)] [] := by
    intro so0_6 e_so0_6 
    refine r_aload_n (pc := 20) C dX9_standBehind_20 0 rfl ?_
    refine r_get (pc := 21) C fl_X9_29 dX9_standBehind_21 0 rfl rfl ?_
    refine r_sipush (pc := 24) 207 C dX9_standBehind_24 rfl ?_
    refine r_iald (pc := 27) 207 C dX9_standBehind_27 5 rfl rfl (by omega) (by decide) ?_
    have hf : fX9_standBehind mp mt ml md so m0 = ((so0_6 207), so0_6) := by first | (simp only [fX9_standBehind, ← e_so0_6]; done) | (subst e_so0_6; rfl) | (subst e_so0_6; simp only [fX9_standBehind]; done)
    rw [hf] at hR
    exact hR _ _ dX9_standBehind_28
  have hL1 : ∀ (n : Nat) (x2_1 : Nat) (so0_1 : Nat → Int32) , (x2_1 + n = m0) → lX9_standBehind_2 mp mt ml md n x2_1 so0_1 = lX9_standBehind_2 mp mt ml md m0 0 so → Vw g X 3 0 0 (fl [wMod g zm za1 za2 za3 za4 za5 za6 za7 za8 za9 zaa mp mt ml md np nt nl nP nS nD so0_1 ac mk mn mx nx mq mv wr ts sn sF sB sS mm]) 2 [(0, .ref zm), (1, .int (nI m0)), (2, .int (nI x2_1))] [] := by
    intro n
    induction n with
    | zero =>
      intro x2_1 so0_1 hr1 hV1
      refine r_iload_n (pc := 2) C dX9_standBehind_2 2 rfl ?_
      refine r_iload_n (pc := 3) C dX9_standBehind_3 1 rfl ?_
      refine r_icmpgeN (pc := 4) x2_1 m0 20 C dX9_standBehind_4 (by decide) rfl rfl (by omega) (by omega) (fun _ => ?_) (fun c_2 => absurd (by omega) c_2)
      refine u_lv [(0, .ref zm)] [0] rfl ?_
      exact hX1 _ (by rw [← hV1]; first | rfl | (simp only [lX9_standBehind_2]; done) | (simp [lX9_standBehind_2]; done))
    | succ n ih =>
      intro x2_1 so0_1 hr1 hV1
      refine r_iload_n (pc := 2) C dX9_standBehind_2 2 rfl ?_
      refine r_iload_n (pc := 3) C dX9_standBehind_3 1 rfl ?_
      refine r_icmpgeN (pc := 4) x2_1 m0 20 C dX9_standBehind_4 (by decide) rfl rfl (by omega) (by omega) (fun c_3 => absurd c_3 (by omega)) (fun _ => ?_)
      refine r_aload_n (pc := 7) C dX9_standBehind_7 0 rfl ?_
      refine r_sipush (pc := 8) 195 C dX9_standBehind_8 rfl ?_
      obtain ⟨so_4, e_so_4⟩ : ∃ z : Nat → Int32, z = fX9_beat mp mt ml md so0_1 195 := ⟨_, rfl⟩
      have K_5 := ctX9_beat l g zm za1 za2 za3 za4 za5 za6 za7 za8 za9 zaa mp mt ml md np nt nl nP nS nD so0_1 ac mk mn mx nx mq mv wr ts sn sF sB sS mm 195 (by omega) (by omega) (by assumption)
      rw [← e_so_4] at K_5
      refine w_cV (pc := 11) [wMod g zm za1 za2 za3 za4 za5 za6 za7 za8 za9 zaa mp mt ml md np nt nl nP nS nD so_4 ac mk mn mx nx mq mv wr ts sn sF sB sS mm] C mv_X9_134 K_5 dX9_standBehind_11 (by decide) [0] rfl (by decide) (by simp only [List.map_cons, List.map_nil, adMod]) rfl 0 rfl rfl (Nat.le_of_ble_eq_true rfl) ⟨Nat.zero_le _, Nat.zero_le _⟩ ?_
      refine r_iinc (pc := 14) (nI (x2_1 + 1)) [(2, .int (nI (x2_1 + 1))), (0, .ref zm), (1, .int (nI m0))] C dX9_standBehind_14 2 rfl (inc1 _) (by decide) rfl ?_
      refine r_goto (pc := 17) 2 C dX9_standBehind_17 (by decide) ?_
      refine u_lv [(0, .ref zm), (1, .int (nI m0)), (2, .int (nI (x2_1 + 1)))] [1, 2, 0] rfl ?_
      exact ih (x2_1 + 1) so_4 (by omega) (by rw [← hV1]; first | (simp only [lX9_standBehind_2, ← e_so_4]; done) | (subst e_so_4; rfl) | (subst e_so_4; simp only [lX9_standBehind_2]; done))
  refine u_lv [(0, .ref zm), (1, .int (nI m0)), (2, .int 0)] [1, 2, 0] rfl ?_
  exact hL1 m0 0 so (by omega) rfl
theorem ctX9_standBehind (l : Launch) (g : Gl) (zm : Nat) (za1 : Nat) (za2 : Nat) (za3 : Nat) (za4 : Nat) (za5 : Nat) (za6 : Nat) (za7 : Nat) (za8 : Nat) (za9 : Nat) (zaa : Nat) (mp : Int32) (mt : Nat) (ml : Int32) (md : Nat → Int32) (np : Int32) (nt : Nat) (nl : Int32) (nP : Nat → Int32) (nS : Nat → Int32) (nD : Nat → Int32) (so : Nat → Int32) (ac : Nat) (mk : Nat → Int32) (mn : Nat) (mx : Nat → Int32) (nx : Nat) (mq : Nat) (mv : Int32) (wr : Int32) (ts : Int32) (sn : Nat) (sF : Nat → Int32) (sB : Nat → Int32) (sS : Nat → Int32) (mm : Int64) (m0 : Nat) (q0 : mt ≤ 6) (q1 : ¬ mp = 0) (q2 : m0 < 2 ^ 31) : CtI l g yX9_standBehind cX9_standBehind 3 (some .int) 4 [.ref zm, .int (nI m0)] (fl [wMod g zm za1 za2 za3 za4 za5 za6 za7 za8 za9 zaa mp mt ml md np nt nl nP nS nD so ac mk mn mx nx mq mv wr ts sn sF sB sS mm]) ((fX9_standBehind mp mt ml md so m0).1) (fl [wMod g zm za1 za2 za3 za4 za5 za6 za7 za8 za9 zaa mp mt ml md np nt nl nP nS nD ((fX9_standBehind mp mt ml md so m0).2) ac mk mn mx nx mq mv wr ts sn sF sB sS mm]) := mkI .int rfl rfl [(0, .ref zm), (1, .int (nI m0))] (by decide) (Nat.le_of_ble_eq_true rfl) rfl (fun X C hR => bX9_standBehind C zm za1 za2 za3 za4 za5 za6 za7 za8 za9 zaa mp mt ml md np nt nl nP nS nD so ac mk mn mx nx mq mv wr ts sn sF sB sS mm m0 q0 q1 q2 hR)

def fX9_stand (mp : Int32) (mt : Nat) (ml : Int32) (md : Nat → Int32) (so : Nat → Int32) (m : Int32) : (Int32) × (Nat → Int32) := (let r_1 : Int32 := fX9_in (((m : Int32)).toInt64) 0 60; if r_1 = 0 then (((-1), so)) else (let so_5 : Nat → Int32 := fX9_copies so 0 195; let r_7 : Int32 := (fX9_standBehind mp mt ml md so_5 m.toNatClampNeg).1; let so_8 : Nat → Int32 := (fX9_standBehind mp mt ml md so_5 m.toNatClampNeg).2; (r_7, so_8)))
set_option maxHeartbeats 4000000 in
set_option maxRecDepth 100000 in
theorem bX9_stand {l : Launch} {g : Gl} {X : Cx} (C : Ok l g X RX9 cX9_stand 2 5) (zm : Nat) (za1 : Nat) (za2 : Nat) (za3 : Nat) (za4 : Nat) (za5 : Nat) (za6 : Nat) (za7 : Nat) (za8 : Nat) (za9 : Nat) (zaa : Nat) (mp : Int32) (mt : Nat) (ml : Int32) (md : Nat → Int32) (np : Int32) (nt : Nat) (nl : Int32) (nP : Nat → Int32) (nS : Nat → Int32) (nD : Nat → Int32) (so : Nat → Int32) (ac : Nat) (mk : Nat → Int32) (mn : Nat) (mx : Nat → Int32) (nx : Nat) (mq : Nat) (mv : Int32) (wr : Int32) (ts : Int32) (sn : Nat) (sF : Nat → Int32) (sB : Nat → Int32) (sS : Nat → Int32) (mm : Int64) (m : Int32) (q0 : mt ≤ 6) (q1 : ¬ mp = 0) (hR : RetI g X cX9_stand 2 0 0 ((fX9_stand mp mt ml md so m).1) (fl [wMod g zm za1 za2 za3 za4 za5 za6 za7 za8 za9 zaa mp mt ml md np nt nl nP nS nD ((fX9_stand mp mt ml md so m).2) ac mk mn mx nx mq mv wr ts sn sF sB sS mm])) : Vw g X 2 0 0 (fl [wMod g zm za1 za2 za3 za4 za5 za6 za7 za8 za9 zaa mp mt ml md np nt nl nP nS nD so ac mk mn mx nx mq mv wr ts sn sF sB sS mm]) 0 [(0, .ref zm), (1, .int m)] [] := by
  refine r_iload_n (pc := 0) C dX9_stand_0 1 rfl ?_
  refine r_i2l (pc := 1) C dX9_stand_1 ?_
  refine r_lconst (pc := 2) 0 C dX9_stand_2 rfl ?_
  refine r_ldc2 (pc := 3) C dX9_stand_3 kl_X9_175 ?_
  obtain ⟨r_1, e_r_1⟩ : ∃ z : Int32, z = fX9_in (((m : Int32)).toInt64) 0 60 := ⟨_, rfl⟩
  have K_2 := ctX9_in l g   (((m : Int32)).toInt64) 0 60 
  rw [← e_r_1] at K_2
  refine x_pI (pc := 6) C ms_X9_50 K_2 dX9_stand_6 (by decide) [] rfl (by decide) rfl (Nat.le_of_ble_eq_true rfl) ⟨Nat.zero_le _, Nat.zero_le _⟩ ?_
  refine r_ifne (pc := 9) 14 C dX9_stand_9 (by decide) (fun c_3 => ?_) (fun c_3 => ?_)
  · obtain ⟨h_4, qh_4⟩ := natc (x := m) (B := 61) (by omega) (in_nat (b := 60) (by decide) (by rw [← e_r_1]; assumption))
    refine u_lvq [(0, .ref zm), (1, .int (nI m.toNatClampNeg))] (by rw [qh_4]) ?_
    refine r_aload_n (pc := 14) C dX9_stand_14 0 rfl ?_
    refine r_iconst (pc := 15) 0 C dX9_stand_15 rfl ?_
    refine r_sipush (pc := 16) 195 C dX9_stand_16 rfl ?_
    obtain ⟨so_5, e_so_5⟩ : ∃ z : Nat → Int32, z = fX9_copies so 0 195 := ⟨_, rfl⟩
    have K_6 := ctX9_copies l g zm za1 za2 za3 za4 za5 za6 za7 za8 za9 zaa mp mt ml md np nt nl nP nS nD so ac mk mn mx nx mq mv wr ts sn sF sB sS mm 0 195 (by omega) (by omega)
    rw [← e_so_5] at K_6
    refine w_cV (pc := 19) [wMod g zm za1 za2 za3 za4 za5 za6 za7 za8 za9 zaa mp mt ml md np nt nl nP nS nD so_5 ac mk mn mx nx mq mv wr ts sn sF sB sS mm] C mv_X9_131 K_6 dX9_stand_19 (by decide) [0] rfl (by decide) (by simp only [List.map_cons, List.map_nil, adMod]) rfl 0 rfl rfl (Nat.le_of_ble_eq_true rfl) ⟨Nat.zero_le _, Nat.zero_le _⟩ ?_
    refine r_aload_n (pc := 22) C dX9_stand_22 0 rfl ?_
    refine r_iload_n (pc := 23) C dX9_stand_23 1 rfl ?_
    obtain ⟨r_7, e_r_7⟩ : ∃ z : Int32, z = (fX9_standBehind mp mt ml md so_5 m.toNatClampNeg).1 := ⟨_, rfl⟩
    obtain ⟨so_8, e_so_8⟩ : ∃ z : Nat → Int32, z = (fX9_standBehind mp mt ml md so_5 m.toNatClampNeg).2 := ⟨_, rfl⟩
    have K_9 := ctX9_standBehind l g zm za1 za2 za3 za4 za5 za6 za7 za8 za9 zaa mp mt ml md np nt nl nP nS nD so_5 ac mk mn mx nx mq mv wr ts sn sF sB sS mm m.toNatClampNeg (by omega) (by assumption) (by omega)
    rw [← e_r_7, ← e_so_8] at K_9
    refine w_cI (pc := 24) [wMod g zm za1 za2 za3 za4 za5 za6 za7 za8 za9 zaa mp mt ml md np nt nl nP nS nD so_8 ac mk mn mx nx mq mv wr ts sn sF sB sS mm] C mv_X9_177 K_9 dX9_stand_24 (by decide) [0] rfl (by decide) (by simp only [List.map_cons, List.map_nil, adMod]) rfl 0 rfl rfl (Nat.le_of_ble_eq_true rfl) ⟨Nat.zero_le _, Nat.zero_le _⟩ ?_
    have hf : fX9_stand mp mt ml md so m = (r_7, so_8) := by first | (simp only [fX9_stand, ← e_r_1, ← e_so_5, ← e_r_7, ← e_so_8, if_neg c_3]; done) | (subst e_r_1 e_so_5 e_r_7 e_so_8; simp only [fX9_stand, if_neg c_3]; done) | (subst e_r_1 e_so_5 e_r_7 e_so_8; rfl) | (subst e_r_1 e_so_5 e_r_7 e_so_8; simp [fX9_stand, if_neg c_3]; done)
    rw [hf] at hR
    exact hR _ _ dX9_stand_27
  · refine r_iconst (pc := 12) (-1) C dX9_stand_12 rfl ?_
    have hf : fX9_stand mp mt ml md so m = ((-1), so) := by first | (simp only [fX9_stand, ← e_r_1, if_pos c_3]; done) | (subst e_r_1; simp only [fX9_stand, if_pos c_3]; done) | (subst e_r_1; rfl) | (subst e_r_1; simp [fX9_stand, if_pos c_3]; done)
    rw [hf] at hR
    exact hR _ _ dX9_stand_13
theorem ctX9_stand (l : Launch) (g : Gl) (zm : Nat) (za1 : Nat) (za2 : Nat) (za3 : Nat) (za4 : Nat) (za5 : Nat) (za6 : Nat) (za7 : Nat) (za8 : Nat) (za9 : Nat) (zaa : Nat) (mp : Int32) (mt : Nat) (ml : Int32) (md : Nat → Int32) (np : Int32) (nt : Nat) (nl : Int32) (nP : Nat → Int32) (nS : Nat → Int32) (nD : Nat → Int32) (so : Nat → Int32) (ac : Nat) (mk : Nat → Int32) (mn : Nat) (mx : Nat → Int32) (nx : Nat) (mq : Nat) (mv : Int32) (wr : Int32) (ts : Int32) (sn : Nat) (sF : Nat → Int32) (sB : Nat → Int32) (sS : Nat → Int32) (mm : Int64) (m : Int32) (q0 : mt ≤ 6) (q1 : ¬ mp = 0) : CtI l g yX9_stand cX9_stand 2 (some .int) 5 [.ref zm, .int m] (fl [wMod g zm za1 za2 za3 za4 za5 za6 za7 za8 za9 zaa mp mt ml md np nt nl nP nS nD so ac mk mn mx nx mq mv wr ts sn sF sB sS mm]) ((fX9_stand mp mt ml md so m).1) (fl [wMod g zm za1 za2 za3 za4 za5 za6 za7 za8 za9 zaa mp mt ml md np nt nl nP nS nD ((fX9_stand mp mt ml md so m).2) ac mk mn mx nx mq mv wr ts sn sF sB sS mm]) := mkI .int rfl rfl [(0, .ref zm), (1, .int m)] (by decide) (Nat.le_of_ble_eq_true rfl) rfl (fun X C hR => bX9_stand C zm za1 za2 za3 za4 za5 za6 za7 za8 za9 zaa mp mt ml md np nt nl nP nS nD so ac mk mn mx nx mq mv wr ts sn sF sB sS mm m q0 q1 hR)

def lX9_whip_35 (v : Int32) (mp : Int32) (mt : Nat) (ml : Int32) (md : Nat → Int32) (m : Int32) : Nat → (Int32) → (Int32) → (Nat) → (Nat → Int32) → (Int32) × (Nat → Int32)
  | 0, x3_8, x4_8, x5_8, so0_8 => ((x3_8, so0_8))
  | n + 1, x3_8, x4_8, x5_8, so0_8 => (let r_11 : Int32 := fX9_stands so0_8 (nI x5_8); if r_11 = 0 then (lX9_whip_35 v mp mt ml md m n x3_8 x4_8 (x5_8 + 1) so0_8) else (let so_14 : Nat → Int32 := fX9_copies so0_8 0 195; let so_16 : Nat → Int32 := fX9_whipped so_14 195 x5_8 v; let r_18 : Int32 := (fX9_standBehind mp mt ml md so_16 m.toNatClampNeg).1; let so_19 : Nat → Int32 := (fX9_standBehind mp mt ml md so_16 m.toNatClampNeg).2; let r_21 : Int32 := fX9_bits r_18; let w_24 : Int32 := (if r_21 ≤ x4_8 then (x3_8) else ((nI x5_8))); let r_26 : Int32 := fX9_larger x4_8 r_21; lX9_whip_35 v mp mt ml md m n w_24 r_26 (x5_8 + 1) so_19))
def fX9_whip (mp : Int32) (mt : Nat) (ml : Int32) (md : Nat → Int32) (so : Nat → Int32) (v : Int32) (m : Int32) : (Int32) × (Nat → Int32) := (let r_1 : Int32 := fX9_in (((v : Int32)).toInt64) 1 20; if r_1 = 0 then (((-1), so)) else (let r_4 : Int32 := fX9_in (((m : Int32)).toInt64) 0 60; if r_4 = 0 then (((-1), so)) else (let o8 := lX9_whip_35 v mp mt ml md m mt (-9) (-1) 0 so; let x3_28 : Int32 := o8.1; let so0_29 : Nat → Int32 := o8.2; (x3_28, so0_29))))
set_option maxHeartbeats 4000000 in
set_option maxRecDepth 100000 in
theorem bX9_whip {l : Launch} {g : Gl} {X : Cx} (C : Ok l g X RX9 cX9_whip 7 5) (zm : Nat) (za1 : Nat) (za2 : Nat) (za3 : Nat) (za4 : Nat) (za5 : Nat) (za6 : Nat) (za7 : Nat) (za8 : Nat) (za9 : Nat) (zaa : Nat) (mp : Int32) (mt : Nat) (ml : Int32) (md : Nat → Int32) (np : Int32) (nt : Nat) (nl : Int32) (nP : Nat → Int32) (nS : Nat → Int32) (nD : Nat → Int32) (so : Nat → Int32) (ac : Nat) (mk : Nat → Int32) (mn : Nat) (mx : Nat → Int32) (nx : Nat) (mq : Nat) (mv : Int32) (wr : Int32) (ts : Int32) (sn : Nat) (sF : Nat → Int32) (sB : Nat → Int32) (sS : Nat → Int32) (mm : Int64) (v : Int32) (m : Int32) (q0 : mt ≤ 6) (q1 : ¬ mp = 0) (hR : RetI g X cX9_whip 7 0 0 ((fX9_whip mp mt ml md so v m).1) (fl [wMod g zm za1 za2 za3 za4 za5 za6 za7 za8 za9 zaa mp mt ml md np nt nl nP nS nD ((fX9_whip mp mt ml md so v m).2) ac mk mn mx nx mq mv wr ts sn sF sB sS mm])) : Vw g X 7 0 0 (fl [wMod g zm za1 za2 za3 za4 za5 za6 za7 za8 za9 zaa mp mt ml md np nt nl nP nS nD so ac mk mn mx nx mq mv wr ts sn sF sB sS mm]) 0 [(0, .ref zm), (1, .int v), (2, .int m)] [] := by
  refine r_iload_n (pc := 0) C dX9_whip_0 1 rfl ?_
  refine r_i2l (pc := 1) C dX9_whip_1 ?_
  refine r_lconst (pc := 2) 1 C dX9_whip_2 rfl ?_
  refine r_ldc2 (pc := 3) C dX9_whip_3 kl_X9_167 ?_
  obtain ⟨r_1, e_r_1⟩ : ∃ z : Int32, z = fX9_in (((v : Int32)).toInt64) 1 20 := ⟨_, rfl⟩
  have K_2 := ctX9_in l g   (((v : Int32)).toInt64) 1 20 
  rw [← e_r_1] at K_2
  refine x_pI (pc := 6) C ms_X9_50 K_2 dX9_whip_6 (by decide) [] rfl (by decide) rfl (Nat.le_of_ble_eq_true rfl) ⟨Nat.zero_le _, Nat.zero_le _⟩ ?_
  refine r_ifeq (pc := 9) 24 C dX9_whip_9 (by decide) (fun c_3 => ?_) (fun c_3 => ?_)
  · refine r_iconst (pc := 24) (-1) C dX9_whip_24 rfl ?_
    have hf : fX9_whip mp mt ml md so v m = ((-1), so) := by first | (simp only [fX9_whip, ← e_r_1, if_pos c_3]; done) | (subst e_r_1; simp only [fX9_whip, if_pos c_3]; done) | (subst e_r_1; rfl) | (subst e_r_1; simp [fX9_whip, if_pos c_3]; done)
    rw [hf] at hR
    exact hR _ _ dX9_whip_25
  · refine r_iload_n (pc := 12) C dX9_whip_12 2 rfl ?_
    refine r_i2l (pc := 13) C dX9_whip_13 ?_
    refine r_lconst (pc := 14) 0 C dX9_whip_14 rfl ?_
    refine r_ldc2 (pc := 15) C dX9_whip_15 kl_X9_175 ?_
    obtain ⟨r_4, e_r_4⟩ : ∃ z : Int32, z = fX9_in (((m : Int32)).toInt64) 0 60 := ⟨_, rfl⟩
    have K_5 := ctX9_in l g   (((m : Int32)).toInt64) 0 60 
    rw [← e_r_4] at K_5
    refine x_pI (pc := 18) C ms_X9_50 K_5 dX9_whip_18 (by decide) [] rfl (by decide) rfl (Nat.le_of_ble_eq_true rfl) ⟨Nat.zero_le _, Nat.zero_le _⟩ ?_
    refine r_ifne (pc := 21) 26 C dX9_whip_21 (by decide) (fun c_6 => ?_) (fun c_6 => ?_)
    · obtain ⟨h_7, qh_7⟩ := natc (x := m) (B := 61) (by omega) (in_nat (b := 60) (by decide) (by rw [← e_r_4]; assumption))
      refine u_lvq [(0, .ref zm), (1, .int v), (2, .int (nI m.toNatClampNeg))] (by rw [qh_7]) ?_
      refine r_bipush (pc := 26) (-9) C dX9_whip_26 rfl ?_
      refine r_istore_n (pc := 28) [(3, .int (-9)), (0, .ref zm), (1, .int v), (2, .int (nI m.toNatClampNeg))] C dX9_whip_28 (by decide) rfl ?_
      refine r_iconst (pc := 29) (-1) C dX9_whip_29 rfl ?_
      refine r_istore (pc := 30) [(4, .int (-1)), (3, .int (-9)), (0, .ref zm), (1, .int v), (2, .int (nI m.toNatClampNeg))] C dX9_whip_30 (by decide) rfl ?_
      refine r_iconst (pc := 32) 0 C dX9_whip_32 rfl ?_
      refine r_istore (pc := 33) [(5, .int 0), (4, .int (-1)), (3, .int (-9)), (0, .ref zm), (1, .int v), (2, .int (nI m.toNatClampNeg))] C dX9_whip_33 (by decide) rfl ?_
      have hX8 : ∀ (x3_28 : Int32) (so0_29 : Nat → Int32) , (x3_28 = (lX9_whip_35 v mp mt ml md m mt (-9) (-1) 0 so).1) → (so0_29 = (lX9_whip_35 v mp mt ml md m mt (-9) (-1) 0 so).2) → Vw g X 7 0 0 (fl [wMod g zm za1 za2 za3 za4 za5 za6 za7 za8 za9 zaa mp mt ml md np nt nl nP nS nD so0_29 ac mk mn mx nx mq mv wr ts sn sF sB sS mm]) 110 [(3, .int x3_28)] [] := by
        intro x3_28 so0_29 e_x3_28 e_so0_29 
        refine r_iload_n (pc := 110) C dX9_whip_110 0 rfl ?_
        have hf : fX9_whip mp mt ml md so v m = (x3_28, so0_29) := by first | (simp only [fX9_whip, ← e_r_1, ← e_r_4, ← e_x3_28, ← e_so0_29, if_neg c_3, if_neg c_6]; done) | (subst e_r_1 e_r_4 e_x3_28 e_so0_29; simp only [fX9_whip, if_neg c_3, if_neg c_6]; done) | (subst e_r_1 e_r_4 e_x3_28 e_so0_29; rfl) | (subst e_r_1 e_r_4 e_x3_28 e_so0_29; simp [fX9_whip, if_neg c_3, if_neg c_6]; done)
        rw [hf] at hR
        exact hR _ _ dX9_whip_111
      have hL8 : ∀ (n : Nat) (x3_8 : Int32) (x4_8 : Int32) (x5_8 : Nat) (so0_8 : Nat → Int32) , (x5_8 + n = mt) → lX9_whip_35 v mp mt ml md m n x3_8 x4_8 x5_8 so0_8 = lX9_whip_35 v mp mt ml md m mt (-9) (-1) 0 so → Vw g X 7 0 0 (fl [wMod g zm za1 za2 za3 za4 za5 za6 za7 za8 za9 zaa mp mt ml md np nt nl nP nS nD so0_8 ac mk mn mx nx mq mv wr ts sn sF sB sS mm]) 35 [(0, .ref zm), (1, .int v), (2, .int (nI m.toNatClampNeg)), (3, .int x3_8), (4, .int x4_8), (5, .int (nI x5_8))] [] := by
        intro n
        induction n with
        | zero =>
          intro x3_8 x4_8 x5_8 so0_8 hr8 hV8
          refine r_iload (pc := 35) C dX9_whip_35 5 rfl ?_
          refine r_aload_n (pc := 37) C dX9_whip_37 0 rfl ?_
          refine r_get (pc := 38) C fl_X9_108 dX9_whip_38 0 rfl rfl ?_
          refine r_icmpgeN (pc := 41) x5_8 mt 110 C dX9_whip_41 (by decide) rfl rfl (by omega) (by omega) (fun _ => ?_) (fun c_9 => absurd (by omega) c_9)
          refine u_lv [(3, .int x3_8)] [3] rfl ?_
          exact hX8 _ _ (by rw [← hV8]; first | rfl | (simp only [lX9_whip_35]; done) | (simp [lX9_whip_35]; done)) (by rw [← hV8]; first | rfl | (simp only [lX9_whip_35]; done) | (simp [lX9_whip_35]; done))
        | succ n ih =>
          intro x3_8 x4_8 x5_8 so0_8 hr8 hV8
          refine r_iload (pc := 35) C dX9_whip_35 5 rfl ?_
          refine r_aload_n (pc := 37) C dX9_whip_37 0 rfl ?_
          refine r_get (pc := 38) C fl_X9_108 dX9_whip_38 0 rfl rfl ?_
          refine r_icmpgeN (pc := 41) x5_8 mt 110 C dX9_whip_41 (by decide) rfl rfl (by omega) (by omega) (fun c_10 => absurd c_10 (by omega)) (fun _ => ?_)
          refine r_aload_n (pc := 44) C dX9_whip_44 0 rfl ?_
          refine r_iload (pc := 45) C dX9_whip_45 5 rfl ?_
          obtain ⟨r_11, e_r_11⟩ : ∃ z : Int32, z = fX9_stands so0_8 (nI x5_8) := ⟨_, rfl⟩
          have K_12 := ctX9_stands l g zm za1 za2 za3 za4 za5 za6 za7 za8 za9 zaa mp mt ml md np nt nl nP nS nD so0_8 ac mk mn mx nx mq mv wr ts sn sF sB sS mm (nI x5_8) 
          rw [← e_r_11] at K_12
          refine w_pI (pc := 47) C mv_X9_138 K_12 dX9_whip_47 (by decide) [0] rfl (by decide) 0 rfl rfl (Nat.le_of_ble_eq_true rfl) ⟨Nat.zero_le _, Nat.zero_le _⟩ ?_
          refine r_ifeq (pc := 50) 104 C dX9_whip_50 (by decide) (fun c_13 => ?_) (fun c_13 => ?_)
          · refine r_iinc (pc := 104) (nI (x5_8 + 1)) [(5, .int (nI (x5_8 + 1))), (0, .ref zm), (1, .int v), (2, .int (nI m.toNatClampNeg)), (3, .int x3_8), (4, .int x4_8)] C dX9_whip_104 5 rfl (inc1 _) (by decide) rfl ?_
            refine r_goto (pc := 107) 35 C dX9_whip_107 (by decide) ?_
            refine u_lv [(0, .ref zm), (1, .int v), (2, .int (nI m.toNatClampNeg)), (3, .int x3_8), (4, .int x4_8), (5, .int (nI (x5_8 + 1)))] [1, 2, 3, 4, 5, 0] rfl ?_
            exact ih x3_8 x4_8 (x5_8 + 1) so0_8 (by omega) (by rw [← hV8]; first | (simp only [lX9_whip_35, ← e_r_11, if_pos c_13]; done) | (subst e_r_11; simp only [lX9_whip_35, if_pos c_13]; done) | (subst e_r_11; rfl) | (subst e_r_11; simp [lX9_whip_35, if_pos c_13]; done))
          · refine r_aload_n (pc := 53) C dX9_whip_53 0 rfl ?_
            refine r_iconst (pc := 54) 0 C dX9_whip_54 rfl ?_
            refine r_sipush (pc := 55) 195 C dX9_whip_55 rfl ?_
            obtain ⟨so_14, e_so_14⟩ : ∃ z : Nat → Int32, z = fX9_copies so0_8 0 195 := ⟨_, rfl⟩
            have K_15 := ctX9_copies l g zm za1 za2 za3 za4 za5 za6 za7 za8 za9 zaa mp mt ml md np nt nl nP nS nD so0_8 ac mk mn mx nx mq mv wr ts sn sF sB sS mm 0 195 (by omega) (by omega)
            rw [← e_so_14] at K_15
            refine w_cV (pc := 58) [wMod g zm za1 za2 za3 za4 za5 za6 za7 za8 za9 zaa mp mt ml md np nt nl nP nS nD so_14 ac mk mn mx nx mq mv wr ts sn sF sB sS mm] C mv_X9_131 K_15 dX9_whip_58 (by decide) [0] rfl (by decide) (by simp only [List.map_cons, List.map_nil, adMod]) rfl 0 rfl rfl (Nat.le_of_ble_eq_true rfl) ⟨Nat.zero_le _, Nat.zero_le _⟩ ?_
            refine r_aload_n (pc := 61) C dX9_whip_61 0 rfl ?_
            refine r_sipush (pc := 62) 195 C dX9_whip_62 rfl ?_
            refine r_iload (pc := 65) C dX9_whip_65 5 rfl ?_
            refine r_iload_n (pc := 67) C dX9_whip_67 1 rfl ?_
            obtain ⟨so_16, e_so_16⟩ : ∃ z : Nat → Int32, z = fX9_whipped so_14 195 x5_8 v := ⟨_, rfl⟩
            have K_17 := ctX9_whipped l g zm za1 za2 za3 za4 za5 za6 za7 za8 za9 zaa mp mt ml md np nt nl nP nS nD so_14 ac mk mn mx nx mq mv wr ts sn sF sB sS mm 195 x5_8 v (by omega) (by omega)
            rw [← e_so_16] at K_17
            refine w_cV (pc := 68) [wMod g zm za1 za2 za3 za4 za5 za6 za7 za8 za9 zaa mp mt ml md np nt nl nP nS nD so_16 ac mk mn mx nx mq mv wr ts sn sF sB sS mm] C mv_X9_169 K_17 dX9_whip_68 (by decide) [0] rfl (by decide) (by simp only [List.map_cons, List.map_nil, adMod]) rfl 0 rfl rfl (Nat.le_of_ble_eq_true rfl) ⟨Nat.zero_le _, Nat.zero_le _⟩ ?_
            refine r_aload_n (pc := 71) C dX9_whip_71 0 rfl ?_
            refine r_iload_n (pc := 72) C dX9_whip_72 2 rfl ?_
            obtain ⟨r_18, e_r_18⟩ : ∃ z : Int32, z = (fX9_standBehind mp mt ml md so_16 m.toNatClampNeg).1 := ⟨_, rfl⟩
            obtain ⟨so_19, e_so_19⟩ : ∃ z : Nat → Int32, z = (fX9_standBehind mp mt ml md so_16 m.toNatClampNeg).2 := ⟨_, rfl⟩
            have K_20 := ctX9_standBehind l g zm za1 za2 za3 za4 za5 za6 za7 za8 za9 zaa mp mt ml md np nt nl nP nS nD so_16 ac mk mn mx nx mq mv wr ts sn sF sB sS mm m.toNatClampNeg (by omega) (by assumption) (by omega)
            rw [← e_r_18, ← e_so_19] at K_20
            refine w_cI (pc := 73) [wMod g zm za1 za2 za3 za4 za5 za6 za7 za8 za9 zaa mp mt ml md np nt nl nP nS nD so_19 ac mk mn mx nx mq mv wr ts sn sF sB sS mm] C mv_X9_177 K_20 dX9_whip_73 (by decide) [0] rfl (by decide) (by simp only [List.map_cons, List.map_nil, adMod]) rfl 0 rfl rfl (Nat.le_of_ble_eq_true rfl) ⟨Nat.zero_le _, Nat.zero_le _⟩ ?_
            obtain ⟨r_21, e_r_21⟩ : ∃ z : Int32, z = fX9_bits r_18 := ⟨_, rfl⟩
            have K_22 := ctX9_bits l g   r_18 
            rw [← e_r_21] at K_22
            refine x_pI (pc := 76) C ms_X9_164 K_22 dX9_whip_76 (by decide) [] rfl (by decide) rfl (Nat.le_of_ble_eq_true rfl) ⟨Nat.zero_le _, Nat.zero_le _⟩ ?_
            refine r_istore (pc := 79) [(6, .int r_21), (0, .ref zm), (1, .int v), (2, .int (nI m.toNatClampNeg)), (3, .int x3_8), (4, .int x4_8), (5, .int (nI x5_8))] C dX9_whip_79 (by decide) rfl ?_
            refine r_iload (pc := 81) C dX9_whip_81 0 rfl ?_
            refine r_iload (pc := 83) C dX9_whip_83 5 rfl ?_
            have hJ_25 : ∀ (w_24 : Int32) , (w_24 = (if r_21 ≤ x4_8 then (x3_8) else ((nI x5_8)))) → Vw g X 7 0 0 (fl [wMod g zm za1 za2 za3 za4 za5 za6 za7 za8 za9 zaa mp mt ml md np nt nl nP nS nD so_19 ac mk mn mx nx mq mv wr ts sn sF sB sS mm]) 94 [(0, .ref zm), (1, .int v), (2, .int (nI m.toNatClampNeg)), (4, .int x4_8), (5, .int (nI x5_8)), (6, .int r_21)] [.int w_24] := by
              intro w_24 e_w_24
              refine r_istore_n (pc := 94) [(3, .int w_24), (0, .ref zm), (1, .int v), (2, .int (nI m.toNatClampNeg)), (4, .int x4_8), (5, .int (nI x5_8)), (6, .int r_21)] C dX9_whip_94 (by decide) rfl ?_
              refine r_iload (pc := 95) C dX9_whip_95 4 rfl ?_
              refine r_iload (pc := 97) C dX9_whip_97 6 rfl ?_
              obtain ⟨r_26, e_r_26⟩ : ∃ z : Int32, z = fX9_larger x4_8 r_21 := ⟨_, rfl⟩
              have K_27 := ctX9_larger l g   x4_8 r_21 
              rw [← e_r_26] at K_27
              refine x_pI (pc := 99) C ms_X9_145 K_27 dX9_whip_99 (by decide) [] rfl (by decide) rfl (Nat.le_of_ble_eq_true rfl) ⟨Nat.zero_le _, Nat.zero_le _⟩ ?_
              refine r_istore (pc := 102) [(4, .int r_26), (3, .int w_24), (0, .ref zm), (1, .int v), (2, .int (nI m.toNatClampNeg)), (5, .int (nI x5_8)), (6, .int r_21)] C dX9_whip_102 (by decide) rfl ?_
              refine r_iinc (pc := 104) (nI (x5_8 + 1)) [(5, .int (nI (x5_8 + 1))), (4, .int r_26), (3, .int w_24), (0, .ref zm), (1, .int v), (2, .int (nI m.toNatClampNeg)), (6, .int r_21)] C dX9_whip_104 5 rfl (inc1 _) (by decide) rfl ?_
              refine r_goto (pc := 107) 35 C dX9_whip_107 (by decide) ?_
              refine u_lv [(0, .ref zm), (1, .int v), (2, .int (nI m.toNatClampNeg)), (3, .int w_24), (4, .int r_26), (5, .int (nI (x5_8 + 1)))] [3, 4, 5, 2, 1, 0] rfl ?_
              exact ih w_24 r_26 (x5_8 + 1) so_19 (by omega) (by rw [← hV8]; first | (simp only [lX9_whip_35, ← e_r_11, ← e_so_14, ← e_so_16, ← e_r_18, ← e_so_19, ← e_r_21, ← e_w_24, ← e_r_26, if_neg c_13]; done) | (subst e_r_11 e_so_14 e_so_16 e_r_18 e_so_19 e_r_21 e_w_24 e_r_26; simp only [lX9_whip_35, if_neg c_13]; done) | (subst e_r_11 e_so_14 e_so_16 e_r_18 e_so_19 e_r_21 e_w_24 e_r_26; rfl) | (subst e_r_11 e_so_14 e_so_16 e_r_18 e_so_19 e_r_21 e_w_24 e_r_26; simp [lX9_whip_35, if_neg c_13]; done))
            refine r_icmple (pc := 85) 93 C dX9_whip_85 (by decide) (fun c_23 => ?_) (fun c_23 => ?_)
            · refine r_iload_n (pc := 93) C dX9_whip_93 4 rfl ?_
              refine u_lv [(0, .ref zm), (1, .int v), (2, .int (nI m.toNatClampNeg)), (4, .int x4_8), (5, .int (nI x5_8)), (6, .int r_21)] [1, 2, 3, 5, 6, 0] rfl ?_
              exact hJ_25 _ (by first | (simp only [if_pos c_23]; done) | rfl | (simp [if_pos c_23]; done))
            · refine r_iload (pc := 88) C dX9_whip_88 6 rfl ?_
              refine r_goto (pc := 90) 94 C dX9_whip_90 (by decide) ?_
              refine u_lv [(0, .ref zm), (1, .int v), (2, .int (nI m.toNatClampNeg)), (4, .int x4_8), (5, .int (nI x5_8)), (6, .int r_21)] [1, 2, 3, 5, 6, 0] rfl ?_
              exact hJ_25 _ (by first | (simp only [if_neg c_23]; done) | rfl | (simp [if_neg c_23]; done))
      refine u_lv [(0, .ref zm), (1, .int v), (2, .int (nI m.toNatClampNeg)), (3, .int (-9)), (4, .int (-1)), (5, .int 0)] [3, 4, 5, 2, 1, 0] rfl ?_
      exact hL8 mt (-9) (-1) 0 so (by omega) rfl
    · refine r_iconst (pc := 24) (-1) C dX9_whip_24 rfl ?_
      have hf : fX9_whip mp mt ml md so v m = ((-1), so) := by first | (simp only [fX9_whip, ← e_r_1, ← e_r_4, if_neg c_3, if_pos c_6]; done) | (subst e_r_1 e_r_4; simp only [fX9_whip, if_neg c_3, if_pos c_6]; done) | (subst e_r_1 e_r_4; rfl) | (subst e_r_1 e_r_4; simp [fX9_whip, if_neg c_3, if_pos c_6]; done)
      rw [hf] at hR
      exact hR _ _ dX9_whip_25
theorem ctX9_whip (l : Launch) (g : Gl) (zm : Nat) (za1 : Nat) (za2 : Nat) (za3 : Nat) (za4 : Nat) (za5 : Nat) (za6 : Nat) (za7 : Nat) (za8 : Nat) (za9 : Nat) (zaa : Nat) (mp : Int32) (mt : Nat) (ml : Int32) (md : Nat → Int32) (np : Int32) (nt : Nat) (nl : Int32) (nP : Nat → Int32) (nS : Nat → Int32) (nD : Nat → Int32) (so : Nat → Int32) (ac : Nat) (mk : Nat → Int32) (mn : Nat) (mx : Nat → Int32) (nx : Nat) (mq : Nat) (mv : Int32) (wr : Int32) (ts : Int32) (sn : Nat) (sF : Nat → Int32) (sB : Nat → Int32) (sS : Nat → Int32) (mm : Int64) (v : Int32) (m : Int32) (q0 : mt ≤ 6) (q1 : ¬ mp = 0) : CtI l g yX9_whip cX9_whip 7 (some .int) 5 [.ref zm, .int v, .int m] (fl [wMod g zm za1 za2 za3 za4 za5 za6 za7 za8 za9 zaa mp mt ml md np nt nl nP nS nD so ac mk mn mx nx mq mv wr ts sn sF sB sS mm]) ((fX9_whip mp mt ml md so v m).1) (fl [wMod g zm za1 za2 za3 za4 za5 za6 za7 za8 za9 zaa mp mt ml md np nt nl nP nS nD ((fX9_whip mp mt ml md so v m).2) ac mk mn mx nx mq mv wr ts sn sF sB sS mm]) := mkI .int rfl rfl [(0, .ref zm), (1, .int v), (2, .int m)] (by decide) (Nat.le_of_ble_eq_true rfl) rfl (fun X C hR => bX9_whip C zm za1 za2 za3 za4 za5 za6 za7 za8 za9 zaa mp mt ml md np nt nl nP nS nD so ac mk mn mx nx mq mv wr ts sn sF sB sS mm v m q0 q1 hR)

def fX9_keep (so : Nat → Int32) (mk : Nat → Int32) (i : Int32) : (Int32) × (Nat → Int32) × (Nat → Int32) := (let r_1 : Int32 := fX9_in (((i : Int32)).toInt64) 0 1; if r_1 = 0 then (((-1), so, mk)) else (let so_5 : Nat → Int32 := fX9_copies so 0 (165 + (i.toNatClampNeg * 15)); let mk_7 : Nat → Int32 := upd mk i.toNatClampNeg 1; ((so_5 13), so_5, mk_7)))
set_option maxHeartbeats 4000000 in
set_option maxRecDepth 100000 in
theorem bX9_keep {l : Launch} {g : Gl} {X : Cx} (C : Ok l g X RX9 cX9_keep 2 1) (zm : Nat) (za1 : Nat) (za2 : Nat) (za3 : Nat) (za4 : Nat) (za5 : Nat) (za6 : Nat) (za7 : Nat) (za8 : Nat) (za9 : Nat) (zaa : Nat) (mp : Int32) (mt : Nat) (ml : Int32) (md : Nat → Int32) (np : Int32) (nt : Nat) (nl : Int32) (nP : Nat → Int32) (nS : Nat → Int32) (nD : Nat → Int32) (so : Nat → Int32) (ac : Nat) (mk : Nat → Int32) (mn : Nat) (mx : Nat → Int32) (nx : Nat) (mq : Nat) (mv : Int32) (wr : Int32) (ts : Int32) (sn : Nat) (sF : Nat → Int32) (sB : Nat → Int32) (sS : Nat → Int32) (mm : Int64) (i : Int32) (hR : RetI g X cX9_keep 2 0 0 ((fX9_keep so mk i).1) (fl [wMod g zm za1 za2 za3 za4 za5 za6 za7 za8 za9 zaa mp mt ml md np nt nl nP nS nD ((fX9_keep so mk i).2.1) ac ((fX9_keep so mk i).2.2) mn mx nx mq mv wr ts sn sF sB sS mm])) : Vw g X 2 0 0 (fl [wMod g zm za1 za2 za3 za4 za5 za6 za7 za8 za9 zaa mp mt ml md np nt nl nP nS nD so ac mk mn mx nx mq mv wr ts sn sF sB sS mm]) 0 [(0, .ref zm), (1, .int i)] [] := by
  refine r_iload_n (pc := 0) C dX9_keep_0 1 rfl ?_
  refine r_i2l (pc := 1) C dX9_keep_1 ?_
  refine r_lconst (pc := 2) 0 C dX9_keep_2 rfl ?_
  refine r_lconst (pc := 3) 1 C dX9_keep_3 rfl ?_
  obtain ⟨r_1, e_r_1⟩ : ∃ z : Int32, z = fX9_in (((i : Int32)).toInt64) 0 1 := ⟨_, rfl⟩
  have K_2 := ctX9_in l g   (((i : Int32)).toInt64) 0 1 
  rw [← e_r_1] at K_2
  refine x_pI (pc := 4) C ms_X9_50 K_2 dX9_keep_4 (by decide) [] rfl (by decide) rfl (Nat.le_of_ble_eq_true rfl) ⟨Nat.zero_le _, Nat.zero_le _⟩ ?_
  refine r_ifne (pc := 7) 12 C dX9_keep_7 (by decide) (fun c_3 => ?_) (fun c_3 => ?_)
  · obtain ⟨h_4, qh_4⟩ := natc (x := i) (B := 2) (by omega) (in_nat (b := 1) (by decide) (by rw [← e_r_1]; assumption))
    refine u_lvq [(0, .ref zm), (1, .int (nI i.toNatClampNeg))] (by rw [qh_4]) ?_
    refine r_aload_n (pc := 12) C dX9_keep_12 0 rfl ?_
    refine r_iconst (pc := 13) 0 C dX9_keep_13 rfl ?_
    refine r_sipush (pc := 14) 165 C dX9_keep_14 rfl ?_
    refine r_iload_n (pc := 17) C dX9_keep_17 1 rfl ?_
    refine r_bipush (pc := 18) 15 C dX9_keep_18 rfl ?_
    refine r_imulN (pc := 20) i.toNatClampNeg 15 C dX9_keep_20 rfl rfl ?_
    refine r_iaddN (pc := 21) 165 (i.toNatClampNeg * 15) C dX9_keep_21 rfl rfl ?_
    obtain ⟨so_5, e_so_5⟩ : ∃ z : Nat → Int32, z = fX9_copies so 0 (165 + (i.toNatClampNeg * 15)) := ⟨_, rfl⟩
    have K_6 := ctX9_copies l g zm za1 za2 za3 za4 za5 za6 za7 za8 za9 zaa mp mt ml md np nt nl nP nS nD so ac mk mn mx nx mq mv wr ts sn sF sB sS mm 0 (165 + (i.toNatClampNeg * 15)) (by omega) (by omega)
    rw [← e_so_5] at K_6
    refine w_cV (pc := 22) [wMod g zm za1 za2 za3 za4 za5 za6 za7 za8 za9 zaa mp mt ml md np nt nl nP nS nD so_5 ac mk mn mx nx mq mv wr ts sn sF sB sS mm] C mv_X9_131 K_6 dX9_keep_22 (by decide) [0] rfl (by decide) (by simp only [List.map_cons, List.map_nil, adMod]) rfl 0 rfl rfl (Nat.le_of_ble_eq_true rfl) ⟨Nat.zero_le _, Nat.zero_le _⟩ ?_
    refine r_aload_n (pc := 25) C dX9_keep_25 0 rfl ?_
    refine r_get (pc := 26) C fl_X9_32 dX9_keep_26 0 rfl rfl ?_
    refine r_iload_n (pc := 29) C dX9_keep_29 1 rfl ?_
    refine r_iconst (pc := 30) 1 C dX9_keep_30 rfl ?_
    obtain ⟨mk_7, e_mk_7⟩ : ∃ z : Nat → Int32, z = upd mk i.toNatClampNeg 1 := ⟨_, rfl⟩
    refine r_iast (pc := 31) i.toNatClampNeg (fl [wMod g zm za1 za2 za3 za4 za5 za6 za7 za8 za9 zaa mp mt ml md np nt nl nP nS nD so_5 ac mk_7 mn mx nx mq mv wr ts sn sF sB sS mm]) C dX9_keep_31 6 rfl rfl (by omega) (by decide) (by rw [← e_mk_7]; rfl) ?_
    refine r_aload_n (pc := 32) C dX9_keep_32 0 rfl ?_
    refine r_get (pc := 33) C fl_X9_29 dX9_keep_33 0 rfl rfl ?_
    refine r_bipush (pc := 36) 13 C dX9_keep_36 rfl ?_
    refine r_iald (pc := 38) 13 C dX9_keep_38 5 rfl rfl (by omega) (by decide) ?_
    have hf : fX9_keep so mk i = ((so_5 13), so_5, mk_7) := by first | (simp only [fX9_keep, ← e_r_1, ← e_so_5, ← e_mk_7, if_neg c_3]; done) | (subst e_r_1 e_so_5 e_mk_7; simp only [fX9_keep, if_neg c_3]; done) | (subst e_r_1 e_so_5 e_mk_7; rfl) | (subst e_r_1 e_so_5 e_mk_7; simp [fX9_keep, if_neg c_3]; done)
    rw [hf] at hR
    exact hR _ _ dX9_keep_39
  · refine r_iconst (pc := 10) (-1) C dX9_keep_10 rfl ?_
    have hf : fX9_keep so mk i = ((-1), so, mk) := by first | (simp only [fX9_keep, ← e_r_1, if_pos c_3]; done) | (subst e_r_1; simp only [fX9_keep, if_pos c_3]; done) | (subst e_r_1; rfl) | (subst e_r_1; simp [fX9_keep, if_pos c_3]; done)
    rw [hf] at hR
    exact hR _ _ dX9_keep_11
theorem ctX9_keep (l : Launch) (g : Gl) (zm : Nat) (za1 : Nat) (za2 : Nat) (za3 : Nat) (za4 : Nat) (za5 : Nat) (za6 : Nat) (za7 : Nat) (za8 : Nat) (za9 : Nat) (zaa : Nat) (mp : Int32) (mt : Nat) (ml : Int32) (md : Nat → Int32) (np : Int32) (nt : Nat) (nl : Int32) (nP : Nat → Int32) (nS : Nat → Int32) (nD : Nat → Int32) (so : Nat → Int32) (ac : Nat) (mk : Nat → Int32) (mn : Nat) (mx : Nat → Int32) (nx : Nat) (mq : Nat) (mv : Int32) (wr : Int32) (ts : Int32) (sn : Nat) (sF : Nat → Int32) (sB : Nat → Int32) (sS : Nat → Int32) (mm : Int64) (i : Int32) : CtI l g yX9_keep cX9_keep 2 (some .int) 1 [.ref zm, .int i] (fl [wMod g zm za1 za2 za3 za4 za5 za6 za7 za8 za9 zaa mp mt ml md np nt nl nP nS nD so ac mk mn mx nx mq mv wr ts sn sF sB sS mm]) ((fX9_keep so mk i).1) (fl [wMod g zm za1 za2 za3 za4 za5 za6 za7 za8 za9 zaa mp mt ml md np nt nl nP nS nD ((fX9_keep so mk i).2.1) ac ((fX9_keep so mk i).2.2) mn mx nx mq mv wr ts sn sF sB sS mm]) := mkI .int rfl rfl [(0, .ref zm), (1, .int i)] (by decide) (Nat.le_of_ble_eq_true rfl) rfl (fun X C hR => bX9_keep C zm za1 za2 za3 za4 za5 za6 za7 za8 za9 zaa mp mt ml md np nt nl nP nS nD so ac mk mn mx nx mq mv wr ts sn sF sB sS mm i hR)

def fX9_back (so : Nat → Int32) (ac : Nat) (mk : Nat → Int32) (i : Int32) : (Int32) × (Nat → Int32) × (Nat) := (let r_1 : Int32 := fX9_in (((i : Int32)).toInt64) 0 1; if r_1 = 0 then (((-1), so, ac)) else (if (mk i.toNatClampNeg) = 0 then (((-2), so, ac)) else (let so_6 : Nat → Int32 := fX9_copies so (165 + (i.toNatClampNeg * 15)) 0; ((so_6 13), so_6, 0))))
set_option maxHeartbeats 4000000 in
set_option maxRecDepth 100000 in
theorem bX9_back {l : Launch} {g : Gl} {X : Cx} (C : Ok l g X RX9 cX9_back 2 1) (zm : Nat) (za1 : Nat) (za2 : Nat) (za3 : Nat) (za4 : Nat) (za5 : Nat) (za6 : Nat) (za7 : Nat) (za8 : Nat) (za9 : Nat) (zaa : Nat) (mp : Int32) (mt : Nat) (ml : Int32) (md : Nat → Int32) (np : Int32) (nt : Nat) (nl : Int32) (nP : Nat → Int32) (nS : Nat → Int32) (nD : Nat → Int32) (so : Nat → Int32) (ac : Nat) (mk : Nat → Int32) (mn : Nat) (mx : Nat → Int32) (nx : Nat) (mq : Nat) (mv : Int32) (wr : Int32) (ts : Int32) (sn : Nat) (sF : Nat → Int32) (sB : Nat → Int32) (sS : Nat → Int32) (mm : Int64) (i : Int32) (hR : RetI g X cX9_back 2 0 0 ((fX9_back so ac mk i).1) (fl [wMod g zm za1 za2 za3 za4 za5 za6 za7 za8 za9 zaa mp mt ml md np nt nl nP nS nD ((fX9_back so ac mk i).2.1) ((fX9_back so ac mk i).2.2) mk mn mx nx mq mv wr ts sn sF sB sS mm])) : Vw g X 2 0 0 (fl [wMod g zm za1 za2 za3 za4 za5 za6 za7 za8 za9 zaa mp mt ml md np nt nl nP nS nD so ac mk mn mx nx mq mv wr ts sn sF sB sS mm]) 0 [(0, .ref zm), (1, .int i)] [] := by
  refine r_iload_n (pc := 0) C dX9_back_0 1 rfl ?_
  refine r_i2l (pc := 1) C dX9_back_1 ?_
  refine r_lconst (pc := 2) 0 C dX9_back_2 rfl ?_
  refine r_lconst (pc := 3) 1 C dX9_back_3 rfl ?_
  obtain ⟨r_1, e_r_1⟩ : ∃ z : Int32, z = fX9_in (((i : Int32)).toInt64) 0 1 := ⟨_, rfl⟩
  have K_2 := ctX9_in l g   (((i : Int32)).toInt64) 0 1 
  rw [← e_r_1] at K_2
  refine x_pI (pc := 4) C ms_X9_50 K_2 dX9_back_4 (by decide) [] rfl (by decide) rfl (Nat.le_of_ble_eq_true rfl) ⟨Nat.zero_le _, Nat.zero_le _⟩ ?_
  refine r_ifne (pc := 7) 12 C dX9_back_7 (by decide) (fun c_3 => ?_) (fun c_3 => ?_)
  · obtain ⟨h_4, qh_4⟩ := natc (x := i) (B := 2) (by omega) (in_nat (b := 1) (by decide) (by rw [← e_r_1]; assumption))
    refine u_lvq [(0, .ref zm), (1, .int (nI i.toNatClampNeg))] (by rw [qh_4]) ?_
    refine r_aload_n (pc := 12) C dX9_back_12 0 rfl ?_
    refine r_get (pc := 13) C fl_X9_32 dX9_back_13 0 rfl rfl ?_
    refine r_iload_n (pc := 16) C dX9_back_16 1 rfl ?_
    refine r_iald (pc := 17) i.toNatClampNeg C dX9_back_17 6 rfl rfl (by omega) (by decide) ?_
    refine r_ifne (pc := 18) 24 C dX9_back_18 (by decide) (fun c_5 => ?_) (fun c_5 => ?_)
    · refine r_aload_n (pc := 24) C dX9_back_24 0 rfl ?_
      refine r_sipush (pc := 25) 165 C dX9_back_25 rfl ?_
      refine r_iload_n (pc := 28) C dX9_back_28 1 rfl ?_
      refine r_bipush (pc := 29) 15 C dX9_back_29 rfl ?_
      refine r_imulN (pc := 31) i.toNatClampNeg 15 C dX9_back_31 rfl rfl ?_
      refine r_iaddN (pc := 32) 165 (i.toNatClampNeg * 15) C dX9_back_32 rfl rfl ?_
      refine r_iconst (pc := 33) 0 C dX9_back_33 rfl ?_
      obtain ⟨so_6, e_so_6⟩ : ∃ z : Nat → Int32, z = fX9_copies so (165 + (i.toNatClampNeg * 15)) 0 := ⟨_, rfl⟩
      have K_7 := ctX9_copies l g zm za1 za2 za3 za4 za5 za6 za7 za8 za9 zaa mp mt ml md np nt nl nP nS nD so ac mk mn mx nx mq mv wr ts sn sF sB sS mm (165 + (i.toNatClampNeg * 15)) 0 (by omega) (by omega)
      rw [← e_so_6] at K_7
      refine w_cV (pc := 34) [wMod g zm za1 za2 za3 za4 za5 za6 za7 za8 za9 zaa mp mt ml md np nt nl nP nS nD so_6 ac mk mn mx nx mq mv wr ts sn sF sB sS mm] C mv_X9_131 K_7 dX9_back_34 (by decide) [0] rfl (by decide) (by simp only [List.map_cons, List.map_nil, adMod]) rfl 0 rfl rfl (Nat.le_of_ble_eq_true rfl) ⟨Nat.zero_le _, Nat.zero_le _⟩ ?_
      refine r_aload_n (pc := 37) C dX9_back_37 0 rfl ?_
      refine r_iconst (pc := 38) 0 C dX9_back_38 rfl ?_
      refine r_put (pc := 39) (fl [wMod g zm za1 za2 za3 za4 za5 za6 za7 za8 za9 zaa mp mt ml md np nt nl nP nS nD so_6 0 mk mn mx nx mq mv wr ts sn sF sB sS mm]) C fp_X9_111 dX9_back_39 0 rfl (Nat.le_of_ble_eq_true rfl) rfl rfl rfl ?_
      refine r_aload_n (pc := 42) C dX9_back_42 0 rfl ?_
      refine r_get (pc := 43) C fl_X9_29 dX9_back_43 0 rfl rfl ?_
      refine r_bipush (pc := 46) 13 C dX9_back_46 rfl ?_
      refine r_iald (pc := 48) 13 C dX9_back_48 5 rfl rfl (by omega) (by decide) ?_
      have hf : fX9_back so ac mk i = ((so_6 13), so_6, 0) := by first | (simp only [fX9_back, ← e_r_1, ← e_so_6, if_neg c_3, if_neg c_5]; done) | (subst e_r_1 e_so_6; simp only [fX9_back, if_neg c_3, if_neg c_5]; done) | (subst e_r_1 e_so_6; rfl) | (subst e_r_1 e_so_6; simp [fX9_back, if_neg c_3, if_neg c_5]; done)
      rw [hf] at hR
      exact hR _ _ dX9_back_49
    · refine r_bipush (pc := 21) (-2) C dX9_back_21 rfl ?_
      have hf : fX9_back so ac mk i = ((-2), so, ac) := by first | (simp only [fX9_back, ← e_r_1, if_neg c_3, if_pos c_5]; done) | (subst e_r_1; simp only [fX9_back, if_neg c_3, if_pos c_5]; done) | (subst e_r_1; rfl) | (subst e_r_1; simp [fX9_back, if_neg c_3, if_pos c_5]; done)
      rw [hf] at hR
      exact hR _ _ dX9_back_23
  · refine r_iconst (pc := 10) (-1) C dX9_back_10 rfl ?_
    have hf : fX9_back so ac mk i = ((-1), so, ac) := by first | (simp only [fX9_back, ← e_r_1, if_pos c_3]; done) | (subst e_r_1; simp only [fX9_back, if_pos c_3]; done) | (subst e_r_1; rfl) | (subst e_r_1; simp [fX9_back, if_pos c_3]; done)
    rw [hf] at hR
    exact hR _ _ dX9_back_11
theorem ctX9_back (l : Launch) (g : Gl) (zm : Nat) (za1 : Nat) (za2 : Nat) (za3 : Nat) (za4 : Nat) (za5 : Nat) (za6 : Nat) (za7 : Nat) (za8 : Nat) (za9 : Nat) (zaa : Nat) (mp : Int32) (mt : Nat) (ml : Int32) (md : Nat → Int32) (np : Int32) (nt : Nat) (nl : Int32) (nP : Nat → Int32) (nS : Nat → Int32) (nD : Nat → Int32) (so : Nat → Int32) (ac : Nat) (mk : Nat → Int32) (mn : Nat) (mx : Nat → Int32) (nx : Nat) (mq : Nat) (mv : Int32) (wr : Int32) (ts : Int32) (sn : Nat) (sF : Nat → Int32) (sB : Nat → Int32) (sS : Nat → Int32) (mm : Int64) (i : Int32) : CtI l g yX9_back cX9_back 2 (some .int) 1 [.ref zm, .int i] (fl [wMod g zm za1 za2 za3 za4 za5 za6 za7 za8 za9 zaa mp mt ml md np nt nl nP nS nD so ac mk mn mx nx mq mv wr ts sn sF sB sS mm]) ((fX9_back so ac mk i).1) (fl [wMod g zm za1 za2 za3 za4 za5 za6 za7 za8 za9 zaa mp mt ml md np nt nl nP nS nD ((fX9_back so ac mk i).2.1) ((fX9_back so ac mk i).2.2) mk mn mx nx mq mv wr ts sn sF sB sS mm]) := mkI .int rfl rfl [(0, .ref zm), (1, .int i)] (by decide) (Nat.le_of_ble_eq_true rfl) rfl (fun X C hR => bX9_back C zm za1 za2 za3 za4 za5 za6 za7 za8 za9 zaa mp mt ml md np nt nl nP nS nD so ac mk mn mx nx mq mv wr ts sn sF sB sS mm i hR)

def fX9_sees (sn : Nat) (sF : Nat → Int32) (sB : Nat → Int32) (sS : Nat → Int32) (v : Int32) (m : Int32) (w : Int32) : (Int32) × (Nat) × (Nat → Int32) × (Nat → Int32) × (Nat → Int32) := (let r_1 : Int32 := fX9_in (((v : Int32)).toInt64) 1 60; if r_1 = 0 then (((-1), sn, sF, sB, sS)) else (let r_4 : Int32 := fX9_in (((m : Int32)).toInt64) 1 20; if r_4 = 0 then (((-1), sn, sF, sB, sS)) else (let r_7 : Int32 := fX9_in (((w : Int32)).toInt64) 0 60; if r_7 = 0 then (((-1), sn, sF, sB, sS)) else (if sn = 6 then (((-3), sn, sF, sB, sS)) else (let sF_11 : Nat → Int32 := upd sF sn v; let sB_12 : Nat → Int32 := upd sB sn m; let sS_13 : Nat → Int32 := upd sS sn w; ((nI (sn + 1)), (sn + 1), sF_11, sB_12, sS_13))))))
set_option maxHeartbeats 4000000 in
set_option maxRecDepth 100000 in
theorem bX9_sees {l : Launch} {g : Gl} {X : Cx} (C : Ok l g X RX9 cX9_sees 4 1) (zm : Nat) (za1 : Nat) (za2 : Nat) (za3 : Nat) (za4 : Nat) (za5 : Nat) (za6 : Nat) (za7 : Nat) (za8 : Nat) (za9 : Nat) (zaa : Nat) (mp : Int32) (mt : Nat) (ml : Int32) (md : Nat → Int32) (np : Int32) (nt : Nat) (nl : Int32) (nP : Nat → Int32) (nS : Nat → Int32) (nD : Nat → Int32) (so : Nat → Int32) (ac : Nat) (mk : Nat → Int32) (mn : Nat) (mx : Nat → Int32) (nx : Nat) (mq : Nat) (mv : Int32) (wr : Int32) (ts : Int32) (sn : Nat) (sF : Nat → Int32) (sB : Nat → Int32) (sS : Nat → Int32) (mm : Int64) (v : Int32) (m : Int32) (w : Int32) (q0 : sn ≤ 6) (hR : RetI g X cX9_sees 4 0 0 ((fX9_sees sn sF sB sS v m w).1) (fl [wMod g zm za1 za2 za3 za4 za5 za6 za7 za8 za9 zaa mp mt ml md np nt nl nP nS nD so ac mk mn mx nx mq mv wr ts ((fX9_sees sn sF sB sS v m w).2.1) ((fX9_sees sn sF sB sS v m w).2.2.1) ((fX9_sees sn sF sB sS v m w).2.2.2.1) ((fX9_sees sn sF sB sS v m w).2.2.2.2) mm])) : Vw g X 4 0 0 (fl [wMod g zm za1 za2 za3 za4 za5 za6 za7 za8 za9 zaa mp mt ml md np nt nl nP nS nD so ac mk mn mx nx mq mv wr ts sn sF sB sS mm]) 0 [(0, .ref zm), (1, .int v), (2, .int m), (3, .int w)] [] := by
  refine r_iload_n (pc := 0) C dX9_sees_0 1 rfl ?_
  refine r_i2l (pc := 1) C dX9_sees_1 ?_
  refine r_lconst (pc := 2) 1 C dX9_sees_2 rfl ?_
  refine r_ldc2 (pc := 3) C dX9_sees_3 kl_X9_175 ?_
  obtain ⟨r_1, e_r_1⟩ : ∃ z : Int32, z = fX9_in (((v : Int32)).toInt64) 1 60 := ⟨_, rfl⟩
  have K_2 := ctX9_in l g   (((v : Int32)).toInt64) 1 60 
  rw [← e_r_1] at K_2
  refine x_pI (pc := 6) C ms_X9_50 K_2 dX9_sees_6 (by decide) [] rfl (by decide) rfl (Nat.le_of_ble_eq_true rfl) ⟨Nat.zero_le _, Nat.zero_le _⟩ ?_
  refine r_ifeq (pc := 9) 36 C dX9_sees_9 (by decide) (fun c_3 => ?_) (fun c_3 => ?_)
  · refine r_iconst (pc := 36) (-1) C dX9_sees_36 rfl ?_
    have hf : fX9_sees sn sF sB sS v m w = ((-1), sn, sF, sB, sS) := by first | (simp only [fX9_sees, ← e_r_1, if_pos c_3]; done) | (subst e_r_1; simp only [fX9_sees, if_pos c_3]; done) | (subst e_r_1; rfl) | (subst e_r_1; simp [fX9_sees, if_pos c_3]; done)
    rw [hf] at hR
    exact hR _ _ dX9_sees_37
  · refine r_iload_n (pc := 12) C dX9_sees_12 2 rfl ?_
    refine r_i2l (pc := 13) C dX9_sees_13 ?_
    refine r_lconst (pc := 14) 1 C dX9_sees_14 rfl ?_
    refine r_ldc2 (pc := 15) C dX9_sees_15 kl_X9_167 ?_
    obtain ⟨r_4, e_r_4⟩ : ∃ z : Int32, z = fX9_in (((m : Int32)).toInt64) 1 20 := ⟨_, rfl⟩
    have K_5 := ctX9_in l g   (((m : Int32)).toInt64) 1 20 
    rw [← e_r_4] at K_5
    refine x_pI (pc := 18) C ms_X9_50 K_5 dX9_sees_18 (by decide) [] rfl (by decide) rfl (Nat.le_of_ble_eq_true rfl) ⟨Nat.zero_le _, Nat.zero_le _⟩ ?_
    refine r_ifeq (pc := 21) 36 C dX9_sees_21 (by decide) (fun c_6 => ?_) (fun c_6 => ?_)
    · refine r_iconst (pc := 36) (-1) C dX9_sees_36 rfl ?_
      have hf : fX9_sees sn sF sB sS v m w = ((-1), sn, sF, sB, sS) := by first | (simp only [fX9_sees, ← e_r_1, ← e_r_4, if_neg c_3, if_pos c_6]; done) | (subst e_r_1 e_r_4; simp only [fX9_sees, if_neg c_3, if_pos c_6]; done) | (subst e_r_1 e_r_4; rfl) | (subst e_r_1 e_r_4; simp [fX9_sees, if_neg c_3, if_pos c_6]; done)
      rw [hf] at hR
      exact hR _ _ dX9_sees_37
    · refine r_iload_n (pc := 24) C dX9_sees_24 3 rfl ?_
      refine r_i2l (pc := 25) C dX9_sees_25 ?_
      refine r_lconst (pc := 26) 0 C dX9_sees_26 rfl ?_
      refine r_ldc2 (pc := 27) C dX9_sees_27 kl_X9_175 ?_
      obtain ⟨r_7, e_r_7⟩ : ∃ z : Int32, z = fX9_in (((w : Int32)).toInt64) 0 60 := ⟨_, rfl⟩
      have K_8 := ctX9_in l g   (((w : Int32)).toInt64) 0 60 
      rw [← e_r_7] at K_8
      refine x_pI (pc := 30) C ms_X9_50 K_8 dX9_sees_30 (by decide) [] rfl (by decide) rfl (Nat.le_of_ble_eq_true rfl) ⟨Nat.zero_le _, Nat.zero_le _⟩ ?_
      refine r_ifne (pc := 33) 38 C dX9_sees_33 (by decide) (fun c_9 => ?_) (fun c_9 => ?_)
      · refine r_aload_n (pc := 38) C dX9_sees_38 0 rfl ?_
        refine r_get (pc := 39) C fl_X9_114 dX9_sees_39 0 rfl rfl ?_
        refine r_bipush (pc := 42) 6 C dX9_sees_42 rfl ?_
        refine r_icmpneN (pc := 44) sn 6 50 C dX9_sees_44 (by decide) rfl rfl (by omega) (by omega) (fun c_10 => ?_) (fun c_10 => ?_)
        · refine r_aload_n (pc := 50) C dX9_sees_50 0 rfl ?_
          refine r_get (pc := 51) C fl_X9_39 dX9_sees_51 0 rfl rfl ?_
          refine r_aload_n (pc := 54) C dX9_sees_54 0 rfl ?_
          refine r_get (pc := 55) C fl_X9_114 dX9_sees_55 0 rfl rfl ?_
          refine r_iload_n (pc := 58) C dX9_sees_58 1 rfl ?_
          obtain ⟨sF_11, e_sF_11⟩ : ∃ z : Nat → Int32, z = upd sF sn v := ⟨_, rfl⟩
          refine r_iast (pc := 59) sn (fl [wMod g zm za1 za2 za3 za4 za5 za6 za7 za8 za9 zaa mp mt ml md np nt nl nP nS nD so ac mk mn mx nx mq mv wr ts sn sF_11 sB sS mm]) C dX9_sees_59 8 rfl rfl (by omega) (by decide) (by rw [← e_sF_11]; rfl) ?_
          refine r_aload_n (pc := 60) C dX9_sees_60 0 rfl ?_
          refine r_get (pc := 61) C fl_X9_42 dX9_sees_61 0 rfl rfl ?_
          refine r_aload_n (pc := 64) C dX9_sees_64 0 rfl ?_
          refine r_get (pc := 65) C fl_X9_114 dX9_sees_65 0 rfl rfl ?_
          refine r_iload_n (pc := 68) C dX9_sees_68 2 rfl ?_
          obtain ⟨sB_12, e_sB_12⟩ : ∃ z : Nat → Int32, z = upd sB sn m := ⟨_, rfl⟩
          refine r_iast (pc := 69) sn (fl [wMod g zm za1 za2 za3 za4 za5 za6 za7 za8 za9 zaa mp mt ml md np nt nl nP nS nD so ac mk mn mx nx mq mv wr ts sn sF_11 sB_12 sS mm]) C dX9_sees_69 9 rfl rfl (by omega) (by decide) (by rw [← e_sB_12]; rfl) ?_
          refine r_aload_n (pc := 70) C dX9_sees_70 0 rfl ?_
          refine r_get (pc := 71) C fl_X9_45 dX9_sees_71 0 rfl rfl ?_
          refine r_aload_n (pc := 74) C dX9_sees_74 0 rfl ?_
          refine r_get (pc := 75) C fl_X9_114 dX9_sees_75 0 rfl rfl ?_
          refine r_iload_n (pc := 78) C dX9_sees_78 3 rfl ?_
          obtain ⟨sS_13, e_sS_13⟩ : ∃ z : Nat → Int32, z = upd sS sn w := ⟨_, rfl⟩
          refine r_iast (pc := 79) sn (fl [wMod g zm za1 za2 za3 za4 za5 za6 za7 za8 za9 zaa mp mt ml md np nt nl nP nS nD so ac mk mn mx nx mq mv wr ts sn sF_11 sB_12 sS_13 mm]) C dX9_sees_79 10 rfl rfl (by omega) (by decide) (by rw [← e_sS_13]; rfl) ?_
          refine r_aload_n (pc := 80) C dX9_sees_80 0 rfl ?_
          refine r_dup (pc := 81) C dX9_sees_81 rfl ?_
          refine r_get (pc := 82) C fl_X9_114 dX9_sees_82 0 rfl rfl ?_
          refine r_iconst (pc := 85) 1 C dX9_sees_85 rfl ?_
          refine r_iaddN (pc := 86) sn 1 C dX9_sees_86 rfl rfl ?_
          refine r_put (pc := 87) (fl [wMod g zm za1 za2 za3 za4 za5 za6 za7 za8 za9 zaa mp mt ml md np nt nl nP nS nD so ac mk mn mx nx mq mv wr ts (sn + 1) sF_11 sB_12 sS_13 mm]) C fp_X9_114 dX9_sees_87 0 rfl (Nat.le_of_ble_eq_true rfl) rfl rfl rfl ?_
          refine r_aload_n (pc := 90) C dX9_sees_90 0 rfl ?_
          refine r_get (pc := 91) C fl_X9_114 dX9_sees_91 0 rfl rfl ?_
          have hf : fX9_sees sn sF sB sS v m w = ((nI (sn + 1)), (sn + 1), sF_11, sB_12, sS_13) := by first | (simp only [fX9_sees, ← e_r_1, ← e_r_4, ← e_r_7, ← e_sF_11, ← e_sB_12, ← e_sS_13, if_neg c_3, if_neg c_6, if_neg c_9, if_neg c_10]; done) | (subst e_r_1 e_r_4 e_r_7 e_sF_11 e_sB_12 e_sS_13; simp only [fX9_sees, if_neg c_3, if_neg c_6, if_neg c_9, if_neg c_10]; done) | (subst e_r_1 e_r_4 e_r_7 e_sF_11 e_sB_12 e_sS_13; rfl) | (subst e_r_1 e_r_4 e_r_7 e_sF_11 e_sB_12 e_sS_13; simp [fX9_sees, if_neg c_3, if_neg c_6, if_neg c_9, if_neg c_10]; done)
          rw [hf] at hR
          exact hR _ _ dX9_sees_94
        · refine r_bipush (pc := 47) (-3) C dX9_sees_47 rfl ?_
          have hf : fX9_sees sn sF sB sS v m w = ((-3), sn, sF, sB, sS) := by first | (simp only [fX9_sees, ← e_r_1, ← e_r_4, ← e_r_7, if_neg c_3, if_neg c_6, if_neg c_9, if_pos c_10]; done) | (subst e_r_1 e_r_4 e_r_7; simp only [fX9_sees, if_neg c_3, if_neg c_6, if_neg c_9, if_pos c_10]; done) | (subst e_r_1 e_r_4 e_r_7; rfl) | (subst e_r_1 e_r_4 e_r_7; simp [fX9_sees, if_neg c_3, if_neg c_6, if_neg c_9, if_pos c_10]; done)
          rw [hf] at hR
          exact hR _ _ dX9_sees_49
      · refine r_iconst (pc := 36) (-1) C dX9_sees_36 rfl ?_
        have hf : fX9_sees sn sF sB sS v m w = ((-1), sn, sF, sB, sS) := by first | (simp only [fX9_sees, ← e_r_1, ← e_r_4, ← e_r_7, if_neg c_3, if_neg c_6, if_pos c_9]; done) | (subst e_r_1 e_r_4 e_r_7; simp only [fX9_sees, if_neg c_3, if_neg c_6, if_pos c_9]; done) | (subst e_r_1 e_r_4 e_r_7; rfl) | (subst e_r_1 e_r_4 e_r_7; simp [fX9_sees, if_neg c_3, if_neg c_6, if_pos c_9]; done)
        rw [hf] at hR
        exact hR _ _ dX9_sees_37
theorem ctX9_sees (l : Launch) (g : Gl) (zm : Nat) (za1 : Nat) (za2 : Nat) (za3 : Nat) (za4 : Nat) (za5 : Nat) (za6 : Nat) (za7 : Nat) (za8 : Nat) (za9 : Nat) (zaa : Nat) (mp : Int32) (mt : Nat) (ml : Int32) (md : Nat → Int32) (np : Int32) (nt : Nat) (nl : Int32) (nP : Nat → Int32) (nS : Nat → Int32) (nD : Nat → Int32) (so : Nat → Int32) (ac : Nat) (mk : Nat → Int32) (mn : Nat) (mx : Nat → Int32) (nx : Nat) (mq : Nat) (mv : Int32) (wr : Int32) (ts : Int32) (sn : Nat) (sF : Nat → Int32) (sB : Nat → Int32) (sS : Nat → Int32) (mm : Int64) (v : Int32) (m : Int32) (w : Int32) (q0 : sn ≤ 6) : CtI l g yX9_sees cX9_sees 4 (some .int) 1 [.ref zm, .int v, .int m, .int w] (fl [wMod g zm za1 za2 za3 za4 za5 za6 za7 za8 za9 zaa mp mt ml md np nt nl nP nS nD so ac mk mn mx nx mq mv wr ts sn sF sB sS mm]) ((fX9_sees sn sF sB sS v m w).1) (fl [wMod g zm za1 za2 za3 za4 za5 za6 za7 za8 za9 zaa mp mt ml md np nt nl nP nS nD so ac mk mn mx nx mq mv wr ts ((fX9_sees sn sF sB sS v m w).2.1) ((fX9_sees sn sF sB sS v m w).2.2.1) ((fX9_sees sn sF sB sS v m w).2.2.2.1) ((fX9_sees sn sF sB sS v m w).2.2.2.2) mm]) := mkI .int rfl rfl [(0, .ref zm), (1, .int v), (2, .int m), (3, .int w)] (by decide) (Nat.le_of_ble_eq_true rfl) rfl (fun X C hR => bX9_sees C zm za1 za2 za3 za4 za5 za6 za7 za8 za9 zaa mp mt ml md np nt nl nP nS nD so ac mk mn mx nx mq mv wr ts sn sF sB sS mm v m w q0 hR)

def fX9_forget (sn : Nat) : (Int32) × (Nat) := (((nI sn), 0))
set_option maxHeartbeats 4000000 in
set_option maxRecDepth 100000 in
theorem bX9_forget {l : Launch} {g : Gl} {X : Cx} (C : Ok l g X RX9 cX9_forget 2 0) (zm : Nat) (za1 : Nat) (za2 : Nat) (za3 : Nat) (za4 : Nat) (za5 : Nat) (za6 : Nat) (za7 : Nat) (za8 : Nat) (za9 : Nat) (zaa : Nat) (mp : Int32) (mt : Nat) (ml : Int32) (md : Nat → Int32) (np : Int32) (nt : Nat) (nl : Int32) (nP : Nat → Int32) (nS : Nat → Int32) (nD : Nat → Int32) (so : Nat → Int32) (ac : Nat) (mk : Nat → Int32) (mn : Nat) (mx : Nat → Int32) (nx : Nat) (mq : Nat) (mv : Int32) (wr : Int32) (ts : Int32) (sn : Nat) (sF : Nat → Int32) (sB : Nat → Int32) (sS : Nat → Int32) (mm : Int64) (hR : RetI g X cX9_forget 2 0 0 ((fX9_forget sn).1) (fl [wMod g zm za1 za2 za3 za4 za5 za6 za7 za8 za9 zaa mp mt ml md np nt nl nP nS nD so ac mk mn mx nx mq mv wr ts ((fX9_forget sn).2) sF sB sS mm])) : Vw g X 2 0 0 (fl [wMod g zm za1 za2 za3 za4 za5 za6 za7 za8 za9 zaa mp mt ml md np nt nl nP nS nD so ac mk mn mx nx mq mv wr ts sn sF sB sS mm]) 0 [(0, .ref zm)] [] := by
  refine r_aload_n (pc := 0) C dX9_forget_0 0 rfl ?_
  refine r_get (pc := 1) C fl_X9_114 dX9_forget_1 0 rfl rfl ?_
  refine r_istore_n (pc := 4) [(1, .int (nI sn)), (0, .ref zm)] C dX9_forget_4 (by decide) rfl ?_
  refine r_aload_n (pc := 5) C dX9_forget_5 1 rfl ?_
  refine r_iconst (pc := 6) 0 C dX9_forget_6 rfl ?_
  refine r_put (pc := 7) (fl [wMod g zm za1 za2 za3 za4 za5 za6 za7 za8 za9 zaa mp mt ml md np nt nl nP nS nD so ac mk mn mx nx mq mv wr ts 0 sF sB sS mm]) C fp_X9_114 dX9_forget_7 0 rfl (Nat.le_of_ble_eq_true rfl) rfl rfl rfl ?_
  refine r_iload_n (pc := 10) C dX9_forget_10 0 rfl ?_
  have hf : fX9_forget sn = ((nI sn), 0) := by first | rfl | (simp only [fX9_forget]; done) | (simp [fX9_forget]; done)
  rw [hf] at hR
  exact hR _ _ dX9_forget_11
theorem ctX9_forget (l : Launch) (g : Gl) (zm : Nat) (za1 : Nat) (za2 : Nat) (za3 : Nat) (za4 : Nat) (za5 : Nat) (za6 : Nat) (za7 : Nat) (za8 : Nat) (za9 : Nat) (zaa : Nat) (mp : Int32) (mt : Nat) (ml : Int32) (md : Nat → Int32) (np : Int32) (nt : Nat) (nl : Int32) (nP : Nat → Int32) (nS : Nat → Int32) (nD : Nat → Int32) (so : Nat → Int32) (ac : Nat) (mk : Nat → Int32) (mn : Nat) (mx : Nat → Int32) (nx : Nat) (mq : Nat) (mv : Int32) (wr : Int32) (ts : Int32) (sn : Nat) (sF : Nat → Int32) (sB : Nat → Int32) (sS : Nat → Int32) (mm : Int64) : CtI l g yX9_forget cX9_forget 2 (some .int) 0 [.ref zm] (fl [wMod g zm za1 za2 za3 za4 za5 za6 za7 za8 za9 zaa mp mt ml md np nt nl nP nS nD so ac mk mn mx nx mq mv wr ts sn sF sB sS mm]) ((fX9_forget sn).1) (fl [wMod g zm za1 za2 za3 za4 za5 za6 za7 za8 za9 zaa mp mt ml md np nt nl nP nS nD so ac mk mn mx nx mq mv wr ts ((fX9_forget sn).2) sF sB sS mm]) := mkI .int rfl rfl [(0, .ref zm)] (by decide) (Nat.le_of_ble_eq_true rfl) rfl (fun X C hR => bX9_forget C zm za1 za2 za3 za4 za5 za6 za7 za8 za9 zaa mp mt ml md np nt nl nP nS nD so ac mk mn mx nx mq mv wr ts sn sF sB sS mm hR)

def fX9_spun (v : Int32) (m : Int32) (dd : Int32) : (Int32) := (let r_1 : Int32 := fX9_larger 0 (v - (m * dd)); r_1)
set_option maxHeartbeats 4000000 in
set_option maxRecDepth 100000 in
theorem bX9_spun {l : Launch} {g : Gl} {X : Cx} (C : Ok l g X RX9 cX9_spun 3 1) (v : Int32) (m : Int32) (dd : Int32) (hR : RetI g X cX9_spun 3 0 0 (fX9_spun v m dd) (fl [])) : Vw g X 3 0 0 (fl []) 0 [(0, .int v), (1, .int m), (2, .int dd)] [] := by
  refine r_iconst (pc := 0) 0 C dX9_spun_0 rfl ?_
  refine r_iload_n (pc := 1) C dX9_spun_1 0 rfl ?_
  refine r_iload_n (pc := 2) C dX9_spun_2 1 rfl ?_
  refine r_iload_n (pc := 3) C dX9_spun_3 2 rfl ?_
  refine r_imul (pc := 4) C dX9_spun_4 ?_
  refine r_isub (pc := 5) C dX9_spun_5 ?_
  obtain ⟨r_1, e_r_1⟩ : ∃ z : Int32, z = fX9_larger 0 (v - (m * dd)) := ⟨_, rfl⟩
  have K_2 := ctX9_larger l g   0 (v - (m * dd)) 
  rw [← e_r_1] at K_2
  refine x_pI (pc := 6) C ms_X9_145 K_2 dX9_spun_6 (by decide) [] rfl (by decide) rfl (Nat.le_of_ble_eq_true rfl) ⟨Nat.zero_le _, Nat.zero_le _⟩ ?_
  have hf : fX9_spun v m dd = r_1 := by first | (simp only [fX9_spun, ← e_r_1]; done) | (subst e_r_1; rfl) | (subst e_r_1; simp only [fX9_spun]; done)
  rw [hf] at hR
  exact hR _ _ dX9_spun_9
theorem ctX9_spun (l : Launch) (g : Gl) (v : Int32) (m : Int32) (dd : Int32) : CtI l g yX9_spun cX9_spun 3 (some .int) 1 [.int v, .int m, .int dd] (fl []) (fX9_spun v m dd) (fl []) := mkI .int rfl rfl [(0, .int v), (1, .int m), (2, .int dd)] (by decide) (Nat.le_of_ble_eq_true rfl) rfl (fun X C hR => bX9_spun C v m dd hR)

def lX9_isSo_4 (sF : Nat → Int32) (sB : Nat → Int32) (dd : Int32) (sS : Nat → Int32) : Nat → (Int32) → (Nat) → (Int32)
  | 0, x2_1, x3_1 => (x2_1)
  | n + 1, x2_1, x3_1 => (if x2_1 = 0 then (lX9_isSo_4 sF sB dd sS n 0 (x3_1 + 1)) else (let r_5 : Int32 := fX9_spun (sF x3_1) (sB x3_1) dd; if r_5 = (sS x3_1) then (lX9_isSo_4 sF sB dd sS n 1 (x3_1 + 1)) else (lX9_isSo_4 sF sB dd sS n 0 (x3_1 + 1))))
def fX9_isSo (sn : Nat) (sF : Nat → Int32) (sB : Nat → Int32) (sS : Nat → Int32) (dd : Int32) : (Int32) := (let x2_8 : Int32 := lX9_isSo_4 sF sB dd sS sn 1 0; x2_8)
set_option maxHeartbeats 4000000 in
set_option maxRecDepth 100000 in
theorem bX9_isSo {l : Launch} {g : Gl} {X : Cx} (C : Ok l g X RX9 cX9_isSo 4 2) (zm : Nat) (za1 : Nat) (za2 : Nat) (za3 : Nat) (za4 : Nat) (za5 : Nat) (za6 : Nat) (za7 : Nat) (za8 : Nat) (za9 : Nat) (zaa : Nat) (mp : Int32) (mt : Nat) (ml : Int32) (md : Nat → Int32) (np : Int32) (nt : Nat) (nl : Int32) (nP : Nat → Int32) (nS : Nat → Int32) (nD : Nat → Int32) (so : Nat → Int32) (ac : Nat) (mk : Nat → Int32) (mn : Nat) (mx : Nat → Int32) (nx : Nat) (mq : Nat) (mv : Int32) (wr : Int32) (ts : Int32) (sn : Nat) (sF : Nat → Int32) (sB : Nat → Int32) (sS : Nat → Int32) (mm : Int64) (dd : Int32) (q0 : sn ≤ 6) (hR : RetI g X cX9_isSo 4 0 0 (fX9_isSo sn sF sB sS dd) (fl [wMod g zm za1 za2 za3 za4 za5 za6 za7 za8 za9 zaa mp mt ml md np nt nl nP nS nD so ac mk mn mx nx mq mv wr ts sn sF sB sS mm])) : Vw g X 4 0 0 (fl [wMod g zm za1 za2 za3 za4 za5 za6 za7 za8 za9 zaa mp mt ml md np nt nl nP nS nD so ac mk mn mx nx mq mv wr ts sn sF sB sS mm]) 0 [(0, .ref zm), (1, .int dd)] [] := by
  refine r_iconst (pc := 0) 1 C dX9_isSo_0 rfl ?_
  refine r_istore_n (pc := 1) [(2, .int 1), (0, .ref zm), (1, .int dd)] C dX9_isSo_1 (by decide) rfl ?_
  refine r_iconst (pc := 2) 0 C dX9_isSo_2 rfl ?_
  refine r_istore_n (pc := 3) [(3, .int 0), (2, .int 1), (0, .ref zm), (1, .int dd)] C dX9_isSo_3 (by decide) rfl ?_
  have hX1 : ∀ (x2_8 : Int32) , (x2_8 = lX9_isSo_4 sF sB dd sS sn 1 0) → Vw g X 4 0 0 (fl [wMod g zm za1 za2 za3 za4 za5 za6 za7 za8 za9 zaa mp mt ml md np nt nl nP nS nD so ac mk mn mx nx mq mv wr ts sn sF sB sS mm]) 53 [(2, .int x2_8)] [] := by
    intro x2_8 e_x2_8 
    refine r_iload_n (pc := 53) C dX9_isSo_53 0 rfl ?_
    have hf : fX9_isSo sn sF sB sS dd = x2_8 := by first | (simp only [fX9_isSo, ← e_x2_8]; done) | (subst e_x2_8; rfl) | (subst e_x2_8; simp only [fX9_isSo]; done)
    rw [hf] at hR
    exact hR _ _ dX9_isSo_54
  have hL1 : ∀ (n : Nat) (x2_1 : Int32) (x3_1 : Nat) , (x3_1 + n = sn) → lX9_isSo_4 sF sB dd sS n x2_1 x3_1 = lX9_isSo_4 sF sB dd sS sn 1 0 → Vw g X 4 0 0 (fl [wMod g zm za1 za2 za3 za4 za5 za6 za7 za8 za9 zaa mp mt ml md np nt nl nP nS nD so ac mk mn mx nx mq mv wr ts sn sF sB sS mm]) 4 [(0, .ref zm), (1, .int dd), (2, .int x2_1), (3, .int (nI x3_1))] [] := by
    intro n
    induction n with
    | zero =>
      intro x2_1 x3_1 hr1 hV1
      refine r_iload_n (pc := 4) C dX9_isSo_4 3 rfl ?_
      refine r_aload_n (pc := 5) C dX9_isSo_5 0 rfl ?_
      refine r_get (pc := 6) C fl_X9_114 dX9_isSo_6 0 rfl rfl ?_
      refine r_icmpgeN (pc := 9) x3_1 sn 53 C dX9_isSo_9 (by decide) rfl rfl (by omega) (by omega) (fun _ => ?_) (fun c_2 => absurd (by omega) c_2)
      refine u_lv [(2, .int x2_1)] [2] rfl ?_
      exact hX1 _ (by rw [← hV1]; first | rfl | (simp only [lX9_isSo_4]; done) | (simp [lX9_isSo_4]; done))
    | succ n ih =>
      intro x2_1 x3_1 hr1 hV1
      refine r_iload_n (pc := 4) C dX9_isSo_4 3 rfl ?_
      refine r_aload_n (pc := 5) C dX9_isSo_5 0 rfl ?_
      refine r_get (pc := 6) C fl_X9_114 dX9_isSo_6 0 rfl rfl ?_
      refine r_icmpgeN (pc := 9) x3_1 sn 53 C dX9_isSo_9 (by decide) rfl rfl (by omega) (by omega) (fun c_3 => absurd c_3 (by omega)) (fun _ => ?_)
      refine r_iload_n (pc := 12) C dX9_isSo_12 2 rfl ?_
      refine r_ifeq (pc := 13) 45 C dX9_isSo_13 (by decide) (fun c_4 => ?_) (fun c_4 => ?_)
      · refine r_iconst (pc := 45) 0 C dX9_isSo_45 rfl ?_
        refine r_istore_n (pc := 46) [(2, .int 0), (0, .ref zm), (1, .int dd), (3, .int (nI x3_1))] C dX9_isSo_46 (by decide) rfl ?_
        refine r_iinc (pc := 47) (nI (x3_1 + 1)) [(3, .int (nI (x3_1 + 1))), (2, .int 0), (0, .ref zm), (1, .int dd)] C dX9_isSo_47 3 rfl (inc1 _) (by decide) rfl ?_
        refine r_goto (pc := 50) 4 C dX9_isSo_50 (by decide) ?_
        refine u_lv [(0, .ref zm), (1, .int dd), (2, .int 0), (3, .int (nI (x3_1 + 1)))] [2, 3, 1, 0] rfl ?_
        exact ih 0 (x3_1 + 1) (by omega) (by rw [← hV1]; first | (simp only [lX9_isSo_4, if_pos c_4]; done) | rfl | (simp [lX9_isSo_4, if_pos c_4]; done))
      · refine r_aload_n (pc := 16) C dX9_isSo_16 0 rfl ?_
        refine r_get (pc := 17) C fl_X9_39 dX9_isSo_17 0 rfl rfl ?_
        refine r_iload_n (pc := 20) C dX9_isSo_20 3 rfl ?_
        refine r_iald (pc := 21) x3_1 C dX9_isSo_21 8 rfl rfl (by omega) (by decide) ?_
        refine r_aload_n (pc := 22) C dX9_isSo_22 0 rfl ?_
        refine r_get (pc := 23) C fl_X9_42 dX9_isSo_23 0 rfl rfl ?_
        refine r_iload_n (pc := 26) C dX9_isSo_26 3 rfl ?_
        refine r_iald (pc := 27) x3_1 C dX9_isSo_27 9 rfl rfl (by omega) (by decide) ?_
        refine r_iload_n (pc := 28) C dX9_isSo_28 1 rfl ?_
        obtain ⟨r_5, e_r_5⟩ : ∃ z : Int32, z = fX9_spun (sF x3_1) (sB x3_1) dd := ⟨_, rfl⟩
        have K_6 := ctX9_spun l g   (sF x3_1) (sB x3_1) dd 
        rw [← e_r_5] at K_6
        refine x_pI (pc := 29) C ms_X9_184 K_6 dX9_isSo_29 (by decide) [] rfl (by decide) rfl (Nat.le_of_ble_eq_true rfl) ⟨Nat.zero_le _, Nat.zero_le _⟩ ?_
        refine r_aload_n (pc := 32) C dX9_isSo_32 0 rfl ?_
        refine r_get (pc := 33) C fl_X9_45 dX9_isSo_33 0 rfl rfl ?_
        refine r_iload_n (pc := 36) C dX9_isSo_36 3 rfl ?_
        refine r_iald (pc := 37) x3_1 C dX9_isSo_37 10 rfl rfl (by omega) (by decide) ?_
        refine r_icmpne (pc := 38) 45 C dX9_isSo_38 (by decide) (fun c_7 => ?_) (fun c_7 => ?_)
        · refine r_iconst (pc := 45) 0 C dX9_isSo_45 rfl ?_
          refine r_istore_n (pc := 46) [(2, .int 0), (0, .ref zm), (1, .int dd), (3, .int (nI x3_1))] C dX9_isSo_46 (by decide) rfl ?_
          refine r_iinc (pc := 47) (nI (x3_1 + 1)) [(3, .int (nI (x3_1 + 1))), (2, .int 0), (0, .ref zm), (1, .int dd)] C dX9_isSo_47 3 rfl (inc1 _) (by decide) rfl ?_
          refine r_goto (pc := 50) 4 C dX9_isSo_50 (by decide) ?_
          refine u_lv [(0, .ref zm), (1, .int dd), (2, .int 0), (3, .int (nI (x3_1 + 1)))] [2, 3, 1, 0] rfl ?_
          exact ih 0 (x3_1 + 1) (by omega) (by rw [← hV1]; first | (simp only [lX9_isSo_4, ← e_r_5, if_neg c_4, if_neg c_7]; done) | (subst e_r_5; simp only [lX9_isSo_4, if_neg c_4, if_neg c_7]; done) | (subst e_r_5; rfl) | (subst e_r_5; simp [lX9_isSo_4, if_neg c_4, if_neg c_7]; done))
        · refine r_iconst (pc := 41) 1 C dX9_isSo_41 rfl ?_
          refine r_goto (pc := 42) 46 C dX9_isSo_42 (by decide) ?_
          refine r_istore_n (pc := 46) [(2, .int 1), (0, .ref zm), (1, .int dd), (3, .int (nI x3_1))] C dX9_isSo_46 (by decide) rfl ?_
          refine r_iinc (pc := 47) (nI (x3_1 + 1)) [(3, .int (nI (x3_1 + 1))), (2, .int 1), (0, .ref zm), (1, .int dd)] C dX9_isSo_47 3 rfl (inc1 _) (by decide) rfl ?_
          refine r_goto (pc := 50) 4 C dX9_isSo_50 (by decide) ?_
          refine u_lv [(0, .ref zm), (1, .int dd), (2, .int 1), (3, .int (nI (x3_1 + 1)))] [2, 3, 1, 0] rfl ?_
          exact ih 1 (x3_1 + 1) (by omega) (by rw [← hV1]; first | (simp only [lX9_isSo_4, ← e_r_5, if_neg c_4, if_pos c_7]; done) | (subst e_r_5; simp only [lX9_isSo_4, if_neg c_4, if_pos c_7]; done) | (subst e_r_5; rfl) | (subst e_r_5; simp [lX9_isSo_4, if_neg c_4, if_pos c_7]; done))
  refine u_lv [(0, .ref zm), (1, .int dd), (2, .int 1), (3, .int 0)] [2, 3, 1, 0] rfl ?_
  exact hL1 sn 1 0 (by omega) rfl
theorem isSo010 (sF sB : Nat → Int32) (dd : Int32) (sS : Nat → Int32) : ∀ n b i, (b = 0 ∨ b = 1) → (lX9_isSo_4 sF sB dd sS n b i = 0 ∨ lX9_isSo_4 sF sB dd sS n b i = 1)
  | 0, b, i, h => by simpa only [lX9_isSo_4] using h
  | n + 1, b, i, h => by
    simp only [lX9_isSo_4]
    repeat' split
    all_goals first | exact isSo010 sF sB dd sS n _ (i + 1) (Or.inl rfl) | exact isSo010 sF sB dd sS n _ (i + 1) (Or.inr rfl) | exact isSo010 sF sB dd sS n _ (i + 1) h
theorem zX9_isSo (sn : Nat) (sF : Nat → Int32) (sB : Nat → Int32) (sS : Nat → Int32) (dd : Int32) : fX9_isSo sn sF sB sS dd = 0 ∨ fX9_isSo sn sF sB sS dd = 1 := isSo010 _ _ _ _ _ _ _ (Or.inr rfl)
theorem ctX9_isSo (l : Launch) (g : Gl) (zm : Nat) (za1 : Nat) (za2 : Nat) (za3 : Nat) (za4 : Nat) (za5 : Nat) (za6 : Nat) (za7 : Nat) (za8 : Nat) (za9 : Nat) (zaa : Nat) (mp : Int32) (mt : Nat) (ml : Int32) (md : Nat → Int32) (np : Int32) (nt : Nat) (nl : Int32) (nP : Nat → Int32) (nS : Nat → Int32) (nD : Nat → Int32) (so : Nat → Int32) (ac : Nat) (mk : Nat → Int32) (mn : Nat) (mx : Nat → Int32) (nx : Nat) (mq : Nat) (mv : Int32) (wr : Int32) (ts : Int32) (sn : Nat) (sF : Nat → Int32) (sB : Nat → Int32) (sS : Nat → Int32) (mm : Int64) (dd : Int32) (q0 : sn ≤ 6) : CtI l g yX9_isSo cX9_isSo 4 (some .boolean) 2 [.ref zm, .int dd] (fl [wMod g zm za1 za2 za3 za4 za5 za6 za7 za8 za9 zaa mp mt ml md np nt nl nP nS nD so ac mk mn mx nx mq mv wr ts sn sF sB sS mm]) (fX9_isSo sn sF sB sS dd) (fl [wMod g zm za1 za2 za3 za4 za5 za6 za7 za8 za9 zaa mp mt ml md np nt nl nP nS nD so ac mk mn mx nx mq mv wr ts sn sF sB sS mm]) := mkI .boolean rfl (nar_b (zX9_isSo sn sF sB sS dd)) [(0, .ref zm), (1, .int dd)] (by decide) (Nat.le_of_ble_eq_true rfl) rfl (fun X C hR => bX9_isSo C zm za1 za2 za3 za4 za5 za6 za7 za8 za9 zaa mp mt ml md np nt nl nP nS nD so ac mk mn mx nx mq mv wr ts sn sF sB sS mm dd q0 hR)

def lX9_drags_26 (sn : Nat) (sF : Nat → Int32) (sB : Nat → Int32) (sS : Nat → Int32) : Nat → (Int32) → (Int32) → (Int32) → (Nat) → (Int32) × (Int32) × (Int32)
  | 0, x2_4, x3_4, x4_4, x5_4 => ((x2_4, x3_4, x4_4))
  | n + 1, x2_4, x3_4, x4_4, x5_4 => (let r_7 : Int32 := fX9_isSo sn sF sB sS (nI x5_4); let w_10 : Int32 := (if r_7 = 0 then (0) else (1)); let w_14 : Int32 := (if r_7 = 0 then (x3_4) else (if 0 ≤ x3_4 then (x3_4) else ((nI x5_4)))); if r_7 = 0 then (lX9_drags_26 sn sF sB sS n (x2_4 + w_10) w_14 x4_4 (x5_4 + 1)) else (lX9_drags_26 sn sF sB sS n (x2_4 + w_10) w_14 (nI x5_4) (x5_4 + 1)))
def fX9_drags (sn : Nat) (sF : Nat → Int32) (sB : Nat → Int32) (sS : Nat → Int32) (w : Int32) : (Int32) := (let r_1 : Int32 := fX9_in (((w : Int32)).toInt64) 0 2; if r_1 = 0 then ((-1)) else (let o4 := lX9_drags_26 sn sF sB sS (10 - 1) 0 (-9) (-9) 1; let x2_17 : Int32 := o4.1; let x3_18 : Int32 := o4.2.1; let x4_19 : Int32 := o4.2.2; if w = 0 then (x2_17) else (if w = 1 then (x3_18) else (x4_19))))
set_option maxHeartbeats 4000000 in
set_option maxRecDepth 100000 in
theorem bX9_drags {l : Launch} {g : Gl} {X : Cx} (C : Ok l g X RX9 cX9_drags 7 3) (zm : Nat) (za1 : Nat) (za2 : Nat) (za3 : Nat) (za4 : Nat) (za5 : Nat) (za6 : Nat) (za7 : Nat) (za8 : Nat) (za9 : Nat) (zaa : Nat) (mp : Int32) (mt : Nat) (ml : Int32) (md : Nat → Int32) (np : Int32) (nt : Nat) (nl : Int32) (nP : Nat → Int32) (nS : Nat → Int32) (nD : Nat → Int32) (so : Nat → Int32) (ac : Nat) (mk : Nat → Int32) (mn : Nat) (mx : Nat → Int32) (nx : Nat) (mq : Nat) (mv : Int32) (wr : Int32) (ts : Int32) (sn : Nat) (sF : Nat → Int32) (sB : Nat → Int32) (sS : Nat → Int32) (mm : Int64) (w : Int32) (q0 : sn ≤ 6) (hR : RetI g X cX9_drags 7 0 0 (fX9_drags sn sF sB sS w) (fl [wMod g zm za1 za2 za3 za4 za5 za6 za7 za8 za9 zaa mp mt ml md np nt nl nP nS nD so ac mk mn mx nx mq mv wr ts sn sF sB sS mm])) : Vw g X 7 0 0 (fl [wMod g zm za1 za2 za3 za4 za5 za6 za7 za8 za9 zaa mp mt ml md np nt nl nP nS nD so ac mk mn mx nx mq mv wr ts sn sF sB sS mm]) 0 [(0, .ref zm), (1, .int w)] [] := by
  refine r_iload_n (pc := 0) C dX9_drags_0 1 rfl ?_
  refine r_i2l (pc := 1) C dX9_drags_1 ?_
  refine r_lconst (pc := 2) 0 C dX9_drags_2 rfl ?_
  refine r_ldc2 (pc := 3) C dX9_drags_3 kl_X9_173 ?_
  obtain ⟨r_1, e_r_1⟩ : ∃ z : Int32, z = fX9_in (((w : Int32)).toInt64) 0 2 := ⟨_, rfl⟩
  have K_2 := ctX9_in l g   (((w : Int32)).toInt64) 0 2 
  rw [← e_r_1] at K_2
  refine x_pI (pc := 6) C ms_X9_50 K_2 dX9_drags_6 (by decide) [] rfl (by decide) rfl (Nat.le_of_ble_eq_true rfl) ⟨Nat.zero_le _, Nat.zero_le _⟩ ?_
  refine r_ifne (pc := 9) 14 C dX9_drags_9 (by decide) (fun c_3 => ?_) (fun c_3 => ?_)
  · refine r_iconst (pc := 14) 0 C dX9_drags_14 rfl ?_
    refine r_istore_n (pc := 15) [(2, .int 0), (0, .ref zm), (1, .int w)] C dX9_drags_15 (by decide) rfl ?_
    refine r_bipush (pc := 16) (-9) C dX9_drags_16 rfl ?_
    refine r_istore_n (pc := 18) [(3, .int (-9)), (2, .int 0), (0, .ref zm), (1, .int w)] C dX9_drags_18 (by decide) rfl ?_
    refine r_bipush (pc := 19) (-9) C dX9_drags_19 rfl ?_
    refine r_istore (pc := 21) [(4, .int (-9)), (3, .int (-9)), (2, .int 0), (0, .ref zm), (1, .int w)] C dX9_drags_21 (by decide) rfl ?_
    refine r_iconst (pc := 23) 1 C dX9_drags_23 rfl ?_
    refine r_istore (pc := 24) [(5, .int 1), (4, .int (-9)), (3, .int (-9)), (2, .int 0), (0, .ref zm), (1, .int w)] C dX9_drags_24 (by decide) rfl ?_
    have hX4 : ∀ (x2_17 : Int32) (x3_18 : Int32) (x4_19 : Int32) , (x2_17 = (lX9_drags_26 sn sF sB sS (10 - 1) 0 (-9) (-9) 1).1) → (x3_18 = (lX9_drags_26 sn sF sB sS (10 - 1) 0 (-9) (-9) 1).2.1) → (x4_19 = (lX9_drags_26 sn sF sB sS (10 - 1) 0 (-9) (-9) 1).2.2) → Vw g X 7 0 0 (fl [wMod g zm za1 za2 za3 za4 za5 za6 za7 za8 za9 zaa mp mt ml md np nt nl nP nS nD so ac mk mn mx nx mq mv wr ts sn sF sB sS mm]) 90 [(1, .int w), (2, .int x2_17), (3, .int x3_18), (4, .int x4_19)] [] := by
      intro x2_17 x3_18 x4_19 e_x2_17 e_x3_18 e_x4_19 
      refine r_iload_n (pc := 90) C dX9_drags_90 0 rfl ?_
      refine r_ifne (pc := 91) 98 C dX9_drags_91 (by decide) (fun c_20 => ?_) (fun c_20 => ?_)
      · refine r_iload_n (pc := 98) C dX9_drags_98 0 rfl ?_
        refine r_iconst (pc := 99) 1 C dX9_drags_99 rfl ?_
        refine r_icmpne (pc := 100) 107 C dX9_drags_100 (by decide) (fun c_21 => ?_) (fun c_21 => ?_)
        · refine r_iload (pc := 107) C dX9_drags_107 3 rfl ?_
          have hf : fX9_drags sn sF sB sS w = x4_19 := by first | (simp only [fX9_drags, ← e_r_1, ← e_x2_17, ← e_x3_18, ← e_x4_19, if_neg c_3, if_neg c_20, if_neg c_21]; done) | (subst e_r_1 e_x2_17 e_x3_18 e_x4_19; simp only [fX9_drags, if_neg c_3, if_neg c_20, if_neg c_21]; done) | (subst e_r_1 e_x2_17 e_x3_18 e_x4_19; rfl) | (subst e_r_1 e_x2_17 e_x3_18 e_x4_19; simp [fX9_drags, if_neg c_3, if_neg c_20, if_neg c_21]; done)
          rw [hf] at hR
          exact hR _ _ dX9_drags_109
        · refine r_iload_n (pc := 103) C dX9_drags_103 2 rfl ?_
          refine r_goto (pc := 104) 109 C dX9_drags_104 (by decide) ?_
          have hf : fX9_drags sn sF sB sS w = x3_18 := by first | (simp only [fX9_drags, ← e_r_1, ← e_x2_17, ← e_x3_18, ← e_x4_19, if_neg c_3, if_neg c_20, if_pos c_21]; done) | (subst e_r_1 e_x2_17 e_x3_18 e_x4_19; simp only [fX9_drags, if_neg c_3, if_neg c_20, if_pos c_21]; done) | (subst e_r_1 e_x2_17 e_x3_18 e_x4_19; rfl) | (subst e_r_1 e_x2_17 e_x3_18 e_x4_19; simp [fX9_drags, if_neg c_3, if_neg c_20, if_pos c_21]; done)
          rw [hf] at hR
          exact hR _ _ dX9_drags_109
      · refine r_iload_n (pc := 94) C dX9_drags_94 1 rfl ?_
        refine r_goto (pc := 95) 109 C dX9_drags_95 (by decide) ?_
        have hf : fX9_drags sn sF sB sS w = x2_17 := by first | (simp only [fX9_drags, ← e_r_1, ← e_x2_17, ← e_x3_18, ← e_x4_19, if_neg c_3, if_pos c_20]; done) | (subst e_r_1 e_x2_17 e_x3_18 e_x4_19; simp only [fX9_drags, if_neg c_3, if_pos c_20]; done) | (subst e_r_1 e_x2_17 e_x3_18 e_x4_19; rfl) | (subst e_r_1 e_x2_17 e_x3_18 e_x4_19; simp [fX9_drags, if_neg c_3, if_pos c_20]; done)
        rw [hf] at hR
        exact hR _ _ dX9_drags_109
    have hL4 : ∀ (n : Nat) (x2_4 : Int32) (x3_4 : Int32) (x4_4 : Int32) (x5_4 : Nat) , (x5_4 + n = 10) → lX9_drags_26 sn sF sB sS n x2_4 x3_4 x4_4 x5_4 = lX9_drags_26 sn sF sB sS (10 - 1) 0 (-9) (-9) 1 → Vw g X 7 0 0 (fl [wMod g zm za1 za2 za3 za4 za5 za6 za7 za8 za9 zaa mp mt ml md np nt nl nP nS nD so ac mk mn mx nx mq mv wr ts sn sF sB sS mm]) 26 [(0, .ref zm), (1, .int w), (2, .int x2_4), (3, .int x3_4), (4, .int x4_4), (5, .int (nI x5_4))] [] := by
      intro n
      induction n with
      | zero =>
        intro x2_4 x3_4 x4_4 x5_4 hr4 hV4
        refine r_iload (pc := 26) C dX9_drags_26 5 rfl ?_
        refine r_bipush (pc := 28) 10 C dX9_drags_28 rfl ?_
        refine r_icmpgeN (pc := 30) x5_4 10 90 C dX9_drags_30 (by decide) rfl rfl (by omega) (by omega) (fun _ => ?_) (fun c_5 => absurd (by omega) c_5)
        refine u_lv [(1, .int w), (2, .int x2_4), (3, .int x3_4), (4, .int x4_4)] [1, 2, 3, 4] rfl ?_
        exact hX4 _ _ _ (by rw [← hV4]; first | rfl | (simp only [lX9_drags_26]; done) | (simp [lX9_drags_26]; done)) (by rw [← hV4]; first | rfl | (simp only [lX9_drags_26]; done) | (simp [lX9_drags_26]; done)) (by rw [← hV4]; first | rfl | (simp only [lX9_drags_26]; done) | (simp [lX9_drags_26]; done))
      | succ n ih =>
        intro x2_4 x3_4 x4_4 x5_4 hr4 hV4
        refine r_iload (pc := 26) C dX9_drags_26 5 rfl ?_
        refine r_bipush (pc := 28) 10 C dX9_drags_28 rfl ?_
        refine r_icmpgeN (pc := 30) x5_4 10 90 C dX9_drags_30 (by decide) rfl rfl (by omega) (by omega) (fun c_6 => absurd c_6 (by omega)) (fun _ => ?_)
        refine r_aload_n (pc := 33) C dX9_drags_33 0 rfl ?_
        refine r_iload (pc := 34) C dX9_drags_34 5 rfl ?_
        obtain ⟨r_7, e_r_7⟩ : ∃ z : Int32, z = fX9_isSo sn sF sB sS (nI x5_4) := ⟨_, rfl⟩
        have K_8 := ctX9_isSo l g zm za1 za2 za3 za4 za5 za6 za7 za8 za9 zaa mp mt ml md np nt nl nP nS nD so ac mk mn mx nx mq mv wr ts sn sF sB sS mm (nI x5_4) (by omega)
        rw [← e_r_7] at K_8
        refine w_pI (pc := 36) C mv_X9_187 K_8 dX9_drags_36 (by decide) [0] rfl (by decide) 0 rfl rfl (Nat.le_of_ble_eq_true rfl) ⟨Nat.zero_le _, Nat.zero_le _⟩ ?_
        refine r_istore (pc := 39) [(6, .int r_7), (0, .ref zm), (1, .int w), (2, .int x2_4), (3, .int x3_4), (4, .int x4_4), (5, .int (nI x5_4))] C dX9_drags_39 (by decide) rfl ?_
        refine r_iload_n (pc := 41) C dX9_drags_41 3 rfl ?_
        refine r_iload (pc := 42) C dX9_drags_42 0 rfl ?_
        have hJ_11 : ∀ (w_10 : Int32) , (w_10 = (if r_7 = 0 then (0) else (1))) → Vw g X 7 0 0 (fl [wMod g zm za1 za2 za3 za4 za5 za6 za7 za8 za9 zaa mp mt ml md np nt nl nP nS nD so ac mk mn mx nx mq mv wr ts sn sF sB sS mm]) 52 [(0, .ref zm), (1, .int w), (3, .int x3_4), (4, .int x4_4), (5, .int (nI x5_4)), (6, .int r_7)] [.int w_10, .int x2_4] := by
          intro w_10 e_w_10
          refine r_iadd (pc := 52) C dX9_drags_52 ?_
          refine r_istore_n (pc := 53) [(2, .int (x2_4 + w_10)), (0, .ref zm), (1, .int w), (3, .int x3_4), (4, .int x4_4), (5, .int (nI x5_4)), (6, .int r_7)] C dX9_drags_53 (by decide) rfl ?_
          refine r_iload (pc := 54) C dX9_drags_54 6 rfl ?_
          have hJ_15 : ∀ (w_14 : Int32) , (w_14 = (if r_7 = 0 then (x3_4) else (if 0 ≤ x3_4 then (x3_4) else ((nI x5_4))))) → Vw g X 7 0 0 (fl [wMod g zm za1 za2 za3 za4 za5 za6 za7 za8 za9 zaa mp mt ml md np nt nl nP nS nD so ac mk mn mx nx mq mv wr ts sn sF sB sS mm]) 69 [(0, .ref zm), (1, .int w), (2, .int (x2_4 + w_10)), (4, .int x4_4), (5, .int (nI x5_4)), (6, .int r_7)] [.int w_14] := by
            intro w_14 e_w_14
            refine r_istore_n (pc := 69) [(3, .int w_14), (0, .ref zm), (1, .int w), (2, .int (x2_4 + w_10)), (4, .int x4_4), (5, .int (nI x5_4)), (6, .int r_7)] C dX9_drags_69 (by decide) rfl ?_
            refine r_iload (pc := 70) C dX9_drags_70 6 rfl ?_
            refine r_ifeq (pc := 72) 80 C dX9_drags_72 (by decide) (fun c_16 => ?_) (fun c_16 => ?_)
            · refine r_iload (pc := 80) C dX9_drags_80 4 rfl ?_
              refine r_istore (pc := 82) [(4, .int x4_4), (3, .int w_14), (0, .ref zm), (1, .int w), (2, .int (x2_4 + w_10)), (5, .int (nI x5_4)), (6, .int r_7)] C dX9_drags_82 (by decide) rfl ?_
              refine r_iinc (pc := 84) (nI (x5_4 + 1)) [(5, .int (nI (x5_4 + 1))), (4, .int x4_4), (3, .int w_14), (0, .ref zm), (1, .int w), (2, .int (x2_4 + w_10)), (6, .int r_7)] C dX9_drags_84 5 rfl (inc1 _) (by decide) rfl ?_
              refine r_goto (pc := 87) 26 C dX9_drags_87 (by decide) ?_
              refine u_lv [(0, .ref zm), (1, .int w), (2, .int (x2_4 + w_10)), (3, .int w_14), (4, .int x4_4), (5, .int (nI (x5_4 + 1)))] [3, 4, 5, 2, 1, 0] rfl ?_
              exact ih (x2_4 + w_10) w_14 x4_4 (x5_4 + 1) (by omega) (by rw [← hV4]; first | (simp only [lX9_drags_26, ← e_r_7, ← e_w_10, ← e_w_14, if_pos c_16]; done) | (subst e_r_7 e_w_10 e_w_14; simp only [lX9_drags_26, if_pos c_16]; done) | (subst e_r_7 e_w_10 e_w_14; rfl) | (subst e_r_7 e_w_10 e_w_14; simp [lX9_drags_26, if_pos c_16]; done))
            · refine r_iload (pc := 75) C dX9_drags_75 5 rfl ?_
              refine r_goto (pc := 77) 82 C dX9_drags_77 (by decide) ?_
              refine r_istore (pc := 82) [(4, .int (nI x5_4)), (3, .int w_14), (0, .ref zm), (1, .int w), (2, .int (x2_4 + w_10)), (5, .int (nI x5_4)), (6, .int r_7)] C dX9_drags_82 (by decide) rfl ?_
              refine r_iinc (pc := 84) (nI (x5_4 + 1)) [(5, .int (nI (x5_4 + 1))), (4, .int (nI x5_4)), (3, .int w_14), (0, .ref zm), (1, .int w), (2, .int (x2_4 + w_10)), (6, .int r_7)] C dX9_drags_84 5 rfl (inc1 _) (by decide) rfl ?_
              refine r_goto (pc := 87) 26 C dX9_drags_87 (by decide) ?_
              refine u_lv [(0, .ref zm), (1, .int w), (2, .int (x2_4 + w_10)), (3, .int w_14), (4, .int (nI x5_4)), (5, .int (nI (x5_4 + 1)))] [3, 4, 5, 2, 1, 0] rfl ?_
              exact ih (x2_4 + w_10) w_14 (nI x5_4) (x5_4 + 1) (by omega) (by rw [← hV4]; first | (simp only [lX9_drags_26, ← e_r_7, ← e_w_10, ← e_w_14, if_neg c_16]; done) | (subst e_r_7 e_w_10 e_w_14; simp only [lX9_drags_26, if_neg c_16]; done) | (subst e_r_7 e_w_10 e_w_14; rfl) | (subst e_r_7 e_w_10 e_w_14; simp [lX9_drags_26, if_neg c_16]; done))
          refine r_ifeq (pc := 56) 68 C dX9_drags_56 (by decide) (fun c_12 => ?_) (fun c_12 => ?_)
          · refine r_iload_n (pc := 68) C dX9_drags_68 3 rfl ?_
            refine u_lv [(0, .ref zm), (1, .int w), (2, .int (x2_4 + w_10)), (4, .int x4_4), (5, .int (nI x5_4)), (6, .int r_7)] [1, 2, 0, 4, 5, 6] rfl ?_
            exact hJ_15 _ (by first | (simp only [if_pos c_12]; done) | rfl | (simp [if_pos c_12]; done))
          · refine r_iload_n (pc := 59) C dX9_drags_59 3 rfl ?_
            refine r_ifge (pc := 60) 68 C dX9_drags_60 (by decide) (fun c_13 => ?_) (fun c_13 => ?_)
            · refine r_iload_n (pc := 68) C dX9_drags_68 3 rfl ?_
              refine u_lv [(0, .ref zm), (1, .int w), (2, .int (x2_4 + w_10)), (4, .int x4_4), (5, .int (nI x5_4)), (6, .int r_7)] [1, 2, 0, 4, 5, 6] rfl ?_
              exact hJ_15 _ (by first | (simp only [if_neg c_12, if_pos c_13]; done) | rfl | (simp [if_neg c_12, if_pos c_13]; done))
            · refine r_iload (pc := 63) C dX9_drags_63 5 rfl ?_
              refine r_goto (pc := 65) 69 C dX9_drags_65 (by decide) ?_
              refine u_lv [(0, .ref zm), (1, .int w), (2, .int (x2_4 + w_10)), (4, .int x4_4), (5, .int (nI x5_4)), (6, .int r_7)] [1, 2, 0, 4, 5, 6] rfl ?_
              exact hJ_15 _ (by first | (simp only [if_neg c_12, if_neg c_13]; done) | rfl | (simp [if_neg c_12, if_neg c_13]; done))
        refine r_ifeq (pc := 44) 51 C dX9_drags_44 (by decide) (fun c_9 => ?_) (fun c_9 => ?_)
        · refine r_iconst (pc := 51) 0 C dX9_drags_51 rfl ?_
          refine u_lv [(0, .ref zm), (1, .int w), (3, .int x3_4), (4, .int x4_4), (5, .int (nI x5_4)), (6, .int r_7)] [1, 2, 4, 5, 6, 0] rfl ?_
          exact hJ_11 _ (by first | (simp only [if_pos c_9]; done) | rfl | (simp [if_pos c_9]; done))
        · refine r_iconst (pc := 47) 1 C dX9_drags_47 rfl ?_
          refine r_goto (pc := 48) 52 C dX9_drags_48 (by decide) ?_
          refine u_lv [(0, .ref zm), (1, .int w), (3, .int x3_4), (4, .int x4_4), (5, .int (nI x5_4)), (6, .int r_7)] [1, 2, 4, 5, 6, 0] rfl ?_
          exact hJ_11 _ (by first | (simp only [if_neg c_9]; done) | rfl | (simp [if_neg c_9]; done))
    refine u_lv [(0, .ref zm), (1, .int w), (2, .int 0), (3, .int (-9)), (4, .int (-9)), (5, .int 1)] [4, 5, 3, 2, 1, 0] rfl ?_
    exact hL4 (10 - 1) 0 (-9) (-9) 1 (by omega) rfl
  · refine r_iconst (pc := 12) (-1) C dX9_drags_12 rfl ?_
    have hf : fX9_drags sn sF sB sS w = (-1) := by first | (simp only [fX9_drags, ← e_r_1, if_pos c_3]; done) | (subst e_r_1; simp only [fX9_drags, if_pos c_3]; done) | (subst e_r_1; rfl) | (subst e_r_1; simp [fX9_drags, if_pos c_3]; done)
    rw [hf] at hR
    exact hR _ _ dX9_drags_13
theorem ctX9_drags (l : Launch) (g : Gl) (zm : Nat) (za1 : Nat) (za2 : Nat) (za3 : Nat) (za4 : Nat) (za5 : Nat) (za6 : Nat) (za7 : Nat) (za8 : Nat) (za9 : Nat) (zaa : Nat) (mp : Int32) (mt : Nat) (ml : Int32) (md : Nat → Int32) (np : Int32) (nt : Nat) (nl : Int32) (nP : Nat → Int32) (nS : Nat → Int32) (nD : Nat → Int32) (so : Nat → Int32) (ac : Nat) (mk : Nat → Int32) (mn : Nat) (mx : Nat → Int32) (nx : Nat) (mq : Nat) (mv : Int32) (wr : Int32) (ts : Int32) (sn : Nat) (sF : Nat → Int32) (sB : Nat → Int32) (sS : Nat → Int32) (mm : Int64) (w : Int32) (q0 : sn ≤ 6) : CtI l g yX9_drags cX9_drags 7 (some .int) 3 [.ref zm, .int w] (fl [wMod g zm za1 za2 za3 za4 za5 za6 za7 za8 za9 zaa mp mt ml md np nt nl nP nS nD so ac mk mn mx nx mq mv wr ts sn sF sB sS mm]) (fX9_drags sn sF sB sS w) (fl [wMod g zm za1 za2 za3 za4 za5 za6 za7 za8 za9 zaa mp mt ml md np nt nl nP nS nD so ac mk mn mx nx mq mv wr ts sn sF sB sS mm]) := mkI .int rfl rfl [(0, .ref zm), (1, .int w)] (by decide) (Nat.le_of_ble_eq_true rfl) rfl (fun X C hR => bX9_drags C zm za1 za2 za3 za4 za5 za6 za7 za8 za9 zaa mp mt ml md np nt nl nP nS nD so ac mk mn mx nx mq mv wr ts sn sF sB sS mm w q0 hR)

def lX9_look_58 (sn : Nat) (sF : Nat → Int32) (sB : Nat → Int32) (sS : Nat → Int32) (x6_10 : Nat) (v : Int32) (x4_4 : Nat) : Nat → (Int32) → (Nat) → (Int32)
  | 0, x7_13, x8_13 => (x7_13)
  | n + 1, x7_13, x8_13 => (let r_16 : Int32 := fX9_isSo sn sF sB sS (nI x6_10); if r_16 = 0 then (lX9_look_58 sn sF sB sS x6_10 v x4_4 n (x7_13 + 0) (x8_13 + 1)) else (let r_19 : Int32 := fX9_isSo sn sF sB sS (nI x8_13); if r_19 = 0 then (lX9_look_58 sn sF sB sS x6_10 v x4_4 n (x7_13 + 0) (x8_13 + 1)) else (let r_22 : Int32 := fX9_spun v (nI x4_4) (nI x6_10); let r_24 : Int32 := fX9_spun v (nI x4_4) (nI x8_13); if r_22 = r_24 then (lX9_look_58 sn sF sB sS x6_10 v x4_4 n (x7_13 + 1) (x8_13 + 1)) else (lX9_look_58 sn sF sB sS x6_10 v x4_4 n (x7_13 + 0) (x8_13 + 1)))))
def lX9_look_45 (sn : Nat) (sF : Nat → Int32) (sB : Nat → Int32) (sS : Nat → Int32) (v : Int32) (x4_4 : Nat) : Nat → (Int32) → (Nat) → (Int32)
  | 0, x5_10, x6_10 => (x5_10)
  | n + 1, x5_10, x6_10 => (let x7_27 : Int32 := lX9_look_58 sn sF sB sS x6_10 v x4_4 (10 - 1) 0 1; let r_28 : Int32 := fX9_larger x5_10 x7_27; lX9_look_45 sn sF sB sS v x4_4 n r_28 (x6_10 + 1))
def lX9_look_23 (sn : Nat) (sF : Nat → Int32) (sB : Nat → Int32) (sS : Nat → Int32) (v : Int32) : Nat → (Int32) → (Int32) → (Nat) → (Int32)
  | 0, x2_4, x3_4, x4_4 => (x2_4)
  | n + 1, x2_4, x3_4, x4_4 => (let r_7 : Int32 := fX9_drags sn sF sB sS 0; if r_7 ≤ 1 then (x2_4) else (let x5_30 : Int32 := lX9_look_45 sn sF sB sS v x4_4 (10 - 1) 0 1; let w_32 : Int32 := (if x3_4 ≤ x5_30 then (x2_4) else ((nI x4_4))); if x3_4 ≤ x5_30 then (lX9_look_23 sn sF sB sS v n w_32 x3_4 (x4_4 + 1)) else (lX9_look_23 sn sF sB sS v n w_32 x5_30 (x4_4 + 1))))
def fX9_look (sn : Nat) (sF : Nat → Int32) (sB : Nat → Int32) (sS : Nat → Int32) (v : Int32) : (Int32) := (let r_1 : Int32 := fX9_in (((v : Int32)).toInt64) 1 60; if r_1 = 0 then ((-1)) else (let x2_35 : Int32 := lX9_look_23 sn sF sB sS v (21 - 1) (-9) 99 1; x2_35))
set_option maxHeartbeats 4000000 in
set_option maxRecDepth 100000 in
theorem bX9_look {l : Launch} {g : Gl} {X : Cx} (C : Ok l g X RX9 cX9_look 9 4) (zm : Nat) (za1 : Nat) (za2 : Nat) (za3 : Nat) (za4 : Nat) (za5 : Nat) (za6 : Nat) (za7 : Nat) (za8 : Nat) (za9 : Nat) (zaa : Nat) (mp : Int32) (mt : Nat) (ml : Int32) (md : Nat → Int32) (np : Int32) (nt : Nat) (nl : Int32) (nP : Nat → Int32) (nS : Nat → Int32) (nD : Nat → Int32) (so : Nat → Int32) (ac : Nat) (mk : Nat → Int32) (mn : Nat) (mx : Nat → Int32) (nx : Nat) (mq : Nat) (mv : Int32) (wr : Int32) (ts : Int32) (sn : Nat) (sF : Nat → Int32) (sB : Nat → Int32) (sS : Nat → Int32) (mm : Int64) (v : Int32) (q0 : sn ≤ 6) (hR : RetI g X cX9_look 9 0 0 (fX9_look sn sF sB sS v) (fl [wMod g zm za1 za2 za3 za4 za5 za6 za7 za8 za9 zaa mp mt ml md np nt nl nP nS nD so ac mk mn mx nx mq mv wr ts sn sF sB sS mm])) : Vw g X 9 0 0 (fl [wMod g zm za1 za2 za3 za4 za5 za6 za7 za8 za9 zaa mp mt ml md np nt nl nP nS nD so ac mk mn mx nx mq mv wr ts sn sF sB sS mm]) 0 [(0, .ref zm), (1, .int v)] [] := by
  refine r_iload_n (pc := 0) C dX9_look_0 1 rfl ?_
  refine r_i2l (pc := 1) C dX9_look_1 ?_
  refine r_lconst (pc := 2) 1 C dX9_look_2 rfl ?_
  refine r_ldc2 (pc := 3) C dX9_look_3 kl_X9_175 ?_
  obtain ⟨r_1, e_r_1⟩ : ∃ z : Int32, z = fX9_in (((v : Int32)).toInt64) 1 60 := ⟨_, rfl⟩
  have K_2 := ctX9_in l g   (((v : Int32)).toInt64) 1 60 
  rw [← e_r_1] at K_2
  refine x_pI (pc := 6) C ms_X9_50 K_2 dX9_look_6 (by decide) [] rfl (by decide) rfl (Nat.le_of_ble_eq_true rfl) ⟨Nat.zero_le _, Nat.zero_le _⟩ ?_
  refine r_ifne (pc := 9) 14 C dX9_look_9 (by decide) (fun c_3 => ?_) (fun c_3 => ?_)
  · refine r_bipush (pc := 14) (-9) C dX9_look_14 rfl ?_
    refine r_istore_n (pc := 16) [(2, .int (-9)), (0, .ref zm), (1, .int v)] C dX9_look_16 (by decide) rfl ?_
    refine r_bipush (pc := 17) 99 C dX9_look_17 rfl ?_
    refine r_istore_n (pc := 19) [(3, .int 99), (2, .int (-9)), (0, .ref zm), (1, .int v)] C dX9_look_19 (by decide) rfl ?_
    refine r_iconst (pc := 20) 1 C dX9_look_20 rfl ?_
    refine r_istore (pc := 21) [(4, .int 1), (3, .int 99), (2, .int (-9)), (0, .ref zm), (1, .int v)] C dX9_look_21 (by decide) rfl ?_
    have hX4 : ∀ (x2_35 : Int32) , (x2_35 = lX9_look_23 sn sF sB sS v (21 - 1) (-9) 99 1) → Vw g X 9 0 0 (fl [wMod g zm za1 za2 za3 za4 za5 za6 za7 za8 za9 zaa mp mt ml md np nt nl nP nS nD so ac mk mn mx nx mq mv wr ts sn sF sB sS mm]) 165 [(2, .int x2_35)] [] := by
      intro x2_35 e_x2_35 
      refine r_iload_n (pc := 165) C dX9_look_165 0 rfl ?_
      have hf : fX9_look sn sF sB sS v = x2_35 := by first | (simp only [fX9_look, ← e_r_1, ← e_x2_35, if_neg c_3]; done) | (subst e_r_1 e_x2_35; simp only [fX9_look, if_neg c_3]; done) | (subst e_r_1 e_x2_35; rfl) | (subst e_r_1 e_x2_35; simp [fX9_look, if_neg c_3]; done)
      rw [hf] at hR
      exact hR _ _ dX9_look_166
    have hL4 : ∀ (n : Nat) (x2_4 : Int32) (x3_4 : Int32) (x4_4 : Nat) , (x4_4 + n = 21) → lX9_look_23 sn sF sB sS v n x2_4 x3_4 x4_4 = lX9_look_23 sn sF sB sS v (21 - 1) (-9) 99 1 → Vw g X 9 0 0 (fl [wMod g zm za1 za2 za3 za4 za5 za6 za7 za8 za9 zaa mp mt ml md np nt nl nP nS nD so ac mk mn mx nx mq mv wr ts sn sF sB sS mm]) 23 [(0, .ref zm), (1, .int v), (2, .int x2_4), (3, .int x3_4), (4, .int (nI x4_4))] [] := by
      intro n
      induction n with
      | zero =>
        intro x2_4 x3_4 x4_4 hr4 hV4
        refine r_iload (pc := 23) C dX9_look_23 4 rfl ?_
        refine r_bipush (pc := 25) 20 C dX9_look_25 rfl ?_
        refine r_icmpgtN (pc := 27) x4_4 20 165 C dX9_look_27 (by decide) rfl rfl (by omega) (by omega) (fun _ => ?_) (fun c_5 => absurd (by omega) c_5)
        refine u_lv [(2, .int x2_4)] [2] rfl ?_
        exact hX4 _ (by rw [← hV4]; first | rfl | (simp only [lX9_look_23]; done) | (simp [lX9_look_23]; done))
      | succ n ih =>
        intro x2_4 x3_4 x4_4 hr4 hV4
        refine r_iload (pc := 23) C dX9_look_23 4 rfl ?_
        refine r_bipush (pc := 25) 20 C dX9_look_25 rfl ?_
        refine r_icmpgtN (pc := 27) x4_4 20 165 C dX9_look_27 (by decide) rfl rfl (by omega) (by omega) (fun c_6 => absurd c_6 (by omega)) (fun _ => ?_)
        refine r_aload_n (pc := 30) C dX9_look_30 0 rfl ?_
        refine r_iconst (pc := 31) 0 C dX9_look_31 rfl ?_
        obtain ⟨r_7, e_r_7⟩ : ∃ z : Int32, z = fX9_drags sn sF sB sS 0 := ⟨_, rfl⟩
        have K_8 := ctX9_drags l g zm za1 za2 za3 za4 za5 za6 za7 za8 za9 zaa mp mt ml md np nt nl nP nS nD so ac mk mn mx nx mq mv wr ts sn sF sB sS mm 0 (by omega)
        rw [← e_r_7] at K_8
        refine w_pI (pc := 32) C mv_X9_190 K_8 dX9_look_32 (by decide) [0] rfl (by decide) 0 rfl rfl (Nat.le_of_ble_eq_true rfl) ⟨Nat.zero_le _, Nat.zero_le _⟩ ?_
        refine r_iconst (pc := 35) 1 C dX9_look_35 rfl ?_
        refine r_icmple (pc := 36) 165 C dX9_look_36 (by decide) (fun c_9 => ?_) (fun c_9 => ?_)
        · refine u_lv [(2, .int x2_4)] [2] rfl ?_
          exact hX4 _ (by rw [← hV4]; first | (simp only [lX9_look_23, ← e_r_7, if_pos c_9]; done) | (subst e_r_7; simp only [lX9_look_23, if_pos c_9]; done) | (subst e_r_7; rfl) | (subst e_r_7; simp [lX9_look_23, if_pos c_9]; done))
        · refine r_iconst (pc := 39) 0 C dX9_look_39 rfl ?_
          refine r_istore (pc := 40) [(5, .int 0), (0, .ref zm), (1, .int v), (2, .int x2_4), (3, .int x3_4), (4, .int (nI x4_4))] C dX9_look_40 (by decide) rfl ?_
          refine r_iconst (pc := 42) 1 C dX9_look_42 rfl ?_
          refine r_istore (pc := 43) [(6, .int 1), (5, .int 0), (0, .ref zm), (1, .int v), (2, .int x2_4), (3, .int x3_4), (4, .int (nI x4_4))] C dX9_look_43 (by decide) rfl ?_
          have hX10 : ∀ (x5_30 : Int32) , (x5_30 = lX9_look_45 sn sF sB sS v x4_4 (10 - 1) 0 1) → Vw g X 9 0 0 (fl [wMod g zm za1 za2 za3 za4 za5 za6 za7 za8 za9 zaa mp mt ml md np nt nl nP nS nD so ac mk mn mx nx mq mv wr ts sn sF sB sS mm]) 133 [(0, .ref zm), (1, .int v), (2, .int x2_4), (3, .int x3_4), (4, .int (nI x4_4)), (5, .int x5_30)] [] := by
            intro x5_30 e_x5_30 
            refine r_iload (pc := 133) C dX9_look_133 5 rfl ?_
            refine r_iload_n (pc := 135) C dX9_look_135 3 rfl ?_
            have hJ_33 : ∀ (w_32 : Int32) , (w_32 = (if x3_4 ≤ x5_30 then (x2_4) else ((nI x4_4)))) → Vw g X 9 0 0 (fl [wMod g zm za1 za2 za3 za4 za5 za6 za7 za8 za9 zaa mp mt ml md np nt nl nP nS nD so ac mk mn mx nx mq mv wr ts sn sF sB sS mm]) 145 [(0, .ref zm), (1, .int v), (3, .int x3_4), (4, .int (nI x4_4)), (5, .int x5_30)] [.int w_32] := by
              intro w_32 e_w_32
              refine r_istore_n (pc := 145) [(2, .int w_32), (0, .ref zm), (1, .int v), (3, .int x3_4), (4, .int (nI x4_4)), (5, .int x5_30)] C dX9_look_145 (by decide) rfl ?_
              refine r_iload (pc := 146) C dX9_look_146 5 rfl ?_
              refine r_iload_n (pc := 148) C dX9_look_148 3 rfl ?_
              refine r_icmpge (pc := 149) 157 C dX9_look_149 (by decide) (fun c_34 => ?_) (fun c_34 => ?_)
              · refine r_iload_n (pc := 157) C dX9_look_157 3 rfl ?_
                refine r_istore_n (pc := 158) [(3, .int x3_4), (2, .int w_32), (0, .ref zm), (1, .int v), (4, .int (nI x4_4)), (5, .int x5_30)] C dX9_look_158 (by decide) rfl ?_
                refine r_iinc (pc := 159) (nI (x4_4 + 1)) [(4, .int (nI (x4_4 + 1))), (3, .int x3_4), (2, .int w_32), (0, .ref zm), (1, .int v), (5, .int x5_30)] C dX9_look_159 4 rfl (inc1 _) (by decide) rfl ?_
                refine r_goto (pc := 162) 23 C dX9_look_162 (by decide) ?_
                refine u_lv [(0, .ref zm), (1, .int v), (2, .int w_32), (3, .int x3_4), (4, .int (nI (x4_4 + 1)))] [3, 4, 2, 1, 0] rfl ?_
                exact ih w_32 x3_4 (x4_4 + 1) (by omega) (by rw [← hV4]; first | (simp only [lX9_look_23, ← e_r_7, ← e_x5_30, ← e_w_32, if_neg c_9, if_pos c_34]; done) | (subst e_r_7 e_x5_30 e_w_32; simp only [lX9_look_23, if_neg c_9, if_pos c_34]; done) | (subst e_r_7 e_x5_30 e_w_32; rfl) | (subst e_r_7 e_x5_30 e_w_32; simp [lX9_look_23, if_neg c_9, if_pos c_34]; done))
              · refine r_iload (pc := 152) C dX9_look_152 5 rfl ?_
                refine r_goto (pc := 154) 158 C dX9_look_154 (by decide) ?_
                refine r_istore_n (pc := 158) [(3, .int x5_30), (2, .int w_32), (0, .ref zm), (1, .int v), (4, .int (nI x4_4)), (5, .int x5_30)] C dX9_look_158 (by decide) rfl ?_
                refine r_iinc (pc := 159) (nI (x4_4 + 1)) [(4, .int (nI (x4_4 + 1))), (3, .int x5_30), (2, .int w_32), (0, .ref zm), (1, .int v), (5, .int x5_30)] C dX9_look_159 4 rfl (inc1 _) (by decide) rfl ?_
                refine r_goto (pc := 162) 23 C dX9_look_162 (by decide) ?_
                refine u_lv [(0, .ref zm), (1, .int v), (2, .int w_32), (3, .int x5_30), (4, .int (nI (x4_4 + 1)))] [3, 4, 2, 1, 0] rfl ?_
                exact ih w_32 x5_30 (x4_4 + 1) (by omega) (by rw [← hV4]; first | (simp only [lX9_look_23, ← e_r_7, ← e_x5_30, ← e_w_32, if_neg c_9, if_neg c_34]; done) | (subst e_r_7 e_x5_30 e_w_32; simp only [lX9_look_23, if_neg c_9, if_neg c_34]; done) | (subst e_r_7 e_x5_30 e_w_32; rfl) | (subst e_r_7 e_x5_30 e_w_32; simp [lX9_look_23, if_neg c_9, if_neg c_34]; done))
            refine r_icmpge (pc := 136) 144 C dX9_look_136 (by decide) (fun c_31 => ?_) (fun c_31 => ?_)
            · refine r_iload_n (pc := 144) C dX9_look_144 2 rfl ?_
              refine u_lv [(0, .ref zm), (1, .int v), (3, .int x3_4), (4, .int (nI x4_4)), (5, .int x5_30)] [0, 1, 3, 4, 5] rfl ?_
              exact hJ_33 _ (by first | (simp only [if_pos c_31]; done) | rfl | (simp [if_pos c_31]; done))
            · refine r_iload (pc := 139) C dX9_look_139 4 rfl ?_
              refine r_goto (pc := 141) 145 C dX9_look_141 (by decide) ?_
              refine u_lv [(0, .ref zm), (1, .int v), (3, .int x3_4), (4, .int (nI x4_4)), (5, .int x5_30)] [0, 1, 3, 4, 5] rfl ?_
              exact hJ_33 _ (by first | (simp only [if_neg c_31]; done) | rfl | (simp [if_neg c_31]; done))
          have hL10 : ∀ (n : Nat) (x5_10 : Int32) (x6_10 : Nat) , (x6_10 + n = 10) → lX9_look_45 sn sF sB sS v x4_4 n x5_10 x6_10 = lX9_look_45 sn sF sB sS v x4_4 (10 - 1) 0 1 → Vw g X 9 0 0 (fl [wMod g zm za1 za2 za3 za4 za5 za6 za7 za8 za9 zaa mp mt ml md np nt nl nP nS nD so ac mk mn mx nx mq mv wr ts sn sF sB sS mm]) 45 [(0, .ref zm), (1, .int v), (2, .int x2_4), (3, .int x3_4), (4, .int (nI x4_4)), (5, .int x5_10), (6, .int (nI x6_10))] [] := by
            intro n
            induction n with
            | zero =>
              intro x5_10 x6_10 hr10 hV10
              refine r_iload (pc := 45) C dX9_look_45 6 rfl ?_
              refine r_bipush (pc := 47) 10 C dX9_look_47 rfl ?_
              refine r_icmpgeN (pc := 49) x6_10 10 133 C dX9_look_49 (by decide) rfl rfl (by omega) (by omega) (fun _ => ?_) (fun c_11 => absurd (by omega) c_11)
              refine u_lv [(0, .ref zm), (1, .int v), (2, .int x2_4), (3, .int x3_4), (4, .int (nI x4_4)), (5, .int x5_10)] [0, 1, 2, 3, 4, 5] rfl ?_
              exact hX10 _ (by rw [← hV10]; first | rfl | (simp only [lX9_look_45]; done) | (simp [lX9_look_45]; done))
            | succ n ih =>
              intro x5_10 x6_10 hr10 hV10
              refine r_iload (pc := 45) C dX9_look_45 6 rfl ?_
              refine r_bipush (pc := 47) 10 C dX9_look_47 rfl ?_
              refine r_icmpgeN (pc := 49) x6_10 10 133 C dX9_look_49 (by decide) rfl rfl (by omega) (by omega) (fun c_12 => absurd c_12 (by omega)) (fun _ => ?_)
              refine r_iconst (pc := 52) 0 C dX9_look_52 rfl ?_
              refine r_istore (pc := 53) [(7, .int 0), (0, .ref zm), (1, .int v), (2, .int x2_4), (3, .int x3_4), (4, .int (nI x4_4)), (5, .int x5_10), (6, .int (nI x6_10))] C dX9_look_53 (by decide) rfl ?_
              refine r_iconst (pc := 55) 1 C dX9_look_55 rfl ?_
              refine r_istore (pc := 56) [(8, .int 1), (7, .int 0), (0, .ref zm), (1, .int v), (2, .int x2_4), (3, .int x3_4), (4, .int (nI x4_4)), (5, .int x5_10), (6, .int (nI x6_10))] C dX9_look_56 (by decide) rfl ?_
              have hX13 : ∀ (x7_27 : Int32) , (x7_27 = lX9_look_58 sn sF sB sS x6_10 v x4_4 (10 - 1) 0 1) → Vw g X 9 0 0 (fl [wMod g zm za1 za2 za3 za4 za5 za6 za7 za8 za9 zaa mp mt ml md np nt nl nP nS nD so ac mk mn mx nx mq mv wr ts sn sF sB sS mm]) 118 [(0, .ref zm), (1, .int v), (2, .int x2_4), (3, .int x3_4), (4, .int (nI x4_4)), (5, .int x5_10), (6, .int (nI x6_10)), (7, .int x7_27)] [] := by
                intro x7_27 e_x7_27 
                refine r_iload (pc := 118) C dX9_look_118 5 rfl ?_
                refine r_iload (pc := 120) C dX9_look_120 7 rfl ?_
                obtain ⟨r_28, e_r_28⟩ : ∃ z : Int32, z = fX9_larger x5_10 x7_27 := ⟨_, rfl⟩
                have K_29 := ctX9_larger l g   x5_10 x7_27 
                rw [← e_r_28] at K_29
                refine x_pI (pc := 122) C ms_X9_145 K_29 dX9_look_122 (by decide) [] rfl (by decide) rfl (Nat.le_of_ble_eq_true rfl) ⟨Nat.zero_le _, Nat.zero_le _⟩ ?_
                refine r_istore (pc := 125) [(5, .int r_28), (0, .ref zm), (1, .int v), (2, .int x2_4), (3, .int x3_4), (4, .int (nI x4_4)), (6, .int (nI x6_10)), (7, .int x7_27)] C dX9_look_125 (by decide) rfl ?_
                refine r_iinc (pc := 127) (nI (x6_10 + 1)) [(6, .int (nI (x6_10 + 1))), (5, .int r_28), (0, .ref zm), (1, .int v), (2, .int x2_4), (3, .int x3_4), (4, .int (nI x4_4)), (7, .int x7_27)] C dX9_look_127 6 rfl (inc1 _) (by decide) rfl ?_
                refine r_goto (pc := 130) 45 C dX9_look_130 (by decide) ?_
                refine u_lv [(0, .ref zm), (1, .int v), (2, .int x2_4), (3, .int x3_4), (4, .int (nI x4_4)), (5, .int r_28), (6, .int (nI (x6_10 + 1)))] [2, 3, 4, 5, 6, 1, 0] rfl ?_
                exact ih r_28 (x6_10 + 1) (by omega) (by rw [← hV10]; first | (simp only [lX9_look_45, ← e_x7_27, ← e_r_28]; done) | (subst e_x7_27 e_r_28; rfl) | (subst e_x7_27 e_r_28; simp only [lX9_look_45]; done))
              have hL13 : ∀ (n : Nat) (x7_13 : Int32) (x8_13 : Nat) , (x8_13 + n = 10) → lX9_look_58 sn sF sB sS x6_10 v x4_4 n x7_13 x8_13 = lX9_look_58 sn sF sB sS x6_10 v x4_4 (10 - 1) 0 1 → Vw g X 9 0 0 (fl [wMod g zm za1 za2 za3 za4 za5 za6 za7 za8 za9 zaa mp mt ml md np nt nl nP nS nD so ac mk mn mx nx mq mv wr ts sn sF sB sS mm]) 58 [(0, .ref zm), (1, .int v), (2, .int x2_4), (3, .int x3_4), (4, .int (nI x4_4)), (5, .int x5_10), (6, .int (nI x6_10)), (7, .int x7_13), (8, .int (nI x8_13))] [] := by
                intro n
                induction n with
                | zero =>
                  intro x7_13 x8_13 hr13 hV13
                  refine r_iload (pc := 58) C dX9_look_58 8 rfl ?_
                  refine r_bipush (pc := 60) 10 C dX9_look_60 rfl ?_
                  refine r_icmpgeN (pc := 62) x8_13 10 118 C dX9_look_62 (by decide) rfl rfl (by omega) (by omega) (fun _ => ?_) (fun c_14 => absurd (by omega) c_14)
                  refine u_lv [(0, .ref zm), (1, .int v), (2, .int x2_4), (3, .int x3_4), (4, .int (nI x4_4)), (5, .int x5_10), (6, .int (nI x6_10)), (7, .int x7_13)] [0, 1, 2, 3, 4, 5, 6, 7] rfl ?_
                  exact hX13 _ (by rw [← hV13]; first | rfl | (simp only [lX9_look_58]; done) | (simp [lX9_look_58]; done))
                | succ n ih =>
                  intro x7_13 x8_13 hr13 hV13
                  refine r_iload (pc := 58) C dX9_look_58 8 rfl ?_
                  refine r_bipush (pc := 60) 10 C dX9_look_60 rfl ?_
                  refine r_icmpgeN (pc := 62) x8_13 10 118 C dX9_look_62 (by decide) rfl rfl (by omega) (by omega) (fun c_15 => absurd c_15 (by omega)) (fun _ => ?_)
                  refine r_iload (pc := 65) C dX9_look_65 7 rfl ?_
                  refine r_aload_n (pc := 67) C dX9_look_67 0 rfl ?_
                  refine r_iload (pc := 68) C dX9_look_68 6 rfl ?_
                  obtain ⟨r_16, e_r_16⟩ : ∃ z : Int32, z = fX9_isSo sn sF sB sS (nI x6_10) := ⟨_, rfl⟩
                  have K_17 := ctX9_isSo l g zm za1 za2 za3 za4 za5 za6 za7 za8 za9 zaa mp mt ml md np nt nl nP nS nD so ac mk mn mx nx mq mv wr ts sn sF sB sS mm (nI x6_10) (by omega)
                  rw [← e_r_16] at K_17
                  refine w_pI (pc := 70) C mv_X9_187 K_17 dX9_look_70 (by decide) [0] rfl (by decide) 0 rfl rfl (Nat.le_of_ble_eq_true rfl) ⟨Nat.zero_le _, Nat.zero_le _⟩ ?_
                  refine r_ifeq (pc := 73) 108 C dX9_look_73 (by decide) (fun c_18 => ?_) (fun c_18 => ?_)
                  · refine r_iconst (pc := 108) 0 C dX9_look_108 rfl ?_
                    refine r_iadd (pc := 109) C dX9_look_109 ?_
                    refine r_istore (pc := 110) [(7, .int (x7_13 + 0)), (0, .ref zm), (1, .int v), (2, .int x2_4), (3, .int x3_4), (4, .int (nI x4_4)), (5, .int x5_10), (6, .int (nI x6_10)), (8, .int (nI x8_13))] C dX9_look_110 (by decide) rfl ?_
                    refine r_iinc (pc := 112) (nI (x8_13 + 1)) [(8, .int (nI (x8_13 + 1))), (7, .int (x7_13 + 0)), (0, .ref zm), (1, .int v), (2, .int x2_4), (3, .int x3_4), (4, .int (nI x4_4)), (5, .int x5_10), (6, .int (nI x6_10))] C dX9_look_112 8 rfl (inc1 _) (by decide) rfl ?_
                    refine r_goto (pc := 115) 58 C dX9_look_115 (by decide) ?_
                    refine u_lv [(0, .ref zm), (1, .int v), (2, .int x2_4), (3, .int x3_4), (4, .int (nI x4_4)), (5, .int x5_10), (6, .int (nI x6_10)), (7, .int (x7_13 + 0)), (8, .int (nI (x8_13 + 1)))] [2, 3, 4, 5, 6, 7, 8, 1, 0] rfl ?_
                    exact ih (x7_13 + 0) (x8_13 + 1) (by omega) (by rw [← hV13]; first | (simp only [lX9_look_58, ← e_r_16, if_pos c_18]; done) | (subst e_r_16; simp only [lX9_look_58, if_pos c_18]; done) | (subst e_r_16; rfl) | (subst e_r_16; simp [lX9_look_58, if_pos c_18]; done))
                  · refine r_aload_n (pc := 76) C dX9_look_76 0 rfl ?_
                    refine r_iload (pc := 77) C dX9_look_77 8 rfl ?_
                    obtain ⟨r_19, e_r_19⟩ : ∃ z : Int32, z = fX9_isSo sn sF sB sS (nI x8_13) := ⟨_, rfl⟩
                    have K_20 := ctX9_isSo l g zm za1 za2 za3 za4 za5 za6 za7 za8 za9 zaa mp mt ml md np nt nl nP nS nD so ac mk mn mx nx mq mv wr ts sn sF sB sS mm (nI x8_13) (by omega)
                    rw [← e_r_19] at K_20
                    refine w_pI (pc := 79) C mv_X9_187 K_20 dX9_look_79 (by decide) [0] rfl (by decide) 0 rfl rfl (Nat.le_of_ble_eq_true rfl) ⟨Nat.zero_le _, Nat.zero_le _⟩ ?_
                    refine r_ifeq (pc := 82) 108 C dX9_look_82 (by decide) (fun c_21 => ?_) (fun c_21 => ?_)
                    · refine r_iconst (pc := 108) 0 C dX9_look_108 rfl ?_
                      refine r_iadd (pc := 109) C dX9_look_109 ?_
                      refine r_istore (pc := 110) [(7, .int (x7_13 + 0)), (0, .ref zm), (1, .int v), (2, .int x2_4), (3, .int x3_4), (4, .int (nI x4_4)), (5, .int x5_10), (6, .int (nI x6_10)), (8, .int (nI x8_13))] C dX9_look_110 (by decide) rfl ?_
                      refine r_iinc (pc := 112) (nI (x8_13 + 1)) [(8, .int (nI (x8_13 + 1))), (7, .int (x7_13 + 0)), (0, .ref zm), (1, .int v), (2, .int x2_4), (3, .int x3_4), (4, .int (nI x4_4)), (5, .int x5_10), (6, .int (nI x6_10))] C dX9_look_112 8 rfl (inc1 _) (by decide) rfl ?_
                      refine r_goto (pc := 115) 58 C dX9_look_115 (by decide) ?_
                      refine u_lv [(0, .ref zm), (1, .int v), (2, .int x2_4), (3, .int x3_4), (4, .int (nI x4_4)), (5, .int x5_10), (6, .int (nI x6_10)), (7, .int (x7_13 + 0)), (8, .int (nI (x8_13 + 1)))] [2, 3, 4, 5, 6, 7, 8, 1, 0] rfl ?_
                      exact ih (x7_13 + 0) (x8_13 + 1) (by omega) (by rw [← hV13]; first | (simp only [lX9_look_58, ← e_r_16, ← e_r_19, if_neg c_18, if_pos c_21]; done) | (subst e_r_16 e_r_19; simp only [lX9_look_58, if_neg c_18, if_pos c_21]; done) | (subst e_r_16 e_r_19; rfl) | (subst e_r_16 e_r_19; simp [lX9_look_58, if_neg c_18, if_pos c_21]; done))
                    · refine r_iload_n (pc := 85) C dX9_look_85 1 rfl ?_
                      refine r_iload (pc := 86) C dX9_look_86 4 rfl ?_
                      refine r_iload (pc := 88) C dX9_look_88 6 rfl ?_
                      obtain ⟨r_22, e_r_22⟩ : ∃ z : Int32, z = fX9_spun v (nI x4_4) (nI x6_10) := ⟨_, rfl⟩
                      have K_23 := ctX9_spun l g   v (nI x4_4) (nI x6_10) 
                      rw [← e_r_22] at K_23
                      refine x_pI (pc := 90) C ms_X9_184 K_23 dX9_look_90 (by decide) [] rfl (by decide) rfl (Nat.le_of_ble_eq_true rfl) ⟨Nat.zero_le _, Nat.zero_le _⟩ ?_
                      refine r_iload_n (pc := 93) C dX9_look_93 1 rfl ?_
                      refine r_iload (pc := 94) C dX9_look_94 4 rfl ?_
                      refine r_iload (pc := 96) C dX9_look_96 8 rfl ?_
                      obtain ⟨r_24, e_r_24⟩ : ∃ z : Int32, z = fX9_spun v (nI x4_4) (nI x8_13) := ⟨_, rfl⟩
                      have K_25 := ctX9_spun l g   v (nI x4_4) (nI x8_13) 
                      rw [← e_r_24] at K_25
                      refine x_pI (pc := 98) C ms_X9_184 K_25 dX9_look_98 (by decide) [] rfl (by decide) rfl (Nat.le_of_ble_eq_true rfl) ⟨Nat.zero_le _, Nat.zero_le _⟩ ?_
                      refine r_icmpne (pc := 101) 108 C dX9_look_101 (by decide) (fun c_26 => ?_) (fun c_26 => ?_)
                      · refine r_iconst (pc := 108) 0 C dX9_look_108 rfl ?_
                        refine r_iadd (pc := 109) C dX9_look_109 ?_
                        refine r_istore (pc := 110) [(7, .int (x7_13 + 0)), (0, .ref zm), (1, .int v), (2, .int x2_4), (3, .int x3_4), (4, .int (nI x4_4)), (5, .int x5_10), (6, .int (nI x6_10)), (8, .int (nI x8_13))] C dX9_look_110 (by decide) rfl ?_
                        refine r_iinc (pc := 112) (nI (x8_13 + 1)) [(8, .int (nI (x8_13 + 1))), (7, .int (x7_13 + 0)), (0, .ref zm), (1, .int v), (2, .int x2_4), (3, .int x3_4), (4, .int (nI x4_4)), (5, .int x5_10), (6, .int (nI x6_10))] C dX9_look_112 8 rfl (inc1 _) (by decide) rfl ?_
                        refine r_goto (pc := 115) 58 C dX9_look_115 (by decide) ?_
                        refine u_lv [(0, .ref zm), (1, .int v), (2, .int x2_4), (3, .int x3_4), (4, .int (nI x4_4)), (5, .int x5_10), (6, .int (nI x6_10)), (7, .int (x7_13 + 0)), (8, .int (nI (x8_13 + 1)))] [2, 3, 4, 5, 6, 7, 8, 1, 0] rfl ?_
                        exact ih (x7_13 + 0) (x8_13 + 1) (by omega) (by rw [← hV13]; first | (simp only [lX9_look_58, ← e_r_16, ← e_r_19, ← e_r_22, ← e_r_24, if_neg c_18, if_neg c_21, if_neg c_26]; done) | (subst e_r_16 e_r_19 e_r_22 e_r_24; simp only [lX9_look_58, if_neg c_18, if_neg c_21, if_neg c_26]; done) | (subst e_r_16 e_r_19 e_r_22 e_r_24; rfl) | (subst e_r_16 e_r_19 e_r_22 e_r_24; simp [lX9_look_58, if_neg c_18, if_neg c_21, if_neg c_26]; done))
                      · refine r_iconst (pc := 104) 1 C dX9_look_104 rfl ?_
                        refine r_goto (pc := 105) 109 C dX9_look_105 (by decide) ?_
                        refine r_iadd (pc := 109) C dX9_look_109 ?_
                        refine r_istore (pc := 110) [(7, .int (x7_13 + 1)), (0, .ref zm), (1, .int v), (2, .int x2_4), (3, .int x3_4), (4, .int (nI x4_4)), (5, .int x5_10), (6, .int (nI x6_10)), (8, .int (nI x8_13))] C dX9_look_110 (by decide) rfl ?_
                        refine r_iinc (pc := 112) (nI (x8_13 + 1)) [(8, .int (nI (x8_13 + 1))), (7, .int (x7_13 + 1)), (0, .ref zm), (1, .int v), (2, .int x2_4), (3, .int x3_4), (4, .int (nI x4_4)), (5, .int x5_10), (6, .int (nI x6_10))] C dX9_look_112 8 rfl (inc1 _) (by decide) rfl ?_
                        refine r_goto (pc := 115) 58 C dX9_look_115 (by decide) ?_
                        refine u_lv [(0, .ref zm), (1, .int v), (2, .int x2_4), (3, .int x3_4), (4, .int (nI x4_4)), (5, .int x5_10), (6, .int (nI x6_10)), (7, .int (x7_13 + 1)), (8, .int (nI (x8_13 + 1)))] [2, 3, 4, 5, 6, 7, 8, 1, 0] rfl ?_
                        exact ih (x7_13 + 1) (x8_13 + 1) (by omega) (by rw [← hV13]; first | (simp only [lX9_look_58, ← e_r_16, ← e_r_19, ← e_r_22, ← e_r_24, if_neg c_18, if_neg c_21, if_pos c_26]; done) | (subst e_r_16 e_r_19 e_r_22 e_r_24; simp only [lX9_look_58, if_neg c_18, if_neg c_21, if_pos c_26]; done) | (subst e_r_16 e_r_19 e_r_22 e_r_24; rfl) | (subst e_r_16 e_r_19 e_r_22 e_r_24; simp [lX9_look_58, if_neg c_18, if_neg c_21, if_pos c_26]; done))
              refine u_lv [(0, .ref zm), (1, .int v), (2, .int x2_4), (3, .int x3_4), (4, .int (nI x4_4)), (5, .int x5_10), (6, .int (nI x6_10)), (7, .int 0), (8, .int 1)] [2, 3, 4, 5, 6, 7, 8, 1, 0] rfl ?_
              exact hL13 (10 - 1) 0 1 (by omega) rfl
          refine u_lv [(0, .ref zm), (1, .int v), (2, .int x2_4), (3, .int x3_4), (4, .int (nI x4_4)), (5, .int 0), (6, .int 1)] [2, 3, 4, 5, 6, 1, 0] rfl ?_
          exact hL10 (10 - 1) 0 1 (by omega) rfl
    refine u_lv [(0, .ref zm), (1, .int v), (2, .int (-9)), (3, .int 99), (4, .int 1)] [3, 4, 2, 1, 0] rfl ?_
    exact hL4 (21 - 1) (-9) 99 1 (by omega) rfl
  · refine r_iconst (pc := 12) (-1) C dX9_look_12 rfl ?_
    have hf : fX9_look sn sF sB sS v = (-1) := by first | (simp only [fX9_look, ← e_r_1, if_pos c_3]; done) | (subst e_r_1; simp only [fX9_look, if_pos c_3]; done) | (subst e_r_1; rfl) | (subst e_r_1; simp [fX9_look, if_pos c_3]; done)
    rw [hf] at hR
    exact hR _ _ dX9_look_13
theorem ctX9_look (l : Launch) (g : Gl) (zm : Nat) (za1 : Nat) (za2 : Nat) (za3 : Nat) (za4 : Nat) (za5 : Nat) (za6 : Nat) (za7 : Nat) (za8 : Nat) (za9 : Nat) (zaa : Nat) (mp : Int32) (mt : Nat) (ml : Int32) (md : Nat → Int32) (np : Int32) (nt : Nat) (nl : Int32) (nP : Nat → Int32) (nS : Nat → Int32) (nD : Nat → Int32) (so : Nat → Int32) (ac : Nat) (mk : Nat → Int32) (mn : Nat) (mx : Nat → Int32) (nx : Nat) (mq : Nat) (mv : Int32) (wr : Int32) (ts : Int32) (sn : Nat) (sF : Nat → Int32) (sB : Nat → Int32) (sS : Nat → Int32) (mm : Int64) (v : Int32) (q0 : sn ≤ 6) : CtI l g yX9_look cX9_look 9 (some .int) 4 [.ref zm, .int v] (fl [wMod g zm za1 za2 za3 za4 za5 za6 za7 za8 za9 zaa mp mt ml md np nt nl nP nS nD so ac mk mn mx nx mq mv wr ts sn sF sB sS mm]) (fX9_look sn sF sB sS v) (fl [wMod g zm za1 za2 za3 za4 za5 za6 za7 za8 za9 zaa mp mt ml md np nt nl nP nS nD so ac mk mn mx nx mq mv wr ts sn sF sB sS mm]) := mkI .int rfl rfl [(0, .ref zm), (1, .int v)] (by decide) (Nat.le_of_ble_eq_true rfl) rfl (fun X C hR => bX9_look C zm za1 za2 za3 za4 za5 za6 za7 za8 za9 zaa mp mt ml md np nt nl nP nS nD so ac mk mn mx nx mq mv wr ts sn sF sB sS mm v q0 hR)

def fX9_rate (mt : Nat) (md : Nat → Int32) (so : Nat → Int32) (mm : Int64) (w : Int32) (t : Int32) : (Int32) × (Int64) := (let r_1 : Int32 := fX9_in (((w : Int32)).toInt64) 0 5; if r_1 = 0 then (((-1000000), mm)) else (let r_4 : Int32 := fX9_isTop mt t; if r_4 = 0 then (((-1000000), mm)) else (let mm_8 : Int64 := mm + 1; let J_17 := (if w = 1 then (let y_10 : Int32 := (so (6 + t.toNatClampNeg)) + (md t.toNatClampNeg); let mm_11 : Int64 := mm_8 + 10; (y_10, mm_11)) else (if w = 3 then (let y_13 : Int32 := (so (6 + t.toNatClampNeg)) + (md t.toNatClampNeg); let mm_14 : Int64 := mm_8 + 10; (y_13, mm_14)) else (((so (6 + t.toNatClampNeg)), mm_8))) : (Int32) × (Int64)); let x3_15 : Int32 := J_17.1; let mm_16 : Int64 := J_17.2; let J_28 := (if w = 2 then (let r_19 : Int32 := fX9_bits (so 12); let mm_21 : Int64 := mm_16 + 100; ((x3_15 - r_19), mm_21)) else (if w = 4 then (let r_23 : Int32 := fX9_bits (so 12); let mm_25 : Int64 := mm_16 + 100; ((x3_15 - r_23), mm_25)) else ((x3_15, mm_16))) : (Int32) × (Int64)); let x3_26 : Int32 := J_28.1; let mm_27 : Int64 := J_28.2; let J_33 := (if w = 3 then (let mm_30 : Int64 := mm_27 + 1000; ((x3_26 * 2), mm_30)) else ((x3_26, mm_27)) : (Int32) × (Int64)); let x3_31 : Int32 := J_33.1; let mm_32 : Int64 := J_33.2; let J_38 := (if w = 4 then (let mm_35 : Int64 := mm_32 + 10000; ((x3_31 + (nI t.toNatClampNeg)), mm_35)) else ((x3_31, mm_32)) : (Int32) × (Int64)); let x3_36 : Int32 := J_38.1; let mm_37 : Int64 := J_38.2; if w = 5 then (let mm_40 : Int64 := mm_37 + 100000; ((x3_36 + (so 13)), mm_40)) else ((x3_36, mm_37)))))
set_option maxHeartbeats 4000000 in
set_option maxRecDepth 100000 in
theorem bX9_rate {l : Launch} {g : Gl} {X : Cx} (C : Ok l g X RX9 cX9_rate 4 2) (zm : Nat) (za1 : Nat) (za2 : Nat) (za3 : Nat) (za4 : Nat) (za5 : Nat) (za6 : Nat) (za7 : Nat) (za8 : Nat) (za9 : Nat) (zaa : Nat) (mp : Int32) (mt : Nat) (ml : Int32) (md : Nat → Int32) (np : Int32) (nt : Nat) (nl : Int32) (nP : Nat → Int32) (nS : Nat → Int32) (nD : Nat → Int32) (so : Nat → Int32) (ac : Nat) (mk : Nat → Int32) (mn : Nat) (mx : Nat → Int32) (nx : Nat) (mq : Nat) (mv : Int32) (wr : Int32) (ts : Int32) (sn : Nat) (sF : Nat → Int32) (sB : Nat → Int32) (sS : Nat → Int32) (mm : Int64) (w : Int32) (t : Int32) (q0 : mt ≤ 6) (hR : RetI g X cX9_rate 4 0 0 ((fX9_rate mt md so mm w t).1) (fl [wMod g zm za1 za2 za3 za4 za5 za6 za7 za8 za9 zaa mp mt ml md np nt nl nP nS nD so ac mk mn mx nx mq mv wr ts sn sF sB sS ((fX9_rate mt md so mm w t).2)])) : Vw g X 4 0 0 (fl [wMod g zm za1 za2 za3 za4 za5 za6 za7 za8 za9 zaa mp mt ml md np nt nl nP nS nD so ac mk mn mx nx mq mv wr ts sn sF sB sS mm]) 0 [(0, .ref zm), (1, .int w), (2, .int t)] [] := by
  refine r_iload_n (pc := 0) C dX9_rate_0 1 rfl ?_
  refine r_i2l (pc := 1) C dX9_rate_1 ?_
  refine r_lconst (pc := 2) 0 C dX9_rate_2 rfl ?_
  refine r_ldc2 (pc := 3) C dX9_rate_3 kl_X9_153 ?_
  obtain ⟨r_1, e_r_1⟩ : ∃ z : Int32, z = fX9_in (((w : Int32)).toInt64) 0 5 := ⟨_, rfl⟩
  have K_2 := ctX9_in l g   (((w : Int32)).toInt64) 0 5 
  rw [← e_r_1] at K_2
  refine x_pI (pc := 6) C ms_X9_50 K_2 dX9_rate_6 (by decide) [] rfl (by decide) rfl (Nat.le_of_ble_eq_true rfl) ⟨Nat.zero_le _, Nat.zero_le _⟩ ?_
  refine r_ifeq (pc := 9) 20 C dX9_rate_9 (by decide) (fun c_3 => ?_) (fun c_3 => ?_)
  · refine r_ldc (pc := 20) C dX9_rate_20 kc_X9_193 ?_
    have hf : fX9_rate mt md so mm w t = ((-1000000), mm) := by first | (simp only [fX9_rate, ← e_r_1, if_pos c_3]; done) | (subst e_r_1; simp only [fX9_rate, if_pos c_3]; done) | (subst e_r_1; rfl) | (subst e_r_1; simp [fX9_rate, if_pos c_3]; done)
    rw [hf] at hR
    exact hR _ _ dX9_rate_22
  · refine r_aload_n (pc := 12) C dX9_rate_12 0 rfl ?_
    refine r_iload_n (pc := 13) C dX9_rate_13 2 rfl ?_
    obtain ⟨r_4, e_r_4⟩ : ∃ z : Int32, z = fX9_isTop mt t := ⟨_, rfl⟩
    have K_5 := ctX9_isTop l g zm za1 za2 za3 za4 za5 za6 za7 za8 za9 zaa mp mt ml md np nt nl nP nS nD so ac mk mn mx nx mq mv wr ts sn sF sB sS mm t 
    rw [← e_r_4] at K_5
    refine w_pI (pc := 14) C mv_X9_148 K_5 dX9_rate_14 (by decide) [0] rfl (by decide) 0 rfl rfl (Nat.le_of_ble_eq_true rfl) ⟨Nat.zero_le _, Nat.zero_le _⟩ ?_
    refine r_ifne (pc := 17) 23 C dX9_rate_17 (by decide) (fun c_6 => ?_) (fun c_6 => ?_)
    · obtain ⟨h_7, qh_7⟩ := natc (x := t) (B := mt) (by omega) (m_isTop_nat (by rw [← e_r_4]; assumption))
      refine u_lvq [(0, .ref zm), (1, .int w), (2, .int (nI t.toNatClampNeg))] (by rw [qh_7]) ?_
      refine r_aload_n (pc := 23) C dX9_rate_23 0 rfl ?_
      refine r_get (pc := 24) C fl_X9_29 dX9_rate_24 0 rfl rfl ?_
      refine r_bipush (pc := 27) 6 C dX9_rate_27 rfl ?_
      refine r_iload_n (pc := 29) C dX9_rate_29 2 rfl ?_
      refine r_iaddN (pc := 30) 6 t.toNatClampNeg C dX9_rate_30 rfl rfl ?_
      refine r_iald (pc := 31) (6 + t.toNatClampNeg) C dX9_rate_31 5 rfl rfl (by omega) (by decide) ?_
      refine r_istore_n (pc := 32) [(3, .int (so (6 + t.toNatClampNeg))), (0, .ref zm), (1, .int w), (2, .int (nI t.toNatClampNeg))] C dX9_rate_32 (by decide) rfl ?_
      refine r_aload_n (pc := 33) C dX9_rate_33 1 rfl ?_
      refine r_dup (pc := 34) C dX9_rate_34 rfl ?_
      refine r_get (pc := 35) C fl_X9_194 dX9_rate_35 0 rfl rfl ?_
      refine r_lconst (pc := 38) 1 C dX9_rate_38 rfl ?_
      refine r_ladd (pc := 39) C dX9_rate_39 ?_
      refine u_lng (fun mm_8 e_mm_8 => ?_)
      refine r_put (pc := 40) (fl [wMod g zm za1 za2 za3 za4 za5 za6 za7 za8 za9 zaa mp mt ml md np nt nl nP nS nD so ac mk mn mx nx mq mv wr ts sn sF sB sS mm_8]) C fp_X9_194 dX9_rate_40 0 rfl (Nat.le_of_ble_eq_true rfl) rfl rfl rfl ?_
      refine r_iload_n (pc := 43) C dX9_rate_43 2 rfl ?_
      refine r_iconst (pc := 44) 1 C dX9_rate_44 rfl ?_
      have hJ_17 : ∀ (x3_15 : Int32) (mm_16 : Int64) , (x3_15 = (if w = 1 then (let y_10 : Int32 := (so (6 + t.toNatClampNeg)) + (md t.toNatClampNeg); let mm_11 : Int64 := mm_8 + 10; (y_10, mm_11)) else (if w = 3 then (let y_13 : Int32 := (so (6 + t.toNatClampNeg)) + (md t.toNatClampNeg); let mm_14 : Int64 := mm_8 + 10; (y_13, mm_14)) else (((so (6 + t.toNatClampNeg)), mm_8))) : (Int32) × (Int64)).1) → (mm_16 = (if w = 1 then (let y_10 : Int32 := (so (6 + t.toNatClampNeg)) + (md t.toNatClampNeg); let mm_11 : Int64 := mm_8 + 10; (y_10, mm_11)) else (if w = 3 then (let y_13 : Int32 := (so (6 + t.toNatClampNeg)) + (md t.toNatClampNeg); let mm_14 : Int64 := mm_8 + 10; (y_13, mm_14)) else (((so (6 + t.toNatClampNeg)), mm_8))) : (Int32) × (Int64)).2) → Vw g X 4 0 0 (fl [wMod g zm za1 za2 za3 za4 za5 za6 za7 za8 za9 zaa mp mt ml md np nt nl nP nS nD so ac mk mn mx nx mq mv wr ts sn sF sB sS mm_16]) 74 [(0, .ref zm), (1, .int w), (2, .int (nI t.toNatClampNeg)), (3, .int x3_15)] [] := by
        intro x3_15 mm_16 e_x3_15 e_mm_16
        refine r_iload_n (pc := 74) C dX9_rate_74 1 rfl ?_
        refine r_iconst (pc := 75) 2 C dX9_rate_75 rfl ?_
        have hJ_28 : ∀ (x3_26 : Int32) (mm_27 : Int64) , (x3_26 = (if w = 2 then (let r_19 : Int32 := fX9_bits (so 12); let mm_21 : Int64 := mm_16 + 100; ((x3_15 - r_19), mm_21)) else (if w = 4 then (let r_23 : Int32 := fX9_bits (so 12); let mm_25 : Int64 := mm_16 + 100; ((x3_15 - r_23), mm_25)) else ((x3_15, mm_16))) : (Int32) × (Int64)).1) → (mm_27 = (if w = 2 then (let r_19 : Int32 := fX9_bits (so 12); let mm_21 : Int64 := mm_16 + 100; ((x3_15 - r_19), mm_21)) else (if w = 4 then (let r_23 : Int32 := fX9_bits (so 12); let mm_25 : Int64 := mm_16 + 100; ((x3_15 - r_23), mm_25)) else ((x3_15, mm_16))) : (Int32) × (Int64)).2) → Vw g X 4 0 0 (fl [wMod g zm za1 za2 za3 za4 za5 za6 za7 za8 za9 zaa mp mt ml md np nt nl nP nS nD so ac mk mn mx nx mq mv wr ts sn sF sB sS mm_27]) 109 [(0, .ref zm), (1, .int w), (2, .int (nI t.toNatClampNeg)), (3, .int x3_26)] [] := by
          intro x3_26 mm_27 e_x3_26 e_mm_27
          refine r_iload_n (pc := 109) C dX9_rate_109 1 rfl ?_
          refine r_iconst (pc := 110) 3 C dX9_rate_110 rfl ?_
          have hJ_33 : ∀ (x3_31 : Int32) (mm_32 : Int64) , (x3_31 = (if w = 3 then (let mm_30 : Int64 := mm_27 + 1000; ((x3_26 * 2), mm_30)) else ((x3_26, mm_27)) : (Int32) × (Int64)).1) → (mm_32 = (if w = 3 then (let mm_30 : Int64 := mm_27 + 1000; ((x3_26 * 2), mm_30)) else ((x3_26, mm_27)) : (Int32) × (Int64)).2) → Vw g X 4 0 0 (fl [wMod g zm za1 za2 za3 za4 za5 za6 za7 za8 za9 zaa mp mt ml md np nt nl nP nS nD so ac mk mn mx nx mq mv wr ts sn sF sB sS mm_32]) 130 [(0, .ref zm), (1, .int w), (2, .int (nI t.toNatClampNeg)), (3, .int x3_31)] [] := by
            intro x3_31 mm_32 e_x3_31 e_mm_32
            refine r_iload_n (pc := 130) C dX9_rate_130 1 rfl ?_
            refine r_iconst (pc := 131) 4 C dX9_rate_131 rfl ?_
            have hJ_38 : ∀ (x3_36 : Int32) (mm_37 : Int64) , (x3_36 = (if w = 4 then (let mm_35 : Int64 := mm_32 + 10000; ((x3_31 + (nI t.toNatClampNeg)), mm_35)) else ((x3_31, mm_32)) : (Int32) × (Int64)).1) → (mm_37 = (if w = 4 then (let mm_35 : Int64 := mm_32 + 10000; ((x3_31 + (nI t.toNatClampNeg)), mm_35)) else ((x3_31, mm_32)) : (Int32) × (Int64)).2) → Vw g X 4 0 0 (fl [wMod g zm za1 za2 za3 za4 za5 za6 za7 za8 za9 zaa mp mt ml md np nt nl nP nS nD so ac mk mn mx nx mq mv wr ts sn sF sB sS mm_37]) 151 [(0, .ref zm), (1, .int w), (3, .int x3_36)] [] := by
              intro x3_36 mm_37 e_x3_36 e_mm_37
              refine r_iload_n (pc := 151) C dX9_rate_151 1 rfl ?_
              refine r_iconst (pc := 152) 5 C dX9_rate_152 rfl ?_
              refine r_icmpne (pc := 153) 178 C dX9_rate_153 (by decide) (fun c_39 => ?_) (fun c_39 => ?_)
              · refine r_iload_n (pc := 178) C dX9_rate_178 2 rfl ?_
                have hf : fX9_rate mt md so mm w t = (x3_36, mm_37) := by first | (simp only [fX9_rate, ← e_r_1, ← e_r_4, ← e_mm_8, ← e_x3_15, ← e_mm_16, ← e_x3_26, ← e_mm_27, ← e_x3_31, ← e_mm_32, ← e_x3_36, ← e_mm_37, if_neg c_3, if_neg c_6, if_neg c_39]; done) | (subst e_r_1 e_r_4 e_mm_8 e_x3_15 e_mm_16 e_x3_26 e_mm_27 e_x3_31 e_mm_32 e_x3_36 e_mm_37; simp only [fX9_rate, if_neg c_3, if_neg c_6, if_neg c_39]; done) | (subst e_r_1 e_r_4 e_mm_8 e_x3_15 e_mm_16 e_x3_26 e_mm_27 e_x3_31 e_mm_32 e_x3_36 e_mm_37; rfl) | (subst e_r_1 e_r_4 e_mm_8 e_x3_15 e_mm_16 e_x3_26 e_mm_27 e_x3_31 e_mm_32 e_x3_36 e_mm_37; simp [fX9_rate, if_neg c_3, if_neg c_6, if_neg c_39]; done)
                rw [hf] at hR
                exact hR _ _ dX9_rate_179
              · refine r_iload_n (pc := 156) C dX9_rate_156 2 rfl ?_
                refine r_aload_n (pc := 157) C dX9_rate_157 0 rfl ?_
                refine r_get (pc := 158) C fl_X9_29 dX9_rate_158 0 rfl rfl ?_
                refine r_bipush (pc := 161) 13 C dX9_rate_161 rfl ?_
                refine r_iald (pc := 163) 13 C dX9_rate_163 5 rfl rfl (by omega) (by decide) ?_
                refine r_iadd (pc := 164) C dX9_rate_164 ?_
                refine r_istore_n (pc := 165) [(3, .int (x3_36 + (so 13))), (0, .ref zm), (1, .int w)] C dX9_rate_165 (by decide) rfl ?_
                refine r_aload_n (pc := 166) C dX9_rate_166 1 rfl ?_
                refine r_dup (pc := 167) C dX9_rate_167 rfl ?_
                refine r_get (pc := 168) C fl_X9_194 dX9_rate_168 0 rfl rfl ?_
                refine r_ldc2 (pc := 171) C dX9_rate_171 kl_X9_204 ?_
                refine r_ladd (pc := 174) C dX9_rate_174 ?_
                refine u_lng (fun mm_40 e_mm_40 => ?_)
                refine r_put (pc := 175) (fl [wMod g zm za1 za2 za3 za4 za5 za6 za7 za8 za9 zaa mp mt ml md np nt nl nP nS nD so ac mk mn mx nx mq mv wr ts sn sF sB sS mm_40]) C fp_X9_194 dX9_rate_175 0 rfl (Nat.le_of_ble_eq_true rfl) rfl rfl rfl ?_
                refine r_iload_n (pc := 178) C dX9_rate_178 0 rfl ?_
                have hf : fX9_rate mt md so mm w t = ((x3_36 + (so 13)), mm_40) := by first | (simp only [fX9_rate, ← e_r_1, ← e_r_4, ← e_mm_8, ← e_x3_15, ← e_mm_16, ← e_x3_26, ← e_mm_27, ← e_x3_31, ← e_mm_32, ← e_x3_36, ← e_mm_37, ← e_mm_40, if_neg c_3, if_neg c_6, if_pos c_39]; done) | (subst e_r_1 e_r_4 e_mm_8 e_x3_15 e_mm_16 e_x3_26 e_mm_27 e_x3_31 e_mm_32 e_x3_36 e_mm_37 e_mm_40; simp only [fX9_rate, if_neg c_3, if_neg c_6, if_pos c_39]; done) | (subst e_r_1 e_r_4 e_mm_8 e_x3_15 e_mm_16 e_x3_26 e_mm_27 e_x3_31 e_mm_32 e_x3_36 e_mm_37 e_mm_40; rfl) | (subst e_r_1 e_r_4 e_mm_8 e_x3_15 e_mm_16 e_x3_26 e_mm_27 e_x3_31 e_mm_32 e_x3_36 e_mm_37 e_mm_40; simp [fX9_rate, if_neg c_3, if_neg c_6, if_pos c_39]; done)
                rw [hf] at hR
                exact hR _ _ dX9_rate_179
            refine r_icmpne (pc := 132) 151 C dX9_rate_132 (by decide) (fun c_34 => ?_) (fun c_34 => ?_)
            · refine u_lv [(0, .ref zm), (1, .int w), (3, .int x3_31)] [0, 1, 3] rfl ?_
              exact hJ_38 _ _ (by first | (simp only [if_neg c_34]; done) | rfl | (simp [if_neg c_34]; done)) (by first | (simp only [if_neg c_34]; done) | rfl | (simp [if_neg c_34]; done))
            · refine r_iload_n (pc := 135) C dX9_rate_135 3 rfl ?_
              refine r_iload_n (pc := 136) C dX9_rate_136 2 rfl ?_
              refine r_iadd (pc := 137) C dX9_rate_137 ?_
              refine r_istore_n (pc := 138) [(3, .int (x3_31 + (nI t.toNatClampNeg))), (0, .ref zm), (1, .int w), (2, .int (nI t.toNatClampNeg))] C dX9_rate_138 (by decide) rfl ?_
              refine r_aload_n (pc := 139) C dX9_rate_139 1 rfl ?_
              refine r_dup (pc := 140) C dX9_rate_140 rfl ?_
              refine r_get (pc := 141) C fl_X9_194 dX9_rate_141 0 rfl rfl ?_
              refine r_ldc2 (pc := 144) C dX9_rate_144 kl_X9_202 ?_
              refine r_ladd (pc := 147) C dX9_rate_147 ?_
              refine u_lng (fun mm_35 e_mm_35 => ?_)
              refine r_put (pc := 148) (fl [wMod g zm za1 za2 za3 za4 za5 za6 za7 za8 za9 zaa mp mt ml md np nt nl nP nS nD so ac mk mn mx nx mq mv wr ts sn sF sB sS mm_35]) C fp_X9_194 dX9_rate_148 0 rfl (Nat.le_of_ble_eq_true rfl) rfl rfl rfl ?_
              refine u_lv [(0, .ref zm), (1, .int w), (3, .int (x3_31 + (nI t.toNatClampNeg)))] [1, 2, 0] rfl ?_
              exact hJ_38 _ _ (by first | (simp only [← e_mm_35, if_pos c_34]; done) | (subst e_mm_35; simp only [if_pos c_34]; done) | (subst e_mm_35; rfl) | (subst e_mm_35; simp [if_pos c_34]; done)) (by first | (simp only [← e_mm_35, if_pos c_34]; done) | (subst e_mm_35; simp only [if_pos c_34]; done) | (subst e_mm_35; rfl) | (subst e_mm_35; simp [if_pos c_34]; done))
          refine r_icmpne (pc := 111) 130 C dX9_rate_111 (by decide) (fun c_29 => ?_) (fun c_29 => ?_)
          · exact hJ_33 _ _ (by first | (simp only [if_neg c_29]; done) | rfl | (simp [if_neg c_29]; done)) (by first | (simp only [if_neg c_29]; done) | rfl | (simp [if_neg c_29]; done))
          · refine r_iload_n (pc := 114) C dX9_rate_114 3 rfl ?_
            refine r_iconst (pc := 115) 2 C dX9_rate_115 rfl ?_
            refine r_imul (pc := 116) C dX9_rate_116 ?_
            refine r_istore_n (pc := 117) [(3, .int (x3_26 * 2)), (0, .ref zm), (1, .int w), (2, .int (nI t.toNatClampNeg))] C dX9_rate_117 (by decide) rfl ?_
            refine r_aload_n (pc := 118) C dX9_rate_118 1 rfl ?_
            refine r_dup (pc := 119) C dX9_rate_119 rfl ?_
            refine r_get (pc := 120) C fl_X9_194 dX9_rate_120 0 rfl rfl ?_
            refine r_ldc2 (pc := 123) C dX9_rate_123 kl_X9_200 ?_
            refine r_ladd (pc := 126) C dX9_rate_126 ?_
            refine u_lng (fun mm_30 e_mm_30 => ?_)
            refine r_put (pc := 127) (fl [wMod g zm za1 za2 za3 za4 za5 za6 za7 za8 za9 zaa mp mt ml md np nt nl nP nS nD so ac mk mn mx nx mq mv wr ts sn sF sB sS mm_30]) C fp_X9_194 dX9_rate_127 0 rfl (Nat.le_of_ble_eq_true rfl) rfl rfl rfl ?_
            refine u_lv [(0, .ref zm), (1, .int w), (2, .int (nI t.toNatClampNeg)), (3, .int (x3_26 * 2))] [1, 2, 3, 0] rfl ?_
            exact hJ_33 _ _ (by first | (simp only [← e_mm_30, if_pos c_29]; done) | (subst e_mm_30; simp only [if_pos c_29]; done) | (subst e_mm_30; rfl) | (subst e_mm_30; simp [if_pos c_29]; done)) (by first | (simp only [← e_mm_30, if_pos c_29]; done) | (subst e_mm_30; simp only [if_pos c_29]; done) | (subst e_mm_30; rfl) | (subst e_mm_30; simp [if_pos c_29]; done))
        refine r_icmpeq (pc := 76) 84 C dX9_rate_76 (by decide) (fun c_18 => ?_) (fun c_18 => ?_)
        · refine r_iload_n (pc := 84) C dX9_rate_84 3 rfl ?_
          refine r_aload_n (pc := 85) C dX9_rate_85 0 rfl ?_
          refine r_get (pc := 86) C fl_X9_29 dX9_rate_86 0 rfl rfl ?_
          refine r_bipush (pc := 89) 12 C dX9_rate_89 rfl ?_
          refine r_iald (pc := 91) 12 C dX9_rate_91 5 rfl rfl (by omega) (by decide) ?_
          obtain ⟨r_19, e_r_19⟩ : ∃ z : Int32, z = fX9_bits (so 12) := ⟨_, rfl⟩
          have K_20 := ctX9_bits l g   (so 12) 
          rw [← e_r_19] at K_20
          refine x_pI (pc := 92) C ms_X9_164 K_20 dX9_rate_92 (by decide) [] rfl (by decide) rfl (Nat.le_of_ble_eq_true rfl) ⟨Nat.zero_le _, Nat.zero_le _⟩ ?_
          refine r_isub (pc := 95) C dX9_rate_95 ?_
          refine r_istore_n (pc := 96) [(3, .int (x3_15 - r_19)), (0, .ref zm), (1, .int w), (2, .int (nI t.toNatClampNeg))] C dX9_rate_96 (by decide) rfl ?_
          refine r_aload_n (pc := 97) C dX9_rate_97 1 rfl ?_
          refine r_dup (pc := 98) C dX9_rate_98 rfl ?_
          refine r_get (pc := 99) C fl_X9_194 dX9_rate_99 0 rfl rfl ?_
          refine r_ldc2 (pc := 102) C dX9_rate_102 kl_X9_198 ?_
          refine r_ladd (pc := 105) C dX9_rate_105 ?_
          refine u_lng (fun mm_21 e_mm_21 => ?_)
          refine r_put (pc := 106) (fl [wMod g zm za1 za2 za3 za4 za5 za6 za7 za8 za9 zaa mp mt ml md np nt nl nP nS nD so ac mk mn mx nx mq mv wr ts sn sF sB sS mm_21]) C fp_X9_194 dX9_rate_106 0 rfl (Nat.le_of_ble_eq_true rfl) rfl rfl rfl ?_
          refine u_lv [(0, .ref zm), (1, .int w), (2, .int (nI t.toNatClampNeg)), (3, .int (x3_15 - r_19))] [1, 2, 3, 0] rfl ?_
          exact hJ_28 _ _ (by first | (simp only [← e_r_19, ← e_mm_21, if_pos c_18]; done) | (subst e_r_19 e_mm_21; simp only [if_pos c_18]; done) | (subst e_r_19 e_mm_21; rfl) | (subst e_r_19 e_mm_21; simp [if_pos c_18]; done)) (by first | (simp only [← e_r_19, ← e_mm_21, if_pos c_18]; done) | (subst e_r_19 e_mm_21; simp only [if_pos c_18]; done) | (subst e_r_19 e_mm_21; rfl) | (subst e_r_19 e_mm_21; simp [if_pos c_18]; done))
        · refine r_iload_n (pc := 79) C dX9_rate_79 1 rfl ?_
          refine r_iconst (pc := 80) 4 C dX9_rate_80 rfl ?_
          refine r_icmpne (pc := 81) 109 C dX9_rate_81 (by decide) (fun c_22 => ?_) (fun c_22 => ?_)
          · exact hJ_28 _ _ (by first | (simp only [if_neg c_18, if_neg c_22]; done) | rfl | (simp [if_neg c_18, if_neg c_22]; done)) (by first | (simp only [if_neg c_18, if_neg c_22]; done) | rfl | (simp [if_neg c_18, if_neg c_22]; done))
          · refine r_iload_n (pc := 84) C dX9_rate_84 3 rfl ?_
            refine r_aload_n (pc := 85) C dX9_rate_85 0 rfl ?_
            refine r_get (pc := 86) C fl_X9_29 dX9_rate_86 0 rfl rfl ?_
            refine r_bipush (pc := 89) 12 C dX9_rate_89 rfl ?_
            refine r_iald (pc := 91) 12 C dX9_rate_91 5 rfl rfl (by omega) (by decide) ?_
            obtain ⟨r_23, e_r_23⟩ : ∃ z : Int32, z = fX9_bits (so 12) := ⟨_, rfl⟩
            have K_24 := ctX9_bits l g   (so 12) 
            rw [← e_r_23] at K_24
            refine x_pI (pc := 92) C ms_X9_164 K_24 dX9_rate_92 (by decide) [] rfl (by decide) rfl (Nat.le_of_ble_eq_true rfl) ⟨Nat.zero_le _, Nat.zero_le _⟩ ?_
            refine r_isub (pc := 95) C dX9_rate_95 ?_
            refine r_istore_n (pc := 96) [(3, .int (x3_15 - r_23)), (0, .ref zm), (1, .int w), (2, .int (nI t.toNatClampNeg))] C dX9_rate_96 (by decide) rfl ?_
            refine r_aload_n (pc := 97) C dX9_rate_97 1 rfl ?_
            refine r_dup (pc := 98) C dX9_rate_98 rfl ?_
            refine r_get (pc := 99) C fl_X9_194 dX9_rate_99 0 rfl rfl ?_
            refine r_ldc2 (pc := 102) C dX9_rate_102 kl_X9_198 ?_
            refine r_ladd (pc := 105) C dX9_rate_105 ?_
            refine u_lng (fun mm_25 e_mm_25 => ?_)
            refine r_put (pc := 106) (fl [wMod g zm za1 za2 za3 za4 za5 za6 za7 za8 za9 zaa mp mt ml md np nt nl nP nS nD so ac mk mn mx nx mq mv wr ts sn sF sB sS mm_25]) C fp_X9_194 dX9_rate_106 0 rfl (Nat.le_of_ble_eq_true rfl) rfl rfl rfl ?_
            refine u_lv [(0, .ref zm), (1, .int w), (2, .int (nI t.toNatClampNeg)), (3, .int (x3_15 - r_23))] [1, 2, 3, 0] rfl ?_
            exact hJ_28 _ _ (by first | (simp only [← e_r_23, ← e_mm_25, if_neg c_18, if_pos c_22]; done) | (subst e_r_23 e_mm_25; simp only [if_neg c_18, if_pos c_22]; done) | (subst e_r_23 e_mm_25; rfl) | (subst e_r_23 e_mm_25; simp [if_neg c_18, if_pos c_22]; done)) (by first | (simp only [← e_r_23, ← e_mm_25, if_neg c_18, if_pos c_22]; done) | (subst e_r_23 e_mm_25; simp only [if_neg c_18, if_pos c_22]; done) | (subst e_r_23 e_mm_25; rfl) | (subst e_r_23 e_mm_25; simp [if_neg c_18, if_pos c_22]; done))
      refine r_icmpeq (pc := 45) 53 C dX9_rate_45 (by decide) (fun c_9 => ?_) (fun c_9 => ?_)
      · refine r_iload_n (pc := 53) C dX9_rate_53 0 rfl ?_
        refine r_aload_n (pc := 54) C dX9_rate_54 1 rfl ?_
        refine r_get (pc := 55) C fl_X9_16 dX9_rate_55 0 rfl rfl ?_
        refine r_iload_n (pc := 58) C dX9_rate_58 3 rfl ?_
        refine r_iald (pc := 59) t.toNatClampNeg C dX9_rate_59 1 rfl rfl (by omega) (by decide) ?_
        refine r_iadd (pc := 60) C dX9_rate_60 ?_
        refine u_int (fun y_10 e_y_10 => ?_)
        refine r_istore_n (pc := 61) [(3, .int y_10), (0, .ref zm), (1, .int w), (2, .int (nI t.toNatClampNeg))] C dX9_rate_61 (by decide) rfl ?_
        refine r_aload_n (pc := 62) C dX9_rate_62 1 rfl ?_
        refine r_dup (pc := 63) C dX9_rate_63 rfl ?_
        refine r_get (pc := 64) C fl_X9_194 dX9_rate_64 0 rfl rfl ?_
        refine r_ldc2 (pc := 67) C dX9_rate_67 kl_X9_182 ?_
        refine r_ladd (pc := 70) C dX9_rate_70 ?_
        refine u_lng (fun mm_11 e_mm_11 => ?_)
        refine r_put (pc := 71) (fl [wMod g zm za1 za2 za3 za4 za5 za6 za7 za8 za9 zaa mp mt ml md np nt nl nP nS nD so ac mk mn mx nx mq mv wr ts sn sF sB sS mm_11]) C fp_X9_194 dX9_rate_71 0 rfl (Nat.le_of_ble_eq_true rfl) rfl rfl rfl ?_
        refine u_lv [(0, .ref zm), (1, .int w), (2, .int (nI t.toNatClampNeg)), (3, .int y_10)] [1, 2, 3, 0] rfl ?_
        exact hJ_17 _ _ (by first | (simp only [← e_y_10, ← e_mm_11, if_pos c_9]; done) | (subst e_y_10 e_mm_11; simp only [if_pos c_9]; done) | (subst e_y_10 e_mm_11; rfl) | (subst e_y_10 e_mm_11; simp [if_pos c_9]; done)) (by first | (simp only [← e_y_10, ← e_mm_11, if_pos c_9]; done) | (subst e_y_10 e_mm_11; simp only [if_pos c_9]; done) | (subst e_y_10 e_mm_11; rfl) | (subst e_y_10 e_mm_11; simp [if_pos c_9]; done))
      · refine r_iload_n (pc := 48) C dX9_rate_48 2 rfl ?_
        refine r_iconst (pc := 49) 3 C dX9_rate_49 rfl ?_
        refine r_icmpne (pc := 50) 74 C dX9_rate_50 (by decide) (fun c_12 => ?_) (fun c_12 => ?_)
        · refine u_lv [(0, .ref zm), (1, .int w), (2, .int (nI t.toNatClampNeg)), (3, .int (so (6 + t.toNatClampNeg)))] [1, 2, 3, 0] rfl ?_
          exact hJ_17 _ _ (by first | (simp only [if_neg c_9, if_neg c_12]; done) | rfl | (simp [if_neg c_9, if_neg c_12]; done)) (by first | (simp only [if_neg c_9, if_neg c_12]; done) | rfl | (simp [if_neg c_9, if_neg c_12]; done))
        · refine r_iload_n (pc := 53) C dX9_rate_53 0 rfl ?_
          refine r_aload_n (pc := 54) C dX9_rate_54 1 rfl ?_
          refine r_get (pc := 55) C fl_X9_16 dX9_rate_55 0 rfl rfl ?_
          refine r_iload_n (pc := 58) C dX9_rate_58 3 rfl ?_
          refine r_iald (pc := 59) t.toNatClampNeg C dX9_rate_59 1 rfl rfl (by omega) (by decide) ?_
          refine r_iadd (pc := 60) C dX9_rate_60 ?_
          refine u_int (fun y_13 e_y_13 => ?_)
          refine r_istore_n (pc := 61) [(3, .int y_13), (0, .ref zm), (1, .int w), (2, .int (nI t.toNatClampNeg))] C dX9_rate_61 (by decide) rfl ?_
          refine r_aload_n (pc := 62) C dX9_rate_62 1 rfl ?_
          refine r_dup (pc := 63) C dX9_rate_63 rfl ?_
          refine r_get (pc := 64) C fl_X9_194 dX9_rate_64 0 rfl rfl ?_
          refine r_ldc2 (pc := 67) C dX9_rate_67 kl_X9_182 ?_
          refine r_ladd (pc := 70) C dX9_rate_70 ?_
          refine u_lng (fun mm_14 e_mm_14 => ?_)
          refine r_put (pc := 71) (fl [wMod g zm za1 za2 za3 za4 za5 za6 za7 za8 za9 zaa mp mt ml md np nt nl nP nS nD so ac mk mn mx nx mq mv wr ts sn sF sB sS mm_14]) C fp_X9_194 dX9_rate_71 0 rfl (Nat.le_of_ble_eq_true rfl) rfl rfl rfl ?_
          refine u_lv [(0, .ref zm), (1, .int w), (2, .int (nI t.toNatClampNeg)), (3, .int y_13)] [1, 2, 3, 0] rfl ?_
          exact hJ_17 _ _ (by first | (simp only [← e_y_13, ← e_mm_14, if_neg c_9, if_pos c_12]; done) | (subst e_y_13 e_mm_14; simp only [if_neg c_9, if_pos c_12]; done) | (subst e_y_13 e_mm_14; rfl) | (subst e_y_13 e_mm_14; simp [if_neg c_9, if_pos c_12]; done)) (by first | (simp only [← e_y_13, ← e_mm_14, if_neg c_9, if_pos c_12]; done) | (subst e_y_13 e_mm_14; simp only [if_neg c_9, if_pos c_12]; done) | (subst e_y_13 e_mm_14; rfl) | (subst e_y_13 e_mm_14; simp [if_neg c_9, if_pos c_12]; done))
    · refine r_ldc (pc := 20) C dX9_rate_20 kc_X9_193 ?_
      have hf : fX9_rate mt md so mm w t = ((-1000000), mm) := by first | (simp only [fX9_rate, ← e_r_1, ← e_r_4, if_neg c_3, if_pos c_6]; done) | (subst e_r_1 e_r_4; simp only [fX9_rate, if_neg c_3, if_pos c_6]; done) | (subst e_r_1 e_r_4; rfl) | (subst e_r_1 e_r_4; simp [fX9_rate, if_neg c_3, if_pos c_6]; done)
      rw [hf] at hR
      exact hR _ _ dX9_rate_22
theorem ctX9_rate (l : Launch) (g : Gl) (zm : Nat) (za1 : Nat) (za2 : Nat) (za3 : Nat) (za4 : Nat) (za5 : Nat) (za6 : Nat) (za7 : Nat) (za8 : Nat) (za9 : Nat) (zaa : Nat) (mp : Int32) (mt : Nat) (ml : Int32) (md : Nat → Int32) (np : Int32) (nt : Nat) (nl : Int32) (nP : Nat → Int32) (nS : Nat → Int32) (nD : Nat → Int32) (so : Nat → Int32) (ac : Nat) (mk : Nat → Int32) (mn : Nat) (mx : Nat → Int32) (nx : Nat) (mq : Nat) (mv : Int32) (wr : Int32) (ts : Int32) (sn : Nat) (sF : Nat → Int32) (sB : Nat → Int32) (sS : Nat → Int32) (mm : Int64) (w : Int32) (t : Int32) (q0 : mt ≤ 6) : CtI l g yX9_rate cX9_rate 4 (some .int) 2 [.ref zm, .int w, .int t] (fl [wMod g zm za1 za2 za3 za4 za5 za6 za7 za8 za9 zaa mp mt ml md np nt nl nP nS nD so ac mk mn mx nx mq mv wr ts sn sF sB sS mm]) ((fX9_rate mt md so mm w t).1) (fl [wMod g zm za1 za2 za3 za4 za5 za6 za7 za8 za9 zaa mp mt ml md np nt nl nP nS nD so ac mk mn mx nx mq mv wr ts sn sF sB sS ((fX9_rate mt md so mm w t).2)]) := mkI .int rfl rfl [(0, .ref zm), (1, .int w), (2, .int t)] (by decide) (Nat.le_of_ble_eq_true rfl) rfl (fun X C hR => bX9_rate C zm za1 za2 za3 za4 za5 za6 za7 za8 za9 zaa mp mt ml md np nt nl nP nS nD so ac mk mn mx nx mq mv wr ts sn sF sB sS mm w t q0 hR)

def fX9_count (mp : Int32) (mt : Nat) (ml : Int32) (mn : Nat) (sn : Nat) (w : Int32) : (Int32) := (if w = 0 then (mp) else (if w = 1 then ((nI mt)) else (if w = 2 then (ml) else (if w = 3 then ((nI sn)) else (if w = 4 then ((nI mn)) else ((-1)))))))
set_option maxHeartbeats 4000000 in
set_option maxRecDepth 100000 in
theorem bX9_count {l : Launch} {g : Gl} {X : Cx} (C : Ok l g X RX9 cX9_count 2 0) (zm : Nat) (za1 : Nat) (za2 : Nat) (za3 : Nat) (za4 : Nat) (za5 : Nat) (za6 : Nat) (za7 : Nat) (za8 : Nat) (za9 : Nat) (zaa : Nat) (mp : Int32) (mt : Nat) (ml : Int32) (md : Nat → Int32) (np : Int32) (nt : Nat) (nl : Int32) (nP : Nat → Int32) (nS : Nat → Int32) (nD : Nat → Int32) (so : Nat → Int32) (ac : Nat) (mk : Nat → Int32) (mn : Nat) (mx : Nat → Int32) (nx : Nat) (mq : Nat) (mv : Int32) (wr : Int32) (ts : Int32) (sn : Nat) (sF : Nat → Int32) (sB : Nat → Int32) (sS : Nat → Int32) (mm : Int64) (w : Int32) (hR : RetI g X cX9_count 2 0 0 (fX9_count mp mt ml mn sn w) (fl [wMod g zm za1 za2 za3 za4 za5 za6 za7 za8 za9 zaa mp mt ml md np nt nl nP nS nD so ac mk mn mx nx mq mv wr ts sn sF sB sS mm])) : Vw g X 2 0 0 (fl [wMod g zm za1 za2 za3 za4 za5 za6 za7 za8 za9 zaa mp mt ml md np nt nl nP nS nD so ac mk mn mx nx mq mv wr ts sn sF sB sS mm]) 0 [(0, .ref zm), (1, .int w)] [] := by
  refine r_iload_n (pc := 0) C dX9_count_0 1 rfl ?_
  refine r_ifne (pc := 1) 11 C dX9_count_1 (by decide) (fun c_1 => ?_) (fun c_1 => ?_)
  · refine r_iload_n (pc := 11) C dX9_count_11 1 rfl ?_
    refine r_iconst (pc := 12) 1 C dX9_count_12 rfl ?_
    refine r_icmpne (pc := 13) 23 C dX9_count_13 (by decide) (fun c_2 => ?_) (fun c_2 => ?_)
    · refine r_iload_n (pc := 23) C dX9_count_23 1 rfl ?_
      refine r_iconst (pc := 24) 2 C dX9_count_24 rfl ?_
      refine r_icmpne (pc := 25) 35 C dX9_count_25 (by decide) (fun c_3 => ?_) (fun c_3 => ?_)
      · refine r_iload_n (pc := 35) C dX9_count_35 1 rfl ?_
        refine r_iconst (pc := 36) 3 C dX9_count_36 rfl ?_
        refine r_icmpne (pc := 37) 47 C dX9_count_37 (by decide) (fun c_4 => ?_) (fun c_4 => ?_)
        · refine r_iload_n (pc := 47) C dX9_count_47 1 rfl ?_
          refine r_iconst (pc := 48) 4 C dX9_count_48 rfl ?_
          refine r_icmpne (pc := 49) 59 C dX9_count_49 (by decide) (fun c_5 => ?_) (fun c_5 => ?_)
          · refine r_iconst (pc := 59) (-1) C dX9_count_59 rfl ?_
            have hf : fX9_count mp mt ml mn sn w = (-1) := by first | (simp only [fX9_count, if_neg c_1, if_neg c_2, if_neg c_3, if_neg c_4, if_neg c_5]; done) | rfl | (simp [fX9_count, if_neg c_1, if_neg c_2, if_neg c_3, if_neg c_4, if_neg c_5]; done)
            rw [hf] at hR
            exact hR _ _ dX9_count_60
          · refine r_aload_n (pc := 52) C dX9_count_52 0 rfl ?_
            refine r_get (pc := 53) C fl_X9_54 dX9_count_53 0 rfl rfl ?_
            refine r_goto (pc := 56) 60 C dX9_count_56 (by decide) ?_
            have hf : fX9_count mp mt ml mn sn w = (nI mn) := by first | (simp only [fX9_count, if_neg c_1, if_neg c_2, if_neg c_3, if_neg c_4, if_pos c_5]; done) | rfl | (simp [fX9_count, if_neg c_1, if_neg c_2, if_neg c_3, if_neg c_4, if_pos c_5]; done)
            rw [hf] at hR
            exact hR _ _ dX9_count_60
        · refine r_aload_n (pc := 40) C dX9_count_40 0 rfl ?_
          refine r_get (pc := 41) C fl_X9_114 dX9_count_41 0 rfl rfl ?_
          refine r_goto (pc := 44) 60 C dX9_count_44 (by decide) ?_
          have hf : fX9_count mp mt ml mn sn w = (nI sn) := by first | (simp only [fX9_count, if_neg c_1, if_neg c_2, if_neg c_3, if_pos c_4]; done) | rfl | (simp [fX9_count, if_neg c_1, if_neg c_2, if_neg c_3, if_pos c_4]; done)
          rw [hf] at hR
          exact hR _ _ dX9_count_60
      · refine r_aload_n (pc := 28) C dX9_count_28 0 rfl ?_
        refine r_get (pc := 29) C fl_X9_13 dX9_count_29 0 rfl rfl ?_
        refine r_goto (pc := 32) 60 C dX9_count_32 (by decide) ?_
        have hf : fX9_count mp mt ml mn sn w = ml := by first | (simp only [fX9_count, if_neg c_1, if_neg c_2, if_pos c_3]; done) | rfl | (simp [fX9_count, if_neg c_1, if_neg c_2, if_pos c_3]; done)
        rw [hf] at hR
        exact hR _ _ dX9_count_60
    · refine r_aload_n (pc := 16) C dX9_count_16 0 rfl ?_
      refine r_get (pc := 17) C fl_X9_108 dX9_count_17 0 rfl rfl ?_
      refine r_goto (pc := 20) 60 C dX9_count_20 (by decide) ?_
      have hf : fX9_count mp mt ml mn sn w = (nI mt) := by first | (simp only [fX9_count, if_neg c_1, if_pos c_2]; done) | rfl | (simp [fX9_count, if_neg c_1, if_pos c_2]; done)
      rw [hf] at hR
      exact hR _ _ dX9_count_60
  · refine r_aload_n (pc := 4) C dX9_count_4 0 rfl ?_
    refine r_get (pc := 5) C fl_X9_7 dX9_count_5 0 rfl rfl ?_
    refine r_goto (pc := 8) 60 C dX9_count_8 (by decide) ?_
    have hf : fX9_count mp mt ml mn sn w = mp := by first | (simp only [fX9_count, if_pos c_1]; done) | rfl | (simp [fX9_count, if_pos c_1]; done)
    rw [hf] at hR
    exact hR _ _ dX9_count_60
theorem ctX9_count (l : Launch) (g : Gl) (zm : Nat) (za1 : Nat) (za2 : Nat) (za3 : Nat) (za4 : Nat) (za5 : Nat) (za6 : Nat) (za7 : Nat) (za8 : Nat) (za9 : Nat) (zaa : Nat) (mp : Int32) (mt : Nat) (ml : Int32) (md : Nat → Int32) (np : Int32) (nt : Nat) (nl : Int32) (nP : Nat → Int32) (nS : Nat → Int32) (nD : Nat → Int32) (so : Nat → Int32) (ac : Nat) (mk : Nat → Int32) (mn : Nat) (mx : Nat → Int32) (nx : Nat) (mq : Nat) (mv : Int32) (wr : Int32) (ts : Int32) (sn : Nat) (sF : Nat → Int32) (sB : Nat → Int32) (sS : Nat → Int32) (mm : Int64) (w : Int32) : CtI l g yX9_count cX9_count 2 (some .int) 0 [.ref zm, .int w] (fl [wMod g zm za1 za2 za3 za4 za5 za6 za7 za8 za9 zaa mp mt ml md np nt nl nP nS nD so ac mk mn mx nx mq mv wr ts sn sF sB sS mm]) (fX9_count mp mt ml mn sn w) (fl [wMod g zm za1 za2 za3 za4 za5 za6 za7 za8 za9 zaa mp mt ml md np nt nl nP nS nD so ac mk mn mx nx mq mv wr ts sn sF sB sS mm]) := mkI .int rfl rfl [(0, .ref zm), (1, .int w)] (by decide) (Nat.le_of_ble_eq_true rfl) rfl (fun X C hR => bX9_count C zm za1 za2 za3 za4 za5 za6 za7 za8 za9 zaa mp mt ml md np nt nl nP nS nD so ac mk mn mx nx mq mv wr ts sn sF sB sS mm w hR)

def fX9_trace (mm : Int64) : (Int64) := (mm)
set_option maxHeartbeats 4000000 in
set_option maxRecDepth 100000 in
theorem bX9_trace {l : Launch} {g : Gl} {X : Cx} (C : Ok l g X RX9 cX9_trace 1 0) (zm : Nat) (za1 : Nat) (za2 : Nat) (za3 : Nat) (za4 : Nat) (za5 : Nat) (za6 : Nat) (za7 : Nat) (za8 : Nat) (za9 : Nat) (zaa : Nat) (mp : Int32) (mt : Nat) (ml : Int32) (md : Nat → Int32) (np : Int32) (nt : Nat) (nl : Int32) (nP : Nat → Int32) (nS : Nat → Int32) (nD : Nat → Int32) (so : Nat → Int32) (ac : Nat) (mk : Nat → Int32) (mn : Nat) (mx : Nat → Int32) (nx : Nat) (mq : Nat) (mv : Int32) (wr : Int32) (ts : Int32) (sn : Nat) (sF : Nat → Int32) (sB : Nat → Int32) (sS : Nat → Int32) (mm : Int64) (hR : RetL g X cX9_trace 1 0 0 (fX9_trace mm) (fl [wMod g zm za1 za2 za3 za4 za5 za6 za7 za8 za9 zaa mp mt ml md np nt nl nP nS nD so ac mk mn mx nx mq mv wr ts sn sF sB sS mm])) : Vw g X 1 0 0 (fl [wMod g zm za1 za2 za3 za4 za5 za6 za7 za8 za9 zaa mp mt ml md np nt nl nP nS nD so ac mk mn mx nx mq mv wr ts sn sF sB sS mm]) 0 [(0, .ref zm)] [] := by
  refine r_aload_n (pc := 0) C dX9_trace_0 0 rfl ?_
  refine r_get (pc := 1) C fl_X9_194 dX9_trace_1 0 rfl rfl ?_
  have hf : fX9_trace mm = mm := by first | rfl | (simp only [fX9_trace]; done) | (simp [fX9_trace]; done)
  rw [hf] at hR
  exact hR _ _ dX9_trace_4
theorem ctX9_trace (l : Launch) (g : Gl) (zm : Nat) (za1 : Nat) (za2 : Nat) (za3 : Nat) (za4 : Nat) (za5 : Nat) (za6 : Nat) (za7 : Nat) (za8 : Nat) (za9 : Nat) (zaa : Nat) (mp : Int32) (mt : Nat) (ml : Int32) (md : Nat → Int32) (np : Int32) (nt : Nat) (nl : Int32) (nP : Nat → Int32) (nS : Nat → Int32) (nD : Nat → Int32) (so : Nat → Int32) (ac : Nat) (mk : Nat → Int32) (mn : Nat) (mx : Nat → Int32) (nx : Nat) (mq : Nat) (mv : Int32) (wr : Int32) (ts : Int32) (sn : Nat) (sF : Nat → Int32) (sB : Nat → Int32) (sS : Nat → Int32) (mm : Int64) : CtL l g yX9_trace cX9_trace 1 (some .long) 0 [.ref zm] (fl [wMod g zm za1 za2 za3 za4 za5 za6 za7 za8 za9 zaa mp mt ml md np nt nl nP nS nD so ac mk mn mx nx mq mv wr ts sn sF sB sS mm]) (fX9_trace mm) (fl [wMod g zm za1 za2 za3 za4 za5 za6 za7 za8 za9 zaa mp mt ml md np nt nl nP nS nD so ac mk mn mx nx mq mv wr ts sn sF sB sS mm]) := mkL [(0, .ref zm)] (by decide) (Nat.le_of_ble_eq_true rfl) rfl (fun X C hR => bX9_trace C zm za1 za2 za3 za4 za5 za6 za7 za8 za9 zaa mp mt ml md np nt nl nP nS nD so ac mk mn mx nx mq mv wr ts sn sF sB sS mm hR)
