theorem p3b {m : Nat} (h : m ≤ 5) : 3 ^ m ≤ 243 ∧ 1 ≤ 3 ^ m := ⟨Nat.le_trans (Nat.pow_le_pow_right (by decide) h) (by decide), Nat.pow_pos (by decide)⟩
theorem p3d {x M q : Nat} (h : x = 3 ^ (M - q)) (hq : q < M) : x / 3 = 3 ^ (M - (q + 1)) := by
  rw [h, show M - q = (M - (q + 1)) + 1 from by omega, Nat.pow_succ]
  exact Nat.mul_div_cancel _ (by decide)
theorem p3p {x M q : Nat} (h : x = 3 ^ (M - q)) (hq : q < M) : 0 < x / 3 := by
  rw [p3d h hq]
  exact Nat.pow_pos (by decide)
theorem i32_dec {q v : Int32} (c : ¬ q ≤ v) : (q + (-1)).toInt = q.toInt - 1 := by
  rw [Int32.le_iff_toInt_le] at c
  have h1 := v.le_toInt
  have h2 := q.toInt_lt
  rw [Int32.toInt_add, show (-1 : Int32).toInt = -1 from by decide]
  rw [Int.bmod_def]
  omega
theorem row_bk {q v : Int32} {n : Nat} (h : 1 ≤ n + 1 ∧ q.toInt < v.toInt + ((n + 1 : Nat) : Int)) (c : ¬ q ≤ v) : 1 ≤ n ∧ (q + (-1)).toInt < v.toInt + (n : Int) := by
  rw [i32_dec c]
  rw [Int32.le_iff_toInt_le] at c
  omega
theorem row_ent {M : Nat} {v : Int32} (hM : M ≤ 5) (h : ¬ fX9_in v.toInt64 (-1) 4 = 0) : 1 ≤ 7 ∧ (nI M - 1).toInt < v.toInt + ((7 : Nat) : Int) := by
  have h1 := (in_ne h).1
  rw [Int64.lt_iff_toInt_lt, Int32.toInt_toInt64, show (-1 : Int64).toInt = -1 from by decide] at h1
  rw [show (1 : Int32) = nI 1 from rfl, pk_sub_toInt (by omega) (by omega)]
  omega
def lX9_row_33  : Nat → (Nat) → (Nat) → (Nat)
  | 0, x3_8, x4_8 => (x3_8)
  | n + 1, x3_8, x4_8 => (lX9_row_33 n (x3_8 * 3) (x4_8 + 1))
def lX9_row_78 (x6_12 : Nat) (mp : Int32) (mt : Nat) (ml : Int32) (md : Nat → Int32) : Nat → (Nat) → (Nat) → (Nat → Int32) → (Nat → Int32)
  | 0, x7_17, x8_17, so0_17 => (so0_17)
  | n + 1, x7_17, x8_17, so0_17 => (let so_20 : Nat → Int32 := upd so0_17 209 (nI ((x6_12 / (x7_17 / 3)) % 3)); let so_21 : Nat → Int32 := fX9_beat mp mt ml md so_20 195; lX9_row_78 x6_12 mp mt ml md n (x7_17 / 3) (x8_17 + 1) so_21)
def lX9_row_58 (mp : Int32) (mt : Nat) (ml : Int32) (md : Nat → Int32) (m : Int32) (x3_11 : Nat) : Nat → (Nat) → (Int32) → (Nat) → (Nat → Int32) → (Nat) × (Int32) × (Nat → Int32)
  | 0, x4_12, x5_12, x6_12, so0_12 => ((x4_12, x5_12, so0_12))
  | n + 1, x4_12, x5_12, x6_12, so0_12 => (let so_15 : Nat → Int32 := fX9_copies so0_12 0 195; let so0_23 : Nat → Int32 := lX9_row_78 x6_12 mp mt ml md m.toNatClampNeg x3_11 0 so_15; let r_24 : Int32 := fX9_bits (so0_23 207); let w_27 : Nat := (if r_24 ≤ x5_12 then (x4_12) else (x6_12)); let r_29 : Int32 := fX9_larger x5_12 r_24; lX9_row_58 mp mt ml md m x3_11 n w_27 r_29 (x6_12 + 1) so0_23)
def lX9_row_167 (v : Int32) : Nat → (Nat) → (Int32) → (Nat)
  | 0, x4_34, x6_34 => (x4_34)
  | n + 1, x4_34, x6_34 => (if x6_34 ≤ v then (x4_34) else (if v < 0 then (x4_34) else (lX9_row_167 v n (x4_34 / 3) (x6_34 + (-1)))))
def fX9_row (mp : Int32) (mt : Nat) (ml : Int32) (md : Nat → Int32) (so : Nat → Int32) (m : Int32) (v : Int32) : (Int32) × (Nat → Int32) := (let r_1 : Int32 := fX9_in (((m : Int32)).toInt64) 0 5; if r_1 = 0 then (((-1), so)) else (let r_4 : Int32 := fX9_in (((v : Int32)).toInt64) (-1) 4; if r_4 = 0 then (((-1), so)) else (let x3_11 : Nat := lX9_row_33 m.toNatClampNeg 1 0; let o12 := lX9_row_58 mp mt ml md m x3_11 x3_11 0 (-1) 0 so; let x4_31 : Nat := o12.1; let x5_32 : Int32 := o12.2.1; let so0_33 : Nat → Int32 := o12.2.2; let x4_37 : Nat := lX9_row_167 v 7 x4_31 ((nI m.toNatClampNeg) - 1); if 0 ≤ v then (if v < (nI m.toNatClampNeg) then (((nI (x4_37 % 3)), so0_33)) else (((-9), so0_33))) else ((x5_32, so0_33)))))
set_option maxHeartbeats 4000000 in
set_option maxRecDepth 100000 in
theorem bX9_row {l : Launch} {g : Gl} {X : Cx} (C : Ok l g X RX9 cX9_row 9 4) (zm : Nat) (za1 : Nat) (za2 : Nat) (za3 : Nat) (za4 : Nat) (za5 : Nat) (za6 : Nat) (za7 : Nat) (za8 : Nat) (za9 : Nat) (zaa : Nat) (mp : Int32) (mt : Nat) (ml : Int32) (md : Nat → Int32) (np : Int32) (nt : Nat) (nl : Int32) (nP : Nat → Int32) (nS : Nat → Int32) (nD : Nat → Int32) (so : Nat → Int32) (ac : Nat) (mk : Nat → Int32) (mn : Nat) (mx : Nat → Int32) (nx : Nat) (mq : Nat) (mv : Int32) (wr : Int32) (ts : Int32) (sn : Nat) (sF : Nat → Int32) (sB : Nat → Int32) (sS : Nat → Int32) (mm : Int64) (m : Int32) (v : Int32) (q0 : mt ≤ 6) (q1 : ¬ mp = 0) (hR : RetI g X cX9_row 9 0 0 ((fX9_row mp mt ml md so m v).1) (fl [wMod g zm za1 za2 za3 za4 za5 za6 za7 za8 za9 zaa mp mt ml md np nt nl nP nS nD ((fX9_row mp mt ml md so m v).2) ac mk mn mx nx mq mv wr ts sn sF sB sS mm])) : Vw g X 9 0 0 (fl [wMod g zm za1 za2 za3 za4 za5 za6 za7 za8 za9 zaa mp mt ml md np nt nl nP nS nD so ac mk mn mx nx mq mv wr ts sn sF sB sS mm]) 0 [(0, .ref zm), (1, .int m), (2, .int v)] [] := by
  refine r_iload_n (pc := 0) C dX9_row_0 1 rfl ?_
  refine r_i2l (pc := 1) C dX9_row_1 ?_
  refine r_lconst (pc := 2) 0 C dX9_row_2 rfl ?_
  refine r_ldc2 (pc := 3) C dX9_row_3 kl_X9_153 ?_
  obtain ⟨r_1, e_r_1⟩ : ∃ z : Int32, z = fX9_in (((m : Int32)).toInt64) 0 5 := ⟨_, rfl⟩
  have K_2 := ctX9_in l g   (((m : Int32)).toInt64) 0 5 
  rw [← e_r_1] at K_2
  refine x_pI (pc := 6) C ms_X9_50 K_2 dX9_row_6 (by decide) [] rfl (by decide) rfl (Nat.le_of_ble_eq_true rfl) ⟨Nat.zero_le _, Nat.zero_le _⟩ ?_
  refine r_ifeq (pc := 9) 26 C dX9_row_9 (by decide) (fun c_3 => ?_) (fun c_3 => ?_)
  · refine r_iconst (pc := 26) (-1) C dX9_row_26 rfl ?_
    have hf : fX9_row mp mt ml md so m v = ((-1), so) := by first | (simp only [fX9_row, ← e_r_1, if_pos c_3]; done) | (subst e_r_1; simp only [fX9_row, if_pos c_3]; done) | (subst e_r_1; rfl) | (subst e_r_1; simp [fX9_row, if_pos c_3]; done)
    rw [hf] at hR
    exact hR _ _ dX9_row_27
  · refine r_iload_n (pc := 12) C dX9_row_12 2 rfl ?_
    refine r_i2l (pc := 13) C dX9_row_13 ?_
    refine r_ldc2 (pc := 14) C dX9_row_14 kl_X9_180 ?_
    refine r_ldc2 (pc := 17) C dX9_row_17 kl_X9_151 ?_
    obtain ⟨r_4, e_r_4⟩ : ∃ z : Int32, z = fX9_in (((v : Int32)).toInt64) (-1) 4 := ⟨_, rfl⟩
    have K_5 := ctX9_in l g   (((v : Int32)).toInt64) (-1) 4 
    rw [← e_r_4] at K_5
    refine x_pI (pc := 20) C ms_X9_50 K_5 dX9_row_20 (by decide) [] rfl (by decide) rfl (Nat.le_of_ble_eq_true rfl) ⟨Nat.zero_le _, Nat.zero_le _⟩ ?_
    refine r_ifne (pc := 23) 28 C dX9_row_23 (by decide) (fun c_6 => ?_) (fun c_6 => ?_)
    · obtain ⟨h_7, qh_7⟩ := natc (x := m) (B := 6) (by omega) (in_nat (b := 5) (by decide) (by rw [← e_r_1]; assumption))
      refine u_lvq [(0, .ref zm), (1, .int (nI m.toNatClampNeg)), (2, .int v)] (by rw [qh_7]) ?_
      refine r_iconst (pc := 28) 1 C dX9_row_28 rfl ?_
      refine r_istore_n (pc := 29) [(3, .int 1), (0, .ref zm), (1, .int (nI m.toNatClampNeg)), (2, .int v)] C dX9_row_29 (by decide) rfl ?_
      refine r_iconst (pc := 30) 0 C dX9_row_30 rfl ?_
      refine r_istore (pc := 31) [(4, .int 0), (3, .int 1), (0, .ref zm), (1, .int (nI m.toNatClampNeg)), (2, .int v)] C dX9_row_31 (by decide) rfl ?_
      have hX8 : ∀ (x3_11 : Nat) , (x3_11 = lX9_row_33 m.toNatClampNeg 1 0) → (x3_11 = 3 ^ m.toNatClampNeg) → Vw g X 9 0 0 (fl [wMod g zm za1 za2 za3 za4 za5 za6 za7 za8 za9 zaa mp mt ml md np nt nl nP nS nD so ac mk mn mx nx mq mv wr ts sn sF sB sS mm]) 49 [(0, .ref zm), (1, .int (nI m.toNatClampNeg)), (2, .int v), (3, .int (nI x3_11))] [] := by
        intro x3_11 e_x3_11 hp8_0
        have hcd : x3_11 ≤ 243 ∧ 1 ≤ x3_11 := by rw [hp8_0]; exact p3b (by omega)
        refine r_iconst (pc := 49) 0 C dX9_row_49 rfl ?_
        refine r_istore (pc := 50) [(4, .int 0), (0, .ref zm), (1, .int (nI m.toNatClampNeg)), (2, .int v), (3, .int (nI x3_11))] C dX9_row_50 (by decide) rfl ?_
        refine r_iconst (pc := 52) (-1) C dX9_row_52 rfl ?_
        refine r_istore (pc := 53) [(5, .int (-1)), (4, .int 0), (0, .ref zm), (1, .int (nI m.toNatClampNeg)), (2, .int v), (3, .int (nI x3_11))] C dX9_row_53 (by decide) rfl ?_
        refine r_iconst (pc := 55) 0 C dX9_row_55 rfl ?_
        refine r_istore (pc := 56) [(6, .int 0), (5, .int (-1)), (4, .int 0), (0, .ref zm), (1, .int (nI m.toNatClampNeg)), (2, .int v), (3, .int (nI x3_11))] C dX9_row_56 (by decide) rfl ?_
        have hX12 : ∀ (x4_31 : Nat) (x5_32 : Int32) (so0_33 : Nat → Int32) , (x4_31 = (lX9_row_58 mp mt ml md m x3_11 x3_11 0 (-1) 0 so).1) → (x5_32 = (lX9_row_58 mp mt ml md m x3_11 x3_11 0 (-1) 0 so).2.1) → (so0_33 = (lX9_row_58 mp mt ml md m x3_11 x3_11 0 (-1) 0 so).2.2) → (x4_31 ≤ 243) → Vw g X 9 0 0 (fl [wMod g zm za1 za2 za3 za4 za5 za6 za7 za8 za9 zaa mp mt ml md np nt nl nP nS nD so0_33 ac mk mn mx nx mq mv wr ts sn sF sB sS mm]) 162 [(1, .int (nI m.toNatClampNeg)), (2, .int v), (4, .int (nI x4_31)), (5, .int x5_32)] [] := by
          intro x4_31 x5_32 so0_33 e_x4_31 e_x5_32 e_so0_33 hp12_0
          refine r_iload_n (pc := 162) C dX9_row_162 0 rfl ?_
          refine r_iconst (pc := 163) 1 C dX9_row_163 rfl ?_
          refine r_isub (pc := 164) C dX9_row_164 ?_
          refine r_istore (pc := 165) [(6, .int ((nI m.toNatClampNeg) - 1)), (1, .int (nI m.toNatClampNeg)), (2, .int v), (4, .int (nI x4_31)), (5, .int x5_32)] C dX9_row_165 (by decide) rfl ?_
          have hX34 : ∀ (x4_37 : Nat) , (x4_37 = lX9_row_167 v 7 x4_31 ((nI m.toNatClampNeg) - 1)) → (x4_37 ≤ 243) → Vw g X 9 0 0 (fl [wMod g zm za1 za2 za3 za4 za5 za6 za7 za8 za9 zaa mp mt ml md np nt nl nP nS nD so0_33 ac mk mn mx nx mq mv wr ts sn sF sB sS mm]) 189 [(1, .int (nI m.toNatClampNeg)), (2, .int v), (4, .int (nI x4_37)), (5, .int x5_32)] [] := by
            intro x4_37 e_x4_37 hp34_0
            refine r_iload_n (pc := 189) C dX9_row_189 1 rfl ?_
            refine r_ifge (pc := 190) 198 C dX9_row_190 (by decide) (fun c_38 => ?_) (fun c_38 => ?_)
            · refine r_iload_n (pc := 198) C dX9_row_198 1 rfl ?_
              refine r_iload_n (pc := 199) C dX9_row_199 0 rfl ?_
              refine r_icmplt (pc := 200) 208 C dX9_row_200 (by decide) (fun c_39 => ?_) (fun c_39 => ?_)
              · refine r_iload (pc := 208) C dX9_row_208 2 rfl ?_
                refine r_iconst (pc := 210) 3 C dX9_row_210 rfl ?_
                refine r_iremN (pc := 211) x4_37 3 C dX9_row_211 rfl rfl (by omega) (by omega) (by omega) ?_
                have hf : fX9_row mp mt ml md so m v = ((nI (x4_37 % 3)), so0_33) := by first | (simp only [fX9_row, ← e_r_1, ← e_r_4, ← e_x3_11, ← e_x4_31, ← e_x5_32, ← e_so0_33, ← e_x4_37, if_neg c_3, if_neg c_6, if_pos c_38, if_pos c_39]; done) | (subst e_r_1 e_r_4 e_x3_11 e_x4_31 e_x5_32 e_so0_33 e_x4_37; simp only [fX9_row, if_neg c_3, if_neg c_6, if_pos c_38, if_pos c_39]; done) | (subst e_r_1 e_r_4 e_x3_11 e_x4_31 e_x5_32 e_so0_33 e_x4_37; rfl) | (subst e_r_1 e_r_4 e_x3_11 e_x4_31 e_x5_32 e_so0_33 e_x4_37; simp [fX9_row, if_neg c_3, if_neg c_6, if_pos c_38, if_pos c_39]; done)
                rw [hf] at hR
                exact hR _ _ dX9_row_212
              · refine r_bipush (pc := 203) (-9) C dX9_row_203 rfl ?_
                refine r_goto (pc := 205) 212 C dX9_row_205 (by decide) ?_
                have hf : fX9_row mp mt ml md so m v = ((-9), so0_33) := by first | (simp only [fX9_row, ← e_r_1, ← e_r_4, ← e_x3_11, ← e_x4_31, ← e_x5_32, ← e_so0_33, ← e_x4_37, if_neg c_3, if_neg c_6, if_pos c_38, if_neg c_39]; done) | (subst e_r_1 e_r_4 e_x3_11 e_x4_31 e_x5_32 e_so0_33 e_x4_37; simp only [fX9_row, if_neg c_3, if_neg c_6, if_pos c_38, if_neg c_39]; done) | (subst e_r_1 e_r_4 e_x3_11 e_x4_31 e_x5_32 e_so0_33 e_x4_37; rfl) | (subst e_r_1 e_r_4 e_x3_11 e_x4_31 e_x5_32 e_so0_33 e_x4_37; simp [fX9_row, if_neg c_3, if_neg c_6, if_pos c_38, if_neg c_39]; done)
                rw [hf] at hR
                exact hR _ _ dX9_row_212
            · refine r_iload (pc := 193) C dX9_row_193 3 rfl ?_
              refine r_goto (pc := 195) 212 C dX9_row_195 (by decide) ?_
              have hf : fX9_row mp mt ml md so m v = (x5_32, so0_33) := by first | (simp only [fX9_row, ← e_r_1, ← e_r_4, ← e_x3_11, ← e_x4_31, ← e_x5_32, ← e_so0_33, ← e_x4_37, if_neg c_3, if_neg c_6, if_neg c_38]; done) | (subst e_r_1 e_r_4 e_x3_11 e_x4_31 e_x5_32 e_so0_33 e_x4_37; simp only [fX9_row, if_neg c_3, if_neg c_6, if_neg c_38]; done) | (subst e_r_1 e_r_4 e_x3_11 e_x4_31 e_x5_32 e_so0_33 e_x4_37; rfl) | (subst e_r_1 e_r_4 e_x3_11 e_x4_31 e_x5_32 e_so0_33 e_x4_37; simp [fX9_row, if_neg c_3, if_neg c_6, if_neg c_38]; done)
              rw [hf] at hR
              exact hR _ _ dX9_row_212
          have hL34 : ∀ (n : Nat) (x4_34 : Nat) (x6_34 : Int32) , (1 ≤ n ∧ x6_34.toInt < v.toInt + n) → (x4_34 ≤ 243) → lX9_row_167 v n x4_34 x6_34 = lX9_row_167 v 7 x4_31 ((nI m.toNatClampNeg) - 1) → Vw g X 9 0 0 (fl [wMod g zm za1 za2 za3 za4 za5 za6 za7 za8 za9 zaa mp mt ml md np nt nl nP nS nD so0_33 ac mk mn mx nx mq mv wr ts sn sF sB sS mm]) 167 [(1, .int (nI m.toNatClampNeg)), (2, .int v), (4, .int (nI x4_34)), (5, .int x5_32), (6, .int x6_34)] [] := by
            intro n
            induction n with
            | zero =>
              intro x4_34 x6_34 hr34 hi34_0 hV34
              exact absurd hr34 (by omega)
            | succ n ih =>
              intro x4_34 x6_34 hr34 hi34_0 hV34
              refine r_iload (pc := 167) C dX9_row_167 4 rfl ?_
              refine r_iload_n (pc := 169) C dX9_row_169 1 rfl ?_
              refine r_icmple (pc := 170) 189 C dX9_row_170 (by decide) (fun c_35 => ?_) (fun c_35 => ?_)
              · refine u_lv [(1, .int (nI m.toNatClampNeg)), (2, .int v), (4, .int (nI x4_34)), (5, .int x5_32)] [0, 1, 2, 3] rfl ?_
                exact hX34 _ (by rw [← hV34]; first | (simp only [lX9_row_167, if_pos c_35]; done) | rfl | (simp [lX9_row_167, if_pos c_35]; done)) (by omega)
              · refine r_iload_n (pc := 173) C dX9_row_173 1 rfl ?_
                refine r_iflt (pc := 174) 189 C dX9_row_174 (by decide) (fun c_36 => ?_) (fun c_36 => ?_)
                · refine u_lv [(1, .int (nI m.toNatClampNeg)), (2, .int v), (4, .int (nI x4_34)), (5, .int x5_32)] [0, 1, 2, 3] rfl ?_
                  exact hX34 _ (by rw [← hV34]; first | (simp only [lX9_row_167, if_neg c_35, if_pos c_36]; done) | rfl | (simp [lX9_row_167, if_neg c_35, if_pos c_36]; done)) (by omega)
                · refine r_iload (pc := 177) C dX9_row_177 2 rfl ?_
                  refine r_iconst (pc := 179) 3 C dX9_row_179 rfl ?_
                  refine r_idivN (pc := 180) x4_34 3 C dX9_row_180 rfl rfl (by omega) (by omega) (by omega) ?_
                  refine r_istore (pc := 181) [(4, .int (nI (x4_34 / 3))), (1, .int (nI m.toNatClampNeg)), (2, .int v), (5, .int x5_32), (6, .int x6_34)] C dX9_row_181 (by decide) rfl ?_
                  refine r_iinc (pc := 183) (x6_34 + (-1)) [(6, .int (x6_34 + (-1))), (4, .int (nI (x4_34 / 3))), (1, .int (nI m.toNatClampNeg)), (2, .int v), (5, .int x5_32)] C dX9_row_183 4 rfl rfl (by decide) rfl ?_
                  refine r_goto (pc := 186) 167 C dX9_row_186 (by decide) ?_
                  refine u_lv [(1, .int (nI m.toNatClampNeg)), (2, .int v), (4, .int (nI (x4_34 / 3))), (5, .int x5_32), (6, .int (x6_34 + (-1)))] [2, 3, 1, 4, 0] rfl ?_
                  exact ih (x4_34 / 3) (x6_34 + (-1)) (row_bk hr34 c_35) (by omega) (by rw [← hV34]; first | (simp only [lX9_row_167, if_neg c_35, if_neg c_36]; done) | rfl | (simp [lX9_row_167, if_neg c_35, if_neg c_36]; done))
          refine u_lv [(1, .int (nI m.toNatClampNeg)), (2, .int v), (4, .int (nI x4_31)), (5, .int x5_32), (6, .int ((nI m.toNatClampNeg) - 1))] [1, 2, 3, 4, 0] rfl ?_
          exact hL34 7 x4_31 ((nI m.toNatClampNeg) - 1) (row_ent (by omega) (by rw [← e_r_4]; assumption)) (by omega) rfl
        have hL12 : ∀ (n : Nat) (x4_12 : Nat) (x5_12 : Int32) (x6_12 : Nat) (so0_12 : Nat → Int32) , (x6_12 + n = x3_11) → (x4_12 ≤ 243) → lX9_row_58 mp mt ml md m x3_11 n x4_12 x5_12 x6_12 so0_12 = lX9_row_58 mp mt ml md m x3_11 x3_11 0 (-1) 0 so → Vw g X 9 0 0 (fl [wMod g zm za1 za2 za3 za4 za5 za6 za7 za8 za9 zaa mp mt ml md np nt nl nP nS nD so0_12 ac mk mn mx nx mq mv wr ts sn sF sB sS mm]) 58 [(0, .ref zm), (1, .int (nI m.toNatClampNeg)), (2, .int v), (3, .int (nI x3_11)), (4, .int (nI x4_12)), (5, .int x5_12), (6, .int (nI x6_12))] [] := by
          intro n
          induction n with
          | zero =>
            intro x4_12 x5_12 x6_12 so0_12 hr12 hi12_0 hV12
            refine r_iload (pc := 58) C dX9_row_58 6 rfl ?_
            refine r_iload_n (pc := 60) C dX9_row_60 3 rfl ?_
            refine r_icmpgeN (pc := 61) x6_12 x3_11 162 C dX9_row_61 (by decide) rfl rfl (by omega) (by omega) (fun _ => ?_) (fun c_13 => absurd (by omega) c_13)
            refine u_lv [(1, .int (nI m.toNatClampNeg)), (2, .int v), (4, .int (nI x4_12)), (5, .int x5_12)] [1, 2, 4, 5] rfl ?_
            exact hX12 _ _ _ (by rw [← hV12]; first | rfl | (simp only [lX9_row_58]; done) | (simp [lX9_row_58]; done)) (by rw [← hV12]; first | rfl | (simp only [lX9_row_58]; done) | (simp [lX9_row_58]; done)) (by rw [← hV12]; first | rfl | (simp only [lX9_row_58]; done) | (simp [lX9_row_58]; done)) (by omega)
          | succ n ih =>
            intro x4_12 x5_12 x6_12 so0_12 hr12 hi12_0 hV12
            refine r_iload (pc := 58) C dX9_row_58 6 rfl ?_
            refine r_iload_n (pc := 60) C dX9_row_60 3 rfl ?_
            refine r_icmpgeN (pc := 61) x6_12 x3_11 162 C dX9_row_61 (by decide) rfl rfl (by omega) (by omega) (fun c_14 => absurd c_14 (by omega)) (fun _ => ?_)
            refine r_aload_n (pc := 64) C dX9_row_64 0 rfl ?_
            refine r_iconst (pc := 65) 0 C dX9_row_65 rfl ?_
            refine r_sipush (pc := 66) 195 C dX9_row_66 rfl ?_
            obtain ⟨so_15, e_so_15⟩ : ∃ z : Nat → Int32, z = fX9_copies so0_12 0 195 := ⟨_, rfl⟩
            have K_16 := ctX9_copies l g zm za1 za2 za3 za4 za5 za6 za7 za8 za9 zaa mp mt ml md np nt nl nP nS nD so0_12 ac mk mn mx nx mq mv wr ts sn sF sB sS mm 0 195 (by omega) (by omega)
            rw [← e_so_15] at K_16
            refine w_cV (pc := 69) [wMod g zm za1 za2 za3 za4 za5 za6 za7 za8 za9 zaa mp mt ml md np nt nl nP nS nD so_15 ac mk mn mx nx mq mv wr ts sn sF sB sS mm] C mv_X9_131 K_16 dX9_row_69 (by decide) [0] rfl (by decide) (by simp only [List.map_cons, List.map_nil, adMod]) rfl 0 rfl rfl (Nat.le_of_ble_eq_true rfl) ⟨Nat.zero_le _, Nat.zero_le _⟩ ?_
            refine r_iload_n (pc := 72) C dX9_row_72 3 rfl ?_
            refine r_istore (pc := 73) [(7, .int (nI x3_11)), (0, .ref zm), (1, .int (nI m.toNatClampNeg)), (2, .int v), (3, .int (nI x3_11)), (4, .int (nI x4_12)), (5, .int x5_12), (6, .int (nI x6_12))] C dX9_row_73 (by decide) rfl ?_
            refine r_iconst (pc := 75) 0 C dX9_row_75 rfl ?_
            refine r_istore (pc := 76) [(8, .int 0), (7, .int (nI x3_11)), (0, .ref zm), (1, .int (nI m.toNatClampNeg)), (2, .int v), (3, .int (nI x3_11)), (4, .int (nI x4_12)), (5, .int x5_12), (6, .int (nI x6_12))] C dX9_row_76 (by decide) rfl ?_
            have hX17 : ∀ (so0_23 : Nat → Int32) , (so0_23 = lX9_row_78 x6_12 mp mt ml md m.toNatClampNeg x3_11 0 so_15) → Vw g X 9 0 0 (fl [wMod g zm za1 za2 za3 za4 za5 za6 za7 za8 za9 zaa mp mt ml md np nt nl nP nS nD so0_23 ac mk mn mx nx mq mv wr ts sn sF sB sS mm]) 118 [(0, .ref zm), (1, .int (nI m.toNatClampNeg)), (2, .int v), (3, .int (nI x3_11)), (4, .int (nI x4_12)), (5, .int x5_12), (6, .int (nI x6_12))] [] := by
              intro so0_23 e_so0_23 
              refine r_aload_n (pc := 118) C dX9_row_118 0 rfl ?_
              refine r_get (pc := 119) C fl_X9_29 dX9_row_119 0 rfl rfl ?_
              refine r_sipush (pc := 122) 207 C dX9_row_122 rfl ?_
              refine r_iald (pc := 125) 207 C dX9_row_125 5 rfl rfl (by omega) (by decide) ?_
              obtain ⟨r_24, e_r_24⟩ : ∃ z : Int32, z = fX9_bits (so0_23 207) := ⟨_, rfl⟩
              have K_25 := ctX9_bits l g   (so0_23 207) 
              rw [← e_r_24] at K_25
              refine x_pI (pc := 126) C ms_X9_164 K_25 dX9_row_126 (by decide) [] rfl (by decide) rfl (Nat.le_of_ble_eq_true rfl) ⟨Nat.zero_le _, Nat.zero_le _⟩ ?_
              refine r_istore (pc := 129) [(8, .int r_24), (0, .ref zm), (1, .int (nI m.toNatClampNeg)), (2, .int v), (3, .int (nI x3_11)), (4, .int (nI x4_12)), (5, .int x5_12), (6, .int (nI x6_12))] C dX9_row_129 (by decide) rfl ?_
              refine r_iload (pc := 131) C dX9_row_131 0 rfl ?_
              refine r_iload (pc := 133) C dX9_row_133 6 rfl ?_
              have hJ_28 : ∀ (w_27 : Nat) , (w_27 = (if r_24 ≤ x5_12 then (x4_12) else (x6_12))) → Vw g X 9 0 0 (fl [wMod g zm za1 za2 za3 za4 za5 za6 za7 za8 za9 zaa mp mt ml md np nt nl nP nS nD so0_23 ac mk mn mx nx mq mv wr ts sn sF sB sS mm]) 145 [(0, .ref zm), (1, .int (nI m.toNatClampNeg)), (2, .int v), (3, .int (nI x3_11)), (5, .int x5_12), (6, .int (nI x6_12)), (8, .int r_24)] [.int (nI w_27)] := by
                intro w_27 e_w_27
                have m_w_27 : w_27 = x4_12 ∨ w_27 = x6_12 := by rw [e_w_27]; (repeat' split) <;> simp
                refine r_istore (pc := 145) [(4, .int (nI w_27)), (0, .ref zm), (1, .int (nI m.toNatClampNeg)), (2, .int v), (3, .int (nI x3_11)), (5, .int x5_12), (6, .int (nI x6_12)), (8, .int r_24)] C dX9_row_145 (by decide) rfl ?_
                refine r_iload (pc := 147) C dX9_row_147 5 rfl ?_
                refine r_iload (pc := 149) C dX9_row_149 7 rfl ?_
                obtain ⟨r_29, e_r_29⟩ : ∃ z : Int32, z = fX9_larger x5_12 r_24 := ⟨_, rfl⟩
                have K_30 := ctX9_larger l g   x5_12 r_24 
                rw [← e_r_29] at K_30
                refine x_pI (pc := 151) C ms_X9_145 K_30 dX9_row_151 (by decide) [] rfl (by decide) rfl (Nat.le_of_ble_eq_true rfl) ⟨Nat.zero_le _, Nat.zero_le _⟩ ?_
                refine r_istore (pc := 154) [(5, .int r_29), (4, .int (nI w_27)), (0, .ref zm), (1, .int (nI m.toNatClampNeg)), (2, .int v), (3, .int (nI x3_11)), (6, .int (nI x6_12)), (8, .int r_24)] C dX9_row_154 (by decide) rfl ?_
                refine r_iinc (pc := 156) (nI (x6_12 + 1)) [(6, .int (nI (x6_12 + 1))), (5, .int r_29), (4, .int (nI w_27)), (0, .ref zm), (1, .int (nI m.toNatClampNeg)), (2, .int v), (3, .int (nI x3_11)), (8, .int r_24)] C dX9_row_156 6 rfl (inc1 _) (by decide) rfl ?_
                refine r_goto (pc := 159) 58 C dX9_row_159 (by decide) ?_
                refine u_lv [(0, .ref zm), (1, .int (nI m.toNatClampNeg)), (2, .int v), (3, .int (nI x3_11)), (4, .int (nI w_27)), (5, .int r_29), (6, .int (nI (x6_12 + 1)))] [3, 4, 5, 6, 2, 1, 0] rfl ?_
                exact ih w_27 r_29 (x6_12 + 1) so0_23 (by omega) (by omega) (by rw [← hV12]; first | (simp only [lX9_row_58, ← e_so_15, ← e_so0_23, ← e_r_24, ← e_w_27, ← e_r_29]; done) | (subst e_so_15 e_so0_23 e_r_24 e_w_27 e_r_29; rfl) | (subst e_so_15 e_so0_23 e_r_24 e_w_27 e_r_29; simp only [lX9_row_58]; done))
              refine r_icmple (pc := 135) 143 C dX9_row_135 (by decide) (fun c_26 => ?_) (fun c_26 => ?_)
              · refine r_iload (pc := 143) C dX9_row_143 5 rfl ?_
                refine u_lv [(0, .ref zm), (1, .int (nI m.toNatClampNeg)), (2, .int v), (3, .int (nI x3_11)), (5, .int x5_12), (6, .int (nI x6_12)), (8, .int r_24)] [1, 2, 3, 4, 6, 7, 0] rfl ?_
                exact hJ_28 _ (by first | (simp only [if_pos c_26]; done) | rfl | (simp [if_pos c_26]; done))
              · refine r_iload (pc := 138) C dX9_row_138 7 rfl ?_
                refine r_goto (pc := 140) 145 C dX9_row_140 (by decide) ?_
                refine u_lv [(0, .ref zm), (1, .int (nI m.toNatClampNeg)), (2, .int v), (3, .int (nI x3_11)), (5, .int x5_12), (6, .int (nI x6_12)), (8, .int r_24)] [1, 2, 3, 4, 6, 7, 0] rfl ?_
                exact hJ_28 _ (by first | (simp only [if_neg c_26]; done) | rfl | (simp [if_neg c_26]; done))
            have hL17 : ∀ (n : Nat) (x7_17 : Nat) (x8_17 : Nat) (so0_17 : Nat → Int32) , (x8_17 + n = m.toNatClampNeg) → (x7_17 = 3 ^ (m.toNatClampNeg - x8_17)) → (x7_17 ≤ 243) → lX9_row_78 x6_12 mp mt ml md n x7_17 x8_17 so0_17 = lX9_row_78 x6_12 mp mt ml md m.toNatClampNeg x3_11 0 so_15 → Vw g X 9 0 0 (fl [wMod g zm za1 za2 za3 za4 za5 za6 za7 za8 za9 zaa mp mt ml md np nt nl nP nS nD so0_17 ac mk mn mx nx mq mv wr ts sn sF sB sS mm]) 78 [(0, .ref zm), (1, .int (nI m.toNatClampNeg)), (2, .int v), (3, .int (nI x3_11)), (4, .int (nI x4_12)), (5, .int x5_12), (6, .int (nI x6_12)), (7, .int (nI x7_17)), (8, .int (nI x8_17))] [] := by
              intro n
              induction n with
              | zero =>
                intro x7_17 x8_17 so0_17 hr17 hi17_0 hi17_1 hV17
                refine r_iload (pc := 78) C dX9_row_78 8 rfl ?_
                refine r_iload_n (pc := 80) C dX9_row_80 1 rfl ?_
                refine r_icmpgeN (pc := 81) x8_17 m.toNatClampNeg 118 C dX9_row_81 (by decide) rfl rfl (by omega) (by omega) (fun _ => ?_) (fun c_18 => absurd (by omega) c_18)
                refine u_lv [(0, .ref zm), (1, .int (nI m.toNatClampNeg)), (2, .int v), (3, .int (nI x3_11)), (4, .int (nI x4_12)), (5, .int x5_12), (6, .int (nI x6_12))] [0, 1, 2, 3, 4, 5, 6] rfl ?_
                exact hX17 _ (by rw [← hV17]; first | rfl | (simp only [lX9_row_78]; done) | (simp [lX9_row_78]; done))
              | succ n ih =>
                intro x7_17 x8_17 so0_17 hr17 hi17_0 hi17_1 hV17
                refine r_iload (pc := 78) C dX9_row_78 8 rfl ?_
                refine r_iload_n (pc := 80) C dX9_row_80 1 rfl ?_
                refine r_icmpgeN (pc := 81) x8_17 m.toNatClampNeg 118 C dX9_row_81 (by decide) rfl rfl (by omega) (by omega) (fun c_19 => absurd c_19 (by omega)) (fun _ => ?_)
                refine r_iload (pc := 84) C dX9_row_84 7 rfl ?_
                refine r_iconst (pc := 86) 3 C dX9_row_86 rfl ?_
                refine r_idivN (pc := 87) x7_17 3 C dX9_row_87 rfl rfl (by omega) (by omega) (by omega) ?_
                refine r_istore (pc := 88) [(7, .int (nI (x7_17 / 3))), (0, .ref zm), (1, .int (nI m.toNatClampNeg)), (2, .int v), (3, .int (nI x3_11)), (4, .int (nI x4_12)), (5, .int x5_12), (6, .int (nI x6_12)), (8, .int (nI x8_17))] C dX9_row_88 (by decide) rfl ?_
                refine r_aload_n (pc := 90) C dX9_row_90 1 rfl ?_
                refine r_get (pc := 91) C fl_X9_29 dX9_row_91 0 rfl rfl ?_
                refine r_sipush (pc := 94) 209 C dX9_row_94 rfl ?_
                refine r_iload (pc := 97) C dX9_row_97 7 rfl ?_
                refine r_iload (pc := 99) C dX9_row_99 0 rfl ?_
                refine r_idivN (pc := 101) x6_12 (x7_17 / 3) C dX9_row_101 rfl rfl (by omega) (p3p (by assumption) (by omega)) (by omega) ?_
                refine r_iconst (pc := 102) 3 C dX9_row_102 rfl ?_
                refine r_iremN (pc := 103) (x6_12 / (x7_17 / 3)) 3 C dX9_row_103 rfl rfl (Nat.lt_of_le_of_lt (Nat.div_le_self _ _) (by omega)) (by omega) (by omega) ?_
                obtain ⟨so_20, e_so_20⟩ : ∃ z : Nat → Int32, z = upd so0_17 209 (nI ((x6_12 / (x7_17 / 3)) % 3)) := ⟨_, rfl⟩
                refine r_iast (pc := 104) 209 (fl [wMod g zm za1 za2 za3 za4 za5 za6 za7 za8 za9 zaa mp mt ml md np nt nl nP nS nD so_20 ac mk mn mx nx mq mv wr ts sn sF sB sS mm]) C dX9_row_104 5 rfl rfl (by omega) (by decide) (by rw [← e_so_20]; rfl) ?_
                refine r_aload_n (pc := 105) C dX9_row_105 1 rfl ?_
                refine r_sipush (pc := 106) 195 C dX9_row_106 rfl ?_
                obtain ⟨so_21, e_so_21⟩ : ∃ z : Nat → Int32, z = fX9_beat mp mt ml md so_20 195 := ⟨_, rfl⟩
                have K_22 := ctX9_beat l g zm za1 za2 za3 za4 za5 za6 za7 za8 za9 zaa mp mt ml md np nt nl nP nS nD so_20 ac mk mn mx nx mq mv wr ts sn sF sB sS mm 195 (by omega) (by omega) (by assumption)
                rw [← e_so_21] at K_22
                refine w_cV (pc := 109) [wMod g zm za1 za2 za3 za4 za5 za6 za7 za8 za9 zaa mp mt ml md np nt nl nP nS nD so_21 ac mk mn mx nx mq mv wr ts sn sF sB sS mm] C mv_X9_134 K_22 dX9_row_109 (by decide) [0] rfl (by decide) (by simp only [List.map_cons, List.map_nil, adMod]) rfl 0 rfl rfl (Nat.le_of_ble_eq_true rfl) ⟨Nat.zero_le _, Nat.zero_le _⟩ ?_
                refine r_iinc (pc := 112) (nI (x8_17 + 1)) [(8, .int (nI (x8_17 + 1))), (7, .int (nI (x7_17 / 3))), (0, .ref zm), (1, .int (nI m.toNatClampNeg)), (2, .int v), (3, .int (nI x3_11)), (4, .int (nI x4_12)), (5, .int x5_12), (6, .int (nI x6_12))] C dX9_row_112 8 rfl (inc1 _) (by decide) rfl ?_
                refine r_goto (pc := 115) 78 C dX9_row_115 (by decide) ?_
                refine u_lv [(0, .ref zm), (1, .int (nI m.toNatClampNeg)), (2, .int v), (3, .int (nI x3_11)), (4, .int (nI x4_12)), (5, .int x5_12), (6, .int (nI x6_12)), (7, .int (nI (x7_17 / 3))), (8, .int (nI (x8_17 + 1)))] [2, 3, 4, 5, 6, 7, 8, 1, 0] rfl ?_
                exact ih (x7_17 / 3) (x8_17 + 1) so_21 (by omega) (p3d (by assumption) (by omega)) (by omega) (by rw [← hV17]; first | (simp only [lX9_row_78, ← e_so_20, ← e_so_21]; done) | (subst e_so_20 e_so_21; rfl) | (subst e_so_20 e_so_21; simp only [lX9_row_78]; done))
            refine u_lv [(0, .ref zm), (1, .int (nI m.toNatClampNeg)), (2, .int v), (3, .int (nI x3_11)), (4, .int (nI x4_12)), (5, .int x5_12), (6, .int (nI x6_12)), (7, .int (nI x3_11)), (8, .int 0)] [2, 3, 4, 5, 6, 7, 8, 1, 0] rfl ?_
            exact hL17 m.toNatClampNeg x3_11 0 so_15 (by omega) hp8_0 (by omega) rfl
        refine u_lv [(0, .ref zm), (1, .int (nI m.toNatClampNeg)), (2, .int v), (3, .int (nI x3_11)), (4, .int 0), (5, .int (-1)), (6, .int 0)] [3, 4, 5, 6, 2, 1, 0] rfl ?_
        exact hL12 x3_11 0 (-1) 0 so (by omega) (by omega) rfl
      have hL8 : ∀ (n : Nat) (x3_8 : Nat) (x4_8 : Nat) , (x4_8 + n = m.toNatClampNeg) → (x3_8 = 3 ^ x4_8) → lX9_row_33 n x3_8 x4_8 = lX9_row_33 m.toNatClampNeg 1 0 → Vw g X 9 0 0 (fl [wMod g zm za1 za2 za3 za4 za5 za6 za7 za8 za9 zaa mp mt ml md np nt nl nP nS nD so ac mk mn mx nx mq mv wr ts sn sF sB sS mm]) 33 [(0, .ref zm), (1, .int (nI m.toNatClampNeg)), (2, .int v), (3, .int (nI x3_8)), (4, .int (nI x4_8))] [] := by
        intro n
        induction n with
        | zero =>
          intro x3_8 x4_8 hr8 hi8_0 hV8
          refine r_iload (pc := 33) C dX9_row_33 4 rfl ?_
          refine r_iload_n (pc := 35) C dX9_row_35 1 rfl ?_
          refine r_icmpgeN (pc := 36) x4_8 m.toNatClampNeg 49 C dX9_row_36 (by decide) rfl rfl (by omega) (by omega) (fun _ => ?_) (fun c_9 => absurd (by omega) c_9)
          refine u_lv [(0, .ref zm), (1, .int (nI m.toNatClampNeg)), (2, .int v), (3, .int (nI x3_8))] [0, 1, 2, 3] rfl ?_
          exact hX8 _ (by rw [← hV8]; first | rfl | (simp only [lX9_row_33]; done) | (simp [lX9_row_33]; done)) (by rw [hi8_0, show x4_8 = m.toNatClampNeg from by omega])
        | succ n ih =>
          intro x3_8 x4_8 hr8 hi8_0 hV8
          refine r_iload (pc := 33) C dX9_row_33 4 rfl ?_
          refine r_iload_n (pc := 35) C dX9_row_35 1 rfl ?_
          refine r_icmpgeN (pc := 36) x4_8 m.toNatClampNeg 49 C dX9_row_36 (by decide) rfl rfl (by omega) (by omega) (fun c_10 => absurd c_10 (by omega)) (fun _ => ?_)
          refine r_iload_n (pc := 39) C dX9_row_39 3 rfl ?_
          refine r_iconst (pc := 40) 3 C dX9_row_40 rfl ?_
          refine r_imulN (pc := 41) x3_8 3 C dX9_row_41 rfl rfl ?_
          refine r_istore_n (pc := 42) [(3, .int (nI (x3_8 * 3))), (0, .ref zm), (1, .int (nI m.toNatClampNeg)), (2, .int v), (4, .int (nI x4_8))] C dX9_row_42 (by decide) rfl ?_
          refine r_iinc (pc := 43) (nI (x4_8 + 1)) [(4, .int (nI (x4_8 + 1))), (3, .int (nI (x3_8 * 3))), (0, .ref zm), (1, .int (nI m.toNatClampNeg)), (2, .int v)] C dX9_row_43 4 rfl (inc1 _) (by decide) rfl ?_
          refine r_goto (pc := 46) 33 C dX9_row_46 (by decide) ?_
          refine u_lv [(0, .ref zm), (1, .int (nI m.toNatClampNeg)), (2, .int v), (3, .int (nI (x3_8 * 3))), (4, .int (nI (x4_8 + 1)))] [2, 3, 4, 1, 0] rfl ?_
          exact ih (x3_8 * 3) (x4_8 + 1) (by omega) (by rw [hi8_0, Nat.pow_succ]) (by rw [← hV8]; first | rfl | (simp only [lX9_row_33]; done) | (simp [lX9_row_33]; done))
      refine u_lv [(0, .ref zm), (1, .int (nI m.toNatClampNeg)), (2, .int v), (3, .int 1), (4, .int 0)] [2, 3, 4, 1, 0] rfl ?_
      exact hL8 m.toNatClampNeg 1 0 (by omega) rfl rfl
    · refine r_iconst (pc := 26) (-1) C dX9_row_26 rfl ?_
      have hf : fX9_row mp mt ml md so m v = ((-1), so) := by first | (simp only [fX9_row, ← e_r_1, ← e_r_4, if_neg c_3, if_pos c_6]; done) | (subst e_r_1 e_r_4; simp only [fX9_row, if_neg c_3, if_pos c_6]; done) | (subst e_r_1 e_r_4; rfl) | (subst e_r_1 e_r_4; simp [fX9_row, if_neg c_3, if_pos c_6]; done)
      rw [hf] at hR
      exact hR _ _ dX9_row_27
theorem ctX9_row (l : Launch) (g : Gl) (zm : Nat) (za1 : Nat) (za2 : Nat) (za3 : Nat) (za4 : Nat) (za5 : Nat) (za6 : Nat) (za7 : Nat) (za8 : Nat) (za9 : Nat) (zaa : Nat) (mp : Int32) (mt : Nat) (ml : Int32) (md : Nat → Int32) (np : Int32) (nt : Nat) (nl : Int32) (nP : Nat → Int32) (nS : Nat → Int32) (nD : Nat → Int32) (so : Nat → Int32) (ac : Nat) (mk : Nat → Int32) (mn : Nat) (mx : Nat → Int32) (nx : Nat) (mq : Nat) (mv : Int32) (wr : Int32) (ts : Int32) (sn : Nat) (sF : Nat → Int32) (sB : Nat → Int32) (sS : Nat → Int32) (mm : Int64) (m : Int32) (v : Int32) (q0 : mt ≤ 6) (q1 : ¬ mp = 0) : CtI l g yX9_row cX9_row 9 (some .int) 4 [.ref zm, .int m, .int v] (fl [wMod g zm za1 za2 za3 za4 za5 za6 za7 za8 za9 zaa mp mt ml md np nt nl nP nS nD so ac mk mn mx nx mq mv wr ts sn sF sB sS mm]) ((fX9_row mp mt ml md so m v).1) (fl [wMod g zm za1 za2 za3 za4 za5 za6 za7 za8 za9 zaa mp mt ml md np nt nl nP nS nD ((fX9_row mp mt ml md so m v).2) ac mk mn mx nx mq mv wr ts sn sF sB sS mm]) := mkI .int rfl rfl [(0, .ref zm), (1, .int m), (2, .int v)] (by decide) (Nat.le_of_ble_eq_true rfl) rfl (fun X C hR => bX9_row C zm za1 za2 za3 za4 za5 za6 za7 za8 za9 zaa mp mt ml md np nt nl nP nS nD so ac mk mn mx nx mq mv wr ts sn sF sB sS mm m v q0 q1 hR)
