theorem od_mod {a b n : Nat} (h : b < n + 1) (c : ¬ b = 0) : a % b < n := Nat.lt_of_lt_of_le (Nat.mod_lt _ (by omega)) (by omega)
def lX9_odds_90 (x7_14 : Nat) (v : Int32) : Nat → (Int32) → (Nat) → (Nat → Int32) → (Int32) × (Nat → Int32)
  | 0, x8_20, x9_20, so0_20 => ((x8_20, so0_20))
  | n + 1, x8_20, x9_20, so0_20 => (let r_23 : Int32 := fX9_stands so0_20 (nI x9_20); if r_23 = 0 then (lX9_odds_90 x7_14 v n x8_20 (x9_20 + 1) so0_20) else (let r_26 : Int32 := fX9_has (nI x7_14) (nI x9_20); let w_29 : Int32 := (if r_26 = 0 then ((10 - v)) else (v)); let w_33 : Int32 := (if r_26 = 0 then (0) else (5)); let so_35 : Nat → Int32 := fX9_whipped so0_20 195 x9_20 w_33; lX9_odds_90 x7_14 v n (x8_20 * w_29) (x9_20 + 1) so_35))
def lX9_odds_54 (v : Int32) (mt : Nat) (mp : Int32) (ml : Int32) (md : Nat → Int32) (m : Int32) (t : Int32) : Nat → (Int32) → (Int32) → (Nat) → (Nat → Int32) → (Int32) × (Int32) × (Nat → Int32)
  | 0, x5_14, x6_14, x7_14, so0_14 => ((x5_14, x6_14, so0_14))
  | n + 1, x5_14, x6_14, x7_14, so0_14 => (if ((nI x7_14) &&& ((so0_14 12) ^^^ (-1))) = 0 then (let so_18 : Nat → Int32 := fX9_copies so0_14 0 195; let o20 := lX9_odds_90 x7_14 v mt 1 0 so_18; let x8_37 : Int32 := o20.1; let so0_38 : Nat → Int32 := o20.2; let r_39 : Int32 := (fX9_standBehind mp mt ml md so0_38 m.toNatClampNeg).1; let so_40 : Nat → Int32 := (fX9_standBehind mp mt ml md so0_38 m.toNatClampNeg).2; let r_42 : Int32 := fX9_has r_39 t; if r_42 = 0 then (lX9_odds_54 v mt mp ml md m t n (x5_14 + 0) (x6_14 + x8_37) (x7_14 + 1) so_40) else (lX9_odds_54 v mt mp ml md m t n (x5_14 + x8_37) (x6_14 + x8_37) (x7_14 + 1) so_40)) else (lX9_odds_54 v mt mp ml md m t n x5_14 x6_14 (x7_14 + 1) so0_14))
def lX9_odds_205  : Nat → (Nat) → (Nat) → (Nat)
  | 0, x7_50, x8_50 => (x7_50)
  | n + 1, x7_50, x8_50 => (if x8_50 = 0 then (x7_50) else (lX9_odds_205 n x8_50 (x7_50 % x8_50)))
def fX9_odds (mp : Int32) (mt : Nat) (ml : Int32) (md : Nat → Int32) (so : Nat → Int32) (t : Int32) (v : Int32) (m : Int32) (w : Int32) : (Int32) × (Nat → Int32) := (let r_1 : Int32 := fX9_isTop mt t; if r_1 = 0 then (((-1), so)) else (let r_4 : Int32 := fX9_in (((v : Int32)).toInt64) 0 10; if r_4 = 0 then (((-1), so)) else (let r_7 : Int32 := fX9_in (((m : Int32)).toInt64) 0 60; if r_7 = 0 then (((-1), so)) else (let r_10 : Int32 := fX9_in (((w : Int32)).toInt64) 0 1; if r_10 = 0 then (((-1), so)) else (let o14 := lX9_odds_54 v mt mp ml md m t 64 0 0 0 so; let x5_45 : Int32 := o14.1; let x6_46 : Int32 := o14.2.1; let so0_47 : Nat → Int32 := o14.2.2; let x7_52 : Nat := lX9_odds_205 (x6_46.toNatClampNeg + 1) x5_45.toNatClampNeg x6_46.toNatClampNeg; if w = 0 then (((nI (x5_45.toNatClampNeg / x7_52)), so0_47)) else (((nI (x6_46.toNatClampNeg / x7_52)), so0_47)))))))
set_option maxHeartbeats 4000000 in
set_option maxRecDepth 100000 in
theorem bX9_odds {l : Launch} {g : Gl} {X : Cx} (C : Ok l g X RX9 cX9_odds 10 5) (zm : Nat) (za1 : Nat) (za2 : Nat) (za3 : Nat) (za4 : Nat) (za5 : Nat) (za6 : Nat) (za7 : Nat) (za8 : Nat) (za9 : Nat) (zaa : Nat) (mp : Int32) (mt : Nat) (ml : Int32) (md : Nat → Int32) (np : Int32) (nt : Nat) (nl : Int32) (nP : Nat → Int32) (nS : Nat → Int32) (nD : Nat → Int32) (so : Nat → Int32) (ac : Nat) (mk : Nat → Int32) (mn : Nat) (mx : Nat → Int32) (nx : Nat) (mq : Nat) (mv : Int32) (wr : Int32) (ts : Int32) (sn : Nat) (sF : Nat → Int32) (sB : Nat → Int32) (sS : Nat → Int32) (mm : Int64) (t : Int32) (v : Int32) (m : Int32) (w : Int32) (q0 : mt ≤ 6) (q1 : ¬ mp = 0) (q2 : ¬ fX9_isTop mt t = 0 → ¬ fX9_in v.toInt64 0 10 = 0 → ¬ fX9_in m.toInt64 0 60 = 0 → (∃ j, j < 1000001 ∧ (lX9_odds_54 v mt mp ml md m t 64 0 0 0 so).1 = nI j) ∧ (∃ j, j < 1000001 ∧ (lX9_odds_54 v mt mp ml md m t 64 0 0 0 so).2.1 = nI j) ∧ ¬ ((lX9_odds_54 v mt mp ml md m t 64 0 0 0 so).2.1).toNatClampNeg = 0) (hR : RetI g X cX9_odds 10 0 0 ((fX9_odds mp mt ml md so t v m w).1) (fl [wMod g zm za1 za2 za3 za4 za5 za6 za7 za8 za9 zaa mp mt ml md np nt nl nP nS nD ((fX9_odds mp mt ml md so t v m w).2) ac mk mn mx nx mq mv wr ts sn sF sB sS mm])) : Vw g X 10 0 0 (fl [wMod g zm za1 za2 za3 za4 za5 za6 za7 za8 za9 zaa mp mt ml md np nt nl nP nS nD so ac mk mn mx nx mq mv wr ts sn sF sB sS mm]) 0 [(0, .ref zm), (1, .int t), (2, .int v), (3, .int m), (4, .int w)] [] := by
  refine r_aload_n (pc := 0) C dX9_odds_0 0 rfl ?_
  refine r_iload_n (pc := 1) C dX9_odds_1 1 rfl ?_
  obtain ⟨r_1, e_r_1⟩ : ∃ z : Int32, z = fX9_isTop mt t := ⟨_, rfl⟩
  have K_2 := ctX9_isTop l g zm za1 za2 za3 za4 za5 za6 za7 za8 za9 zaa mp mt ml md np nt nl nP nS nD so ac mk mn mx nx mq mv wr ts sn sF sB sS mm t 
  rw [← e_r_1] at K_2
  refine w_pI (pc := 2) C mv_X9_148 K_2 dX9_odds_2 (by decide) [0] rfl (by decide) 0 rfl rfl (Nat.le_of_ble_eq_true rfl) ⟨Nat.zero_le _, Nat.zero_le _⟩ ?_
  refine r_ifeq (pc := 5) 43 C dX9_odds_5 (by decide) (fun c_3 => ?_) (fun c_3 => ?_)
  · refine r_iconst (pc := 43) (-1) C dX9_odds_43 rfl ?_
    have hf : fX9_odds mp mt ml md so t v m w = ((-1), so) := by first | (simp only [fX9_odds, ← e_r_1, if_pos c_3]; done) | (subst e_r_1; simp only [fX9_odds, if_pos c_3]; done) | (subst e_r_1; rfl) | (subst e_r_1; simp [fX9_odds, if_pos c_3]; done)
    rw [hf] at hR
    exact hR _ _ dX9_odds_44
  · refine r_iload_n (pc := 8) C dX9_odds_8 2 rfl ?_
    refine r_i2l (pc := 9) C dX9_odds_9 ?_
    refine r_lconst (pc := 10) 0 C dX9_odds_10 rfl ?_
    refine r_ldc2 (pc := 11) C dX9_odds_11 kl_X9_182 ?_
    obtain ⟨r_4, e_r_4⟩ : ∃ z : Int32, z = fX9_in (((v : Int32)).toInt64) 0 10 := ⟨_, rfl⟩
    have K_5 := ctX9_in l g   (((v : Int32)).toInt64) 0 10 
    rw [← e_r_4] at K_5
    refine x_pI (pc := 14) C ms_X9_50 K_5 dX9_odds_14 (by decide) [] rfl (by decide) rfl (Nat.le_of_ble_eq_true rfl) ⟨Nat.zero_le _, Nat.zero_le _⟩ ?_
    refine r_ifeq (pc := 17) 43 C dX9_odds_17 (by decide) (fun c_6 => ?_) (fun c_6 => ?_)
    · refine r_iconst (pc := 43) (-1) C dX9_odds_43 rfl ?_
      have hf : fX9_odds mp mt ml md so t v m w = ((-1), so) := by first | (simp only [fX9_odds, ← e_r_1, ← e_r_4, if_neg c_3, if_pos c_6]; done) | (subst e_r_1 e_r_4; simp only [fX9_odds, if_neg c_3, if_pos c_6]; done) | (subst e_r_1 e_r_4; rfl) | (subst e_r_1 e_r_4; simp [fX9_odds, if_neg c_3, if_pos c_6]; done)
      rw [hf] at hR
      exact hR _ _ dX9_odds_44
    · refine r_iload_n (pc := 20) C dX9_odds_20 3 rfl ?_
      refine r_i2l (pc := 21) C dX9_odds_21 ?_
      refine r_lconst (pc := 22) 0 C dX9_odds_22 rfl ?_
      refine r_ldc2 (pc := 23) C dX9_odds_23 kl_X9_175 ?_
      obtain ⟨r_7, e_r_7⟩ : ∃ z : Int32, z = fX9_in (((m : Int32)).toInt64) 0 60 := ⟨_, rfl⟩
      have K_8 := ctX9_in l g   (((m : Int32)).toInt64) 0 60 
      rw [← e_r_7] at K_8
      refine x_pI (pc := 26) C ms_X9_50 K_8 dX9_odds_26 (by decide) [] rfl (by decide) rfl (Nat.le_of_ble_eq_true rfl) ⟨Nat.zero_le _, Nat.zero_le _⟩ ?_
      refine r_ifeq (pc := 29) 43 C dX9_odds_29 (by decide) (fun c_9 => ?_) (fun c_9 => ?_)
      · refine r_iconst (pc := 43) (-1) C dX9_odds_43 rfl ?_
        have hf : fX9_odds mp mt ml md so t v m w = ((-1), so) := by first | (simp only [fX9_odds, ← e_r_1, ← e_r_4, ← e_r_7, if_neg c_3, if_neg c_6, if_pos c_9]; done) | (subst e_r_1 e_r_4 e_r_7; simp only [fX9_odds, if_neg c_3, if_neg c_6, if_pos c_9]; done) | (subst e_r_1 e_r_4 e_r_7; rfl) | (subst e_r_1 e_r_4 e_r_7; simp [fX9_odds, if_neg c_3, if_neg c_6, if_pos c_9]; done)
        rw [hf] at hR
        exact hR _ _ dX9_odds_44
      · refine r_iload (pc := 32) C dX9_odds_32 4 rfl ?_
        refine r_i2l (pc := 34) C dX9_odds_34 ?_
        refine r_lconst (pc := 35) 0 C dX9_odds_35 rfl ?_
        refine r_lconst (pc := 36) 1 C dX9_odds_36 rfl ?_
        obtain ⟨r_10, e_r_10⟩ : ∃ z : Int32, z = fX9_in (((w : Int32)).toInt64) 0 1 := ⟨_, rfl⟩
        have K_11 := ctX9_in l g   (((w : Int32)).toInt64) 0 1 
        rw [← e_r_10] at K_11
        refine x_pI (pc := 37) C ms_X9_50 K_11 dX9_odds_37 (by decide) [] rfl (by decide) rfl (Nat.le_of_ble_eq_true rfl) ⟨Nat.zero_le _, Nat.zero_le _⟩ ?_
        refine r_ifne (pc := 40) 45 C dX9_odds_40 (by decide) (fun c_12 => ?_) (fun c_12 => ?_)
        · obtain ⟨h_13, qh_13⟩ := natc (x := m) (B := 61) (by omega) (in_nat (b := 60) (by decide) (by rw [← e_r_7]; assumption))
          refine u_lvq [(0, .ref zm), (1, .int t), (2, .int v), (3, .int (nI m.toNatClampNeg)), (4, .int w)] (by rw [qh_13]) ?_
          refine r_iconst (pc := 45) 0 C dX9_odds_45 rfl ?_
          refine r_istore (pc := 46) [(5, .int 0), (0, .ref zm), (1, .int t), (2, .int v), (3, .int (nI m.toNatClampNeg)), (4, .int w)] C dX9_odds_46 (by decide) rfl ?_
          refine r_iconst (pc := 48) 0 C dX9_odds_48 rfl ?_
          refine r_istore (pc := 49) [(6, .int 0), (5, .int 0), (0, .ref zm), (1, .int t), (2, .int v), (3, .int (nI m.toNatClampNeg)), (4, .int w)] C dX9_odds_49 (by decide) rfl ?_
          refine r_iconst (pc := 51) 0 C dX9_odds_51 rfl ?_
          refine r_istore (pc := 52) [(7, .int 0), (6, .int 0), (5, .int 0), (0, .ref zm), (1, .int t), (2, .int v), (3, .int (nI m.toNatClampNeg)), (4, .int w)] C dX9_odds_52 (by decide) rfl ?_
          have hX14 : ∀ (x5_45 : Int32) (x6_46 : Int32) (so0_47 : Nat → Int32) , (x5_45 = (lX9_odds_54 v mt mp ml md m t 64 0 0 0 so).1) → (x6_46 = (lX9_odds_54 v mt mp ml md m t 64 0 0 0 so).2.1) → (so0_47 = (lX9_odds_54 v mt mp ml md m t 64 0 0 0 so).2.2) → Vw g X 10 0 0 (fl [wMod g zm za1 za2 za3 za4 za5 za6 za7 za8 za9 zaa mp mt ml md np nt nl nP nS nD so0_47 ac mk mn mx nx mq mv wr ts sn sF sB sS mm]) 197 [(4, .int w), (5, .int x5_45), (6, .int x6_46)] [] := by
            intro x5_45 x6_46 so0_47 e_x5_45 e_x6_46 e_so0_47 
            have hpos : ¬ x6_46.toNatClampNeg = 0 := by rw [e_x6_46]; exact (q2 (by rw [← e_r_1]; assumption) (by rw [← e_r_4]; assumption) (by rw [← e_r_7]; assumption)).2.2
            obtain ⟨h_48, qh_48⟩ := natc (x := x5_45) (B := 1000001) (by omega) (by rw [e_x5_45]; exact (q2 (by rw [← e_r_1]; assumption) (by rw [← e_r_4]; assumption) (by rw [← e_r_7]; assumption)).1)
            refine u_lvq [(4, .int w), (5, .int (nI x5_45.toNatClampNeg)), (6, .int x6_46)] (by rw [qh_48]) ?_
            obtain ⟨h_49, qh_49⟩ := natc (x := x6_46) (B := 1000001) (by omega) (by rw [e_x6_46]; exact (q2 (by rw [← e_r_1]; assumption) (by rw [← e_r_4]; assumption) (by rw [← e_r_7]; assumption)).2.1)
            refine u_lvq [(4, .int w), (5, .int (nI x5_45.toNatClampNeg)), (6, .int (nI x6_46.toNatClampNeg))] (by rw [qh_49]) ?_
            refine r_iload (pc := 197) C dX9_odds_197 1 rfl ?_
            refine r_istore (pc := 199) [(7, .int (nI x5_45.toNatClampNeg)), (4, .int w), (5, .int (nI x5_45.toNatClampNeg)), (6, .int (nI x6_46.toNatClampNeg))] C dX9_odds_199 (by decide) rfl ?_
            refine r_iload (pc := 201) C dX9_odds_201 3 rfl ?_
            refine r_istore (pc := 203) [(8, .int (nI x6_46.toNatClampNeg)), (7, .int (nI x5_45.toNatClampNeg)), (4, .int w), (5, .int (nI x5_45.toNatClampNeg)), (6, .int (nI x6_46.toNatClampNeg))] C dX9_odds_203 (by decide) rfl ?_
            have hX50 : ∀ (x7_52 : Nat) , (x7_52 = lX9_odds_205 (x6_46.toNatClampNeg + 1) x5_45.toNatClampNeg x6_46.toNatClampNeg) → (0 < x7_52) → (x7_52 < 1000001) → Vw g X 10 0 0 (fl [wMod g zm za1 za2 za3 za4 za5 za6 za7 za8 za9 zaa mp mt ml md np nt nl nP nS nD so0_47 ac mk mn mx nx mq mv wr ts sn sF sB sS mm]) 228 [(4, .int w), (5, .int (nI x5_45.toNatClampNeg)), (6, .int (nI x6_46.toNatClampNeg)), (7, .int (nI x7_52))] [] := by
              intro x7_52 e_x7_52 hp50_0 hp50_1
              refine r_iload (pc := 228) C dX9_odds_228 0 rfl ?_
              refine r_ifne (pc := 230) 241 C dX9_odds_230 (by decide) (fun c_53 => ?_) (fun c_53 => ?_)
              · refine r_iload (pc := 241) C dX9_odds_241 2 rfl ?_
                refine r_iload (pc := 243) C dX9_odds_243 3 rfl ?_
                refine r_idivN (pc := 245) x6_46.toNatClampNeg x7_52 C dX9_odds_245 rfl rfl (by omega) (by omega) (by omega) ?_
                have hf : fX9_odds mp mt ml md so t v m w = ((nI (x6_46.toNatClampNeg / x7_52)), so0_47) := by first | (simp only [fX9_odds, ← e_r_1, ← e_r_4, ← e_r_7, ← e_r_10, ← e_x5_45, ← e_x6_46, ← e_so0_47, ← e_x7_52, if_neg c_3, if_neg c_6, if_neg c_9, if_neg c_12, if_neg c_53]; done) | (subst e_r_1 e_r_4 e_r_7 e_r_10 e_x5_45 e_x6_46 e_so0_47 e_x7_52; simp only [fX9_odds, if_neg c_3, if_neg c_6, if_neg c_9, if_neg c_12, if_neg c_53]; done) | (subst e_r_1 e_r_4 e_r_7 e_r_10 e_x5_45 e_x6_46 e_so0_47 e_x7_52; rfl) | (subst e_r_1 e_r_4 e_r_7 e_r_10 e_x5_45 e_x6_46 e_so0_47 e_x7_52; simp [fX9_odds, if_neg c_3, if_neg c_6, if_neg c_9, if_neg c_12, if_neg c_53]; done)
                rw [hf] at hR
                exact hR _ _ dX9_odds_246
              · refine r_iload (pc := 233) C dX9_odds_233 1 rfl ?_
                refine r_iload (pc := 235) C dX9_odds_235 3 rfl ?_
                refine r_idivN (pc := 237) x5_45.toNatClampNeg x7_52 C dX9_odds_237 rfl rfl (by omega) (by omega) (by omega) ?_
                refine r_goto (pc := 238) 246 C dX9_odds_238 (by decide) ?_
                have hf : fX9_odds mp mt ml md so t v m w = ((nI (x5_45.toNatClampNeg / x7_52)), so0_47) := by first | (simp only [fX9_odds, ← e_r_1, ← e_r_4, ← e_r_7, ← e_r_10, ← e_x5_45, ← e_x6_46, ← e_so0_47, ← e_x7_52, if_neg c_3, if_neg c_6, if_neg c_9, if_neg c_12, if_pos c_53]; done) | (subst e_r_1 e_r_4 e_r_7 e_r_10 e_x5_45 e_x6_46 e_so0_47 e_x7_52; simp only [fX9_odds, if_neg c_3, if_neg c_6, if_neg c_9, if_neg c_12, if_pos c_53]; done) | (subst e_r_1 e_r_4 e_r_7 e_r_10 e_x5_45 e_x6_46 e_so0_47 e_x7_52; rfl) | (subst e_r_1 e_r_4 e_r_7 e_r_10 e_x5_45 e_x6_46 e_so0_47 e_x7_52; simp [fX9_odds, if_neg c_3, if_neg c_6, if_neg c_9, if_neg c_12, if_pos c_53]; done)
                rw [hf] at hR
                exact hR _ _ dX9_odds_246
            have hL50 : ∀ (n : Nat) (x7_50 : Nat) (x8_50 : Nat) , (x8_50 < n) → (0 < x7_50 ∨ 0 < x8_50) → (x7_50 < 1000001) → (x8_50 < 1000001) → lX9_odds_205 n x7_50 x8_50 = lX9_odds_205 (x6_46.toNatClampNeg + 1) x5_45.toNatClampNeg x6_46.toNatClampNeg → Vw g X 10 0 0 (fl [wMod g zm za1 za2 za3 za4 za5 za6 za7 za8 za9 zaa mp mt ml md np nt nl nP nS nD so0_47 ac mk mn mx nx mq mv wr ts sn sF sB sS mm]) 205 [(4, .int w), (5, .int (nI x5_45.toNatClampNeg)), (6, .int (nI x6_46.toNatClampNeg)), (7, .int (nI x7_50)), (8, .int (nI x8_50))] [] := by
              intro n
              induction n with
              | zero =>
                intro x7_50 x8_50 hr50 hi50_0 hi50_1 hi50_2 hV50
                exact absurd hr50 (by omega)
              | succ n ih =>
                intro x7_50 x8_50 hr50 hi50_0 hi50_1 hi50_2 hV50
                refine r_iload (pc := 205) C dX9_odds_205 4 rfl ?_
                refine r_ifeqN (pc := 207) x8_50 228 C dX9_odds_207 (by decide) rfl (by omega) (fun c_51 => ?_) (fun c_51 => ?_)
                · refine u_lv [(4, .int w), (5, .int (nI x5_45.toNatClampNeg)), (6, .int (nI x6_46.toNatClampNeg)), (7, .int (nI x7_50))] [0, 1, 2, 3] rfl ?_
                  exact hX50 _ (by rw [← hV50]; first | (simp only [lX9_odds_205, if_pos c_51]; done) | rfl | (simp [lX9_odds_205, if_pos c_51]; done)) (by omega) (by omega)
                · refine r_iload (pc := 210) C dX9_odds_210 3 rfl ?_
                  refine r_iload (pc := 212) C dX9_odds_212 4 rfl ?_
                  refine r_iremN (pc := 214) x7_50 x8_50 C dX9_odds_214 rfl rfl (by omega) (by omega) (by omega) ?_
                  refine r_istore (pc := 215) [(9, .int (nI (x7_50 % x8_50))), (4, .int w), (5, .int (nI x5_45.toNatClampNeg)), (6, .int (nI x6_46.toNatClampNeg)), (7, .int (nI x7_50)), (8, .int (nI x8_50))] C dX9_odds_215 (by decide) rfl ?_
                  refine r_iload (pc := 217) C dX9_odds_217 5 rfl ?_
                  refine r_istore (pc := 219) [(7, .int (nI x8_50)), (9, .int (nI (x7_50 % x8_50))), (4, .int w), (5, .int (nI x5_45.toNatClampNeg)), (6, .int (nI x6_46.toNatClampNeg)), (8, .int (nI x8_50))] C dX9_odds_219 (by decide) rfl ?_
                  refine r_iload (pc := 221) C dX9_odds_221 1 rfl ?_
                  refine r_istore (pc := 223) [(8, .int (nI (x7_50 % x8_50))), (7, .int (nI x8_50)), (9, .int (nI (x7_50 % x8_50))), (4, .int w), (5, .int (nI x5_45.toNatClampNeg)), (6, .int (nI x6_46.toNatClampNeg))] C dX9_odds_223 (by decide) rfl ?_
                  refine r_goto (pc := 225) 205 C dX9_odds_225 (by decide) ?_
                  refine u_lv [(4, .int w), (5, .int (nI x5_45.toNatClampNeg)), (6, .int (nI x6_46.toNatClampNeg)), (7, .int (nI x8_50)), (8, .int (nI (x7_50 % x8_50)))] [3, 4, 5, 1, 0] rfl ?_
                  exact ih x8_50 (x7_50 % x8_50) (od_mod (by omega) c_51) (by omega) (by omega) (Nat.lt_trans (Nat.mod_lt _ (by omega)) (by omega)) (by rw [← hV50]; first | (simp only [lX9_odds_205, if_neg c_51]; done) | rfl | (simp [lX9_odds_205, if_neg c_51]; done))
            refine u_lv [(4, .int w), (5, .int (nI x5_45.toNatClampNeg)), (6, .int (nI x6_46.toNatClampNeg)), (7, .int (nI x5_45.toNatClampNeg)), (8, .int (nI x6_46.toNatClampNeg))] [2, 3, 4, 1, 0] rfl ?_
            exact hL50 (x6_46.toNatClampNeg + 1) x5_45.toNatClampNeg x6_46.toNatClampNeg (by omega) (by omega) (by omega) (by omega) rfl
          have hL14 : ∀ (n : Nat) (x5_14 : Int32) (x6_14 : Int32) (x7_14 : Nat) (so0_14 : Nat → Int32) , (x7_14 + n = 64) → lX9_odds_54 v mt mp ml md m t n x5_14 x6_14 x7_14 so0_14 = lX9_odds_54 v mt mp ml md m t 64 0 0 0 so → Vw g X 10 0 0 (fl [wMod g zm za1 za2 za3 za4 za5 za6 za7 za8 za9 zaa mp mt ml md np nt nl nP nS nD so0_14 ac mk mn mx nx mq mv wr ts sn sF sB sS mm]) 54 [(0, .ref zm), (1, .int t), (2, .int v), (3, .int (nI m.toNatClampNeg)), (4, .int w), (5, .int x5_14), (6, .int x6_14), (7, .int (nI x7_14))] [] := by
            intro n
            induction n with
            | zero =>
              intro x5_14 x6_14 x7_14 so0_14 hr14 hV14
              refine r_iload (pc := 54) C dX9_odds_54 7 rfl ?_
              refine r_bipush (pc := 56) 64 C dX9_odds_56 rfl ?_
              refine r_icmpgeN (pc := 58) x7_14 64 197 C dX9_odds_58 (by decide) rfl rfl (by omega) (by omega) (fun _ => ?_) (fun c_15 => absurd (by omega) c_15)
              refine u_lv [(4, .int w), (5, .int x5_14), (6, .int x6_14)] [4, 5, 6] rfl ?_
              exact hX14 _ _ _ (by rw [← hV14]; first | rfl | (simp only [lX9_odds_54]; done) | (simp [lX9_odds_54]; done)) (by rw [← hV14]; first | rfl | (simp only [lX9_odds_54]; done) | (simp [lX9_odds_54]; done)) (by rw [← hV14]; first | rfl | (simp only [lX9_odds_54]; done) | (simp [lX9_odds_54]; done))
            | succ n ih =>
              intro x5_14 x6_14 x7_14 so0_14 hr14 hV14
              refine r_iload (pc := 54) C dX9_odds_54 7 rfl ?_
              refine r_bipush (pc := 56) 64 C dX9_odds_56 rfl ?_
              refine r_icmpgeN (pc := 58) x7_14 64 197 C dX9_odds_58 (by decide) rfl rfl (by omega) (by omega) (fun c_16 => absurd c_16 (by omega)) (fun _ => ?_)
              refine r_iload (pc := 61) C dX9_odds_61 7 rfl ?_
              refine r_aload_n (pc := 63) C dX9_odds_63 0 rfl ?_
              refine r_get (pc := 64) C fl_X9_29 dX9_odds_64 0 rfl rfl ?_
              refine r_bipush (pc := 67) 12 C dX9_odds_67 rfl ?_
              refine r_iald (pc := 69) 12 C dX9_odds_69 5 rfl rfl (by omega) (by decide) ?_
              refine r_iconst (pc := 70) (-1) C dX9_odds_70 rfl ?_
              refine r_ixor (pc := 71) C dX9_odds_71 ?_
              refine r_iand (pc := 72) C dX9_odds_72 ?_
              refine r_ifne (pc := 73) 191 C dX9_odds_73 (by decide) (fun c_17 => ?_) (fun c_17 => ?_)
              · refine r_iinc (pc := 191) (nI (x7_14 + 1)) [(7, .int (nI (x7_14 + 1))), (0, .ref zm), (1, .int t), (2, .int v), (3, .int (nI m.toNatClampNeg)), (4, .int w), (5, .int x5_14), (6, .int x6_14)] C dX9_odds_191 7 rfl (inc1 _) (by decide) rfl ?_
                refine r_goto (pc := 194) 54 C dX9_odds_194 (by decide) ?_
                refine u_lv [(0, .ref zm), (1, .int t), (2, .int v), (3, .int (nI m.toNatClampNeg)), (4, .int w), (5, .int x5_14), (6, .int x6_14), (7, .int (nI (x7_14 + 1)))] [1, 2, 3, 4, 5, 6, 7, 0] rfl ?_
                exact ih x5_14 x6_14 (x7_14 + 1) so0_14 (by omega) (by rw [← hV14]; first | (simp only [lX9_odds_54, if_neg c_17]; done) | rfl | (simp [lX9_odds_54, if_neg c_17]; done))
              · refine r_aload_n (pc := 76) C dX9_odds_76 0 rfl ?_
                refine r_iconst (pc := 77) 0 C dX9_odds_77 rfl ?_
                refine r_sipush (pc := 78) 195 C dX9_odds_78 rfl ?_
                obtain ⟨so_18, e_so_18⟩ : ∃ z : Nat → Int32, z = fX9_copies so0_14 0 195 := ⟨_, rfl⟩
                have K_19 := ctX9_copies l g zm za1 za2 za3 za4 za5 za6 za7 za8 za9 zaa mp mt ml md np nt nl nP nS nD so0_14 ac mk mn mx nx mq mv wr ts sn sF sB sS mm 0 195 (by omega) (by omega)
                rw [← e_so_18] at K_19
                refine w_cV (pc := 81) [wMod g zm za1 za2 za3 za4 za5 za6 za7 za8 za9 zaa mp mt ml md np nt nl nP nS nD so_18 ac mk mn mx nx mq mv wr ts sn sF sB sS mm] C mv_X9_131 K_19 dX9_odds_81 (by decide) [0] rfl (by decide) (by simp only [List.map_cons, List.map_nil, adMod]) rfl 0 rfl rfl (Nat.le_of_ble_eq_true rfl) ⟨Nat.zero_le _, Nat.zero_le _⟩ ?_
                refine r_iconst (pc := 84) 1 C dX9_odds_84 rfl ?_
                refine r_istore (pc := 85) [(8, .int 1), (0, .ref zm), (1, .int t), (2, .int v), (3, .int (nI m.toNatClampNeg)), (4, .int w), (5, .int x5_14), (6, .int x6_14), (7, .int (nI x7_14))] C dX9_odds_85 (by decide) rfl ?_
                refine r_iconst (pc := 87) 0 C dX9_odds_87 rfl ?_
                refine r_istore (pc := 88) [(9, .int 0), (8, .int 1), (0, .ref zm), (1, .int t), (2, .int v), (3, .int (nI m.toNatClampNeg)), (4, .int w), (5, .int x5_14), (6, .int x6_14), (7, .int (nI x7_14))] C dX9_odds_88 (by decide) rfl ?_
                have hX20 : ∀ (x8_37 : Int32) (so0_38 : Nat → Int32) , (x8_37 = (lX9_odds_90 x7_14 v mt 1 0 so_18).1) → (so0_38 = (lX9_odds_90 x7_14 v mt 1 0 so_18).2) → Vw g X 10 0 0 (fl [wMod g zm za1 za2 za3 za4 za5 za6 za7 za8 za9 zaa mp mt ml md np nt nl nP nS nD so0_38 ac mk mn mx nx mq mv wr ts sn sF sB sS mm]) 161 [(0, .ref zm), (1, .int t), (2, .int v), (3, .int (nI m.toNatClampNeg)), (4, .int w), (5, .int x5_14), (6, .int x6_14), (7, .int (nI x7_14)), (8, .int x8_37)] [] := by
                  intro x8_37 so0_38 e_x8_37 e_so0_38 
                  refine r_iload (pc := 161) C dX9_odds_161 6 rfl ?_
                  refine r_iload (pc := 163) C dX9_odds_163 8 rfl ?_
                  refine r_iadd (pc := 165) C dX9_odds_165 ?_
                  refine r_istore (pc := 166) [(6, .int (x6_14 + x8_37)), (0, .ref zm), (1, .int t), (2, .int v), (3, .int (nI m.toNatClampNeg)), (4, .int w), (5, .int x5_14), (7, .int (nI x7_14)), (8, .int x8_37)] C dX9_odds_166 (by decide) rfl ?_
                  refine r_iload (pc := 168) C dX9_odds_168 6 rfl ?_
                  refine r_aload_n (pc := 170) C dX9_odds_170 1 rfl ?_
                  refine r_iload_n (pc := 171) C dX9_odds_171 4 rfl ?_
                  obtain ⟨r_39, e_r_39⟩ : ∃ z : Int32, z = (fX9_standBehind mp mt ml md so0_38 m.toNatClampNeg).1 := ⟨_, rfl⟩
                  obtain ⟨so_40, e_so_40⟩ : ∃ z : Nat → Int32, z = (fX9_standBehind mp mt ml md so0_38 m.toNatClampNeg).2 := ⟨_, rfl⟩
                  have K_41 := ctX9_standBehind l g zm za1 za2 za3 za4 za5 za6 za7 za8 za9 zaa mp mt ml md np nt nl nP nS nD so0_38 ac mk mn mx nx mq mv wr ts sn sF sB sS mm m.toNatClampNeg (by omega) (by assumption) (by omega)
                  rw [← e_r_39, ← e_so_40] at K_41
                  refine w_cI (pc := 172) [wMod g zm za1 za2 za3 za4 za5 za6 za7 za8 za9 zaa mp mt ml md np nt nl nP nS nD so_40 ac mk mn mx nx mq mv wr ts sn sF sB sS mm] C mv_X9_177 K_41 dX9_odds_172 (by decide) [0] rfl (by decide) (by simp only [List.map_cons, List.map_nil, adMod]) rfl 0 rfl rfl (Nat.le_of_ble_eq_true rfl) ⟨Nat.zero_le _, Nat.zero_le _⟩ ?_
                  refine r_iload_n (pc := 175) C dX9_odds_175 2 rfl ?_
                  obtain ⟨r_42, e_r_42⟩ : ∃ z : Int32, z = fX9_has r_39 t := ⟨_, rfl⟩
                  have K_43 := ctX9_has l g   r_39 t 
                  rw [← e_r_42] at K_43
                  refine x_pI (pc := 176) C ms_X9_117 K_43 dX9_odds_176 (by decide) [] rfl (by decide) rfl (Nat.le_of_ble_eq_true rfl) ⟨Nat.zero_le _, Nat.zero_le _⟩ ?_
                  refine r_ifeq (pc := 179) 187 C dX9_odds_179 (by decide) (fun c_44 => ?_) (fun c_44 => ?_)
                  · refine r_iconst (pc := 187) 0 C dX9_odds_187 rfl ?_
                    refine r_iadd (pc := 188) C dX9_odds_188 ?_
                    refine r_istore (pc := 189) [(5, .int (x5_14 + 0)), (6, .int (x6_14 + x8_37)), (0, .ref zm), (1, .int t), (2, .int v), (3, .int (nI m.toNatClampNeg)), (4, .int w), (7, .int (nI x7_14)), (8, .int x8_37)] C dX9_odds_189 (by decide) rfl ?_
                    refine r_iinc (pc := 191) (nI (x7_14 + 1)) [(7, .int (nI (x7_14 + 1))), (5, .int (x5_14 + 0)), (6, .int (x6_14 + x8_37)), (0, .ref zm), (1, .int t), (2, .int v), (3, .int (nI m.toNatClampNeg)), (4, .int w), (8, .int x8_37)] C dX9_odds_191 7 rfl (inc1 _) (by decide) rfl ?_
                    refine r_goto (pc := 194) 54 C dX9_odds_194 (by decide) ?_
                    refine u_lv [(0, .ref zm), (1, .int t), (2, .int v), (3, .int (nI m.toNatClampNeg)), (4, .int w), (5, .int (x5_14 + 0)), (6, .int (x6_14 + x8_37)), (7, .int (nI (x7_14 + 1)))] [3, 4, 5, 6, 7, 1, 2, 0] rfl ?_
                    exact ih (x5_14 + 0) (x6_14 + x8_37) (x7_14 + 1) so_40 (by omega) (by rw [← hV14]; first | (simp only [lX9_odds_54, ← e_so_18, ← e_x8_37, ← e_so0_38, ← e_r_39, ← e_so_40, ← e_r_42, if_pos c_17, if_pos c_44]; done) | (subst e_so_18 e_x8_37 e_so0_38 e_r_39 e_so_40 e_r_42; simp only [lX9_odds_54, if_pos c_17, if_pos c_44]; done) | (subst e_so_18 e_x8_37 e_so0_38 e_r_39 e_so_40 e_r_42; rfl) | (subst e_so_18 e_x8_37 e_so0_38 e_r_39 e_so_40 e_r_42; simp [lX9_odds_54, if_pos c_17, if_pos c_44]; done))
                  · refine r_iload (pc := 182) C dX9_odds_182 8 rfl ?_
                    refine r_goto (pc := 184) 188 C dX9_odds_184 (by decide) ?_
                    refine r_iadd (pc := 188) C dX9_odds_188 ?_
                    refine r_istore (pc := 189) [(5, .int (x5_14 + x8_37)), (6, .int (x6_14 + x8_37)), (0, .ref zm), (1, .int t), (2, .int v), (3, .int (nI m.toNatClampNeg)), (4, .int w), (7, .int (nI x7_14)), (8, .int x8_37)] C dX9_odds_189 (by decide) rfl ?_
                    refine r_iinc (pc := 191) (nI (x7_14 + 1)) [(7, .int (nI (x7_14 + 1))), (5, .int (x5_14 + x8_37)), (6, .int (x6_14 + x8_37)), (0, .ref zm), (1, .int t), (2, .int v), (3, .int (nI m.toNatClampNeg)), (4, .int w), (8, .int x8_37)] C dX9_odds_191 7 rfl (inc1 _) (by decide) rfl ?_
                    refine r_goto (pc := 194) 54 C dX9_odds_194 (by decide) ?_
                    refine u_lv [(0, .ref zm), (1, .int t), (2, .int v), (3, .int (nI m.toNatClampNeg)), (4, .int w), (5, .int (x5_14 + x8_37)), (6, .int (x6_14 + x8_37)), (7, .int (nI (x7_14 + 1)))] [3, 4, 5, 6, 7, 1, 2, 0] rfl ?_
                    exact ih (x5_14 + x8_37) (x6_14 + x8_37) (x7_14 + 1) so_40 (by omega) (by rw [← hV14]; first | (simp only [lX9_odds_54, ← e_so_18, ← e_x8_37, ← e_so0_38, ← e_r_39, ← e_so_40, ← e_r_42, if_pos c_17, if_neg c_44]; done) | (subst e_so_18 e_x8_37 e_so0_38 e_r_39 e_so_40 e_r_42; simp only [lX9_odds_54, if_pos c_17, if_neg c_44]; done) | (subst e_so_18 e_x8_37 e_so0_38 e_r_39 e_so_40 e_r_42; rfl) | (subst e_so_18 e_x8_37 e_so0_38 e_r_39 e_so_40 e_r_42; simp [lX9_odds_54, if_pos c_17, if_neg c_44]; done))
                have hL20 : ∀ (n : Nat) (x8_20 : Int32) (x9_20 : Nat) (so0_20 : Nat → Int32) , (x9_20 + n = mt) → lX9_odds_90 x7_14 v n x8_20 x9_20 so0_20 = lX9_odds_90 x7_14 v mt 1 0 so_18 → Vw g X 10 0 0 (fl [wMod g zm za1 za2 za3 za4 za5 za6 za7 za8 za9 zaa mp mt ml md np nt nl nP nS nD so0_20 ac mk mn mx nx mq mv wr ts sn sF sB sS mm]) 90 [(0, .ref zm), (1, .int t), (2, .int v), (3, .int (nI m.toNatClampNeg)), (4, .int w), (5, .int x5_14), (6, .int x6_14), (7, .int (nI x7_14)), (8, .int x8_20), (9, .int (nI x9_20))] [] := by
                  intro n
                  induction n with
                  | zero =>
                    intro x8_20 x9_20 so0_20 hr20 hV20
                    refine r_iload (pc := 90) C dX9_odds_90 9 rfl ?_
                    refine r_aload_n (pc := 92) C dX9_odds_92 0 rfl ?_
                    refine r_get (pc := 93) C fl_X9_108 dX9_odds_93 0 rfl rfl ?_
                    refine r_icmpgeN (pc := 96) x9_20 mt 161 C dX9_odds_96 (by decide) rfl rfl (by omega) (by omega) (fun _ => ?_) (fun c_21 => absurd (by omega) c_21)
                    refine u_lv [(0, .ref zm), (1, .int t), (2, .int v), (3, .int (nI m.toNatClampNeg)), (4, .int w), (5, .int x5_14), (6, .int x6_14), (7, .int (nI x7_14)), (8, .int x8_20)] [0, 1, 2, 3, 4, 5, 6, 7, 8] rfl ?_
                    exact hX20 _ _ (by rw [← hV20]; first | rfl | (simp only [lX9_odds_90]; done) | (simp [lX9_odds_90]; done)) (by rw [← hV20]; first | rfl | (simp only [lX9_odds_90]; done) | (simp [lX9_odds_90]; done))
                  | succ n ih =>
                    intro x8_20 x9_20 so0_20 hr20 hV20
                    refine r_iload (pc := 90) C dX9_odds_90 9 rfl ?_
                    refine r_aload_n (pc := 92) C dX9_odds_92 0 rfl ?_
                    refine r_get (pc := 93) C fl_X9_108 dX9_odds_93 0 rfl rfl ?_
                    refine r_icmpgeN (pc := 96) x9_20 mt 161 C dX9_odds_96 (by decide) rfl rfl (by omega) (by omega) (fun c_22 => absurd c_22 (by omega)) (fun _ => ?_)
                    refine r_aload_n (pc := 99) C dX9_odds_99 0 rfl ?_
                    refine r_iload (pc := 100) C dX9_odds_100 9 rfl ?_
                    obtain ⟨r_23, e_r_23⟩ : ∃ z : Int32, z = fX9_stands so0_20 (nI x9_20) := ⟨_, rfl⟩
                    have K_24 := ctX9_stands l g zm za1 za2 za3 za4 za5 za6 za7 za8 za9 zaa mp mt ml md np nt nl nP nS nD so0_20 ac mk mn mx nx mq mv wr ts sn sF sB sS mm (nI x9_20) 
                    rw [← e_r_23] at K_24
                    refine w_pI (pc := 102) C mv_X9_138 K_24 dX9_odds_102 (by decide) [0] rfl (by decide) 0 rfl rfl (Nat.le_of_ble_eq_true rfl) ⟨Nat.zero_le _, Nat.zero_le _⟩ ?_
                    refine r_ifeq (pc := 105) 155 C dX9_odds_105 (by decide) (fun c_25 => ?_) (fun c_25 => ?_)
                    · refine r_iinc (pc := 155) (nI (x9_20 + 1)) [(9, .int (nI (x9_20 + 1))), (0, .ref zm), (1, .int t), (2, .int v), (3, .int (nI m.toNatClampNeg)), (4, .int w), (5, .int x5_14), (6, .int x6_14), (7, .int (nI x7_14)), (8, .int x8_20)] C dX9_odds_155 9 rfl (inc1 _) (by decide) rfl ?_
                      refine r_goto (pc := 158) 90 C dX9_odds_158 (by decide) ?_
                      refine u_lv [(0, .ref zm), (1, .int t), (2, .int v), (3, .int (nI m.toNatClampNeg)), (4, .int w), (5, .int x5_14), (6, .int x6_14), (7, .int (nI x7_14)), (8, .int x8_20), (9, .int (nI (x9_20 + 1)))] [1, 2, 3, 4, 5, 6, 7, 8, 9, 0] rfl ?_
                      exact ih x8_20 (x9_20 + 1) so0_20 (by omega) (by rw [← hV20]; first | (simp only [lX9_odds_90, ← e_r_23, if_pos c_25]; done) | (subst e_r_23; simp only [lX9_odds_90, if_pos c_25]; done) | (subst e_r_23; rfl) | (subst e_r_23; simp [lX9_odds_90, if_pos c_25]; done))
                    · refine r_iload (pc := 108) C dX9_odds_108 8 rfl ?_
                      refine r_iload (pc := 110) C dX9_odds_110 7 rfl ?_
                      refine r_iload (pc := 112) C dX9_odds_112 9 rfl ?_
                      obtain ⟨r_26, e_r_26⟩ : ∃ z : Int32, z = fX9_has (nI x7_14) (nI x9_20) := ⟨_, rfl⟩
                      have K_27 := ctX9_has l g   (nI x7_14) (nI x9_20) 
                      rw [← e_r_26] at K_27
                      refine x_pI (pc := 114) C ms_X9_117 K_27 dX9_odds_114 (by decide) [] rfl (by decide) rfl (Nat.le_of_ble_eq_true rfl) ⟨Nat.zero_le _, Nat.zero_le _⟩ ?_
                      have hJ_30 : ∀ (w_29 : Int32) , (w_29 = (if r_26 = 0 then ((10 - v)) else (v))) → Vw g X 10 0 0 (fl [wMod g zm za1 za2 za3 za4 za5 za6 za7 za8 za9 zaa mp mt ml md np nt nl nP nS nD so0_20 ac mk mn mx nx mq mv wr ts sn sF sB sS mm]) 128 [(0, .ref zm), (1, .int t), (2, .int v), (3, .int (nI m.toNatClampNeg)), (4, .int w), (5, .int x5_14), (6, .int x6_14), (7, .int (nI x7_14)), (9, .int (nI x9_20))] [.int w_29, .int x8_20] := by
                        intro w_29 e_w_29
                        refine r_imul (pc := 128) C dX9_odds_128 ?_
                        refine r_istore (pc := 129) [(8, .int (x8_20 * w_29)), (0, .ref zm), (1, .int t), (2, .int v), (3, .int (nI m.toNatClampNeg)), (4, .int w), (5, .int x5_14), (6, .int x6_14), (7, .int (nI x7_14)), (9, .int (nI x9_20))] C dX9_odds_129 (by decide) rfl ?_
                        refine r_aload_n (pc := 131) C dX9_odds_131 1 rfl ?_
                        refine r_sipush (pc := 132) 195 C dX9_odds_132 rfl ?_
                        refine r_iload (pc := 135) C dX9_odds_135 9 rfl ?_
                        refine r_iload (pc := 137) C dX9_odds_137 8 rfl ?_
                        refine r_iload (pc := 139) C dX9_odds_139 9 rfl ?_
                        have K_31 := ctX9_has l g   (nI x7_14) (nI x9_20) 
                        rw [← e_r_26] at K_31
                        refine x_pI (pc := 141) C ms_X9_117 K_31 dX9_odds_141 (by decide) [] rfl (by decide) rfl (Nat.le_of_ble_eq_true rfl) ⟨Nat.zero_le _, Nat.zero_le _⟩ ?_
                        have hJ_34 : ∀ (w_33 : Int32) , (w_33 = (if r_26 = 0 then (0) else (5))) → Vw g X 10 0 0 (fl [wMod g zm za1 za2 za3 za4 za5 za6 za7 za8 za9 zaa mp mt ml md np nt nl nP nS nD so0_20 ac mk mn mx nx mq mv wr ts sn sF sB sS mm]) 152 [(0, .ref zm), (1, .int t), (2, .int v), (3, .int (nI m.toNatClampNeg)), (4, .int w), (5, .int x5_14), (6, .int x6_14), (7, .int (nI x7_14)), (8, .int (x8_20 * w_29)), (9, .int (nI x9_20))] [.int w_33, .int (nI x9_20), .int 195, .ref zm] := by
                          intro w_33 e_w_33
                          obtain ⟨so_35, e_so_35⟩ : ∃ z : Nat → Int32, z = fX9_whipped so0_20 195 x9_20 w_33 := ⟨_, rfl⟩
                          have K_36 := ctX9_whipped l g zm za1 za2 za3 za4 za5 za6 za7 za8 za9 zaa mp mt ml md np nt nl nP nS nD so0_20 ac mk mn mx nx mq mv wr ts sn sF sB sS mm 195 x9_20 w_33 (by omega) (by omega)
                          rw [← e_so_35] at K_36
                          refine w_cV (pc := 152) [wMod g zm za1 za2 za3 za4 za5 za6 za7 za8 za9 zaa mp mt ml md np nt nl nP nS nD so_35 ac mk mn mx nx mq mv wr ts sn sF sB sS mm] C mv_X9_169 K_36 dX9_odds_152 (by decide) [0] rfl (by decide) (by simp only [List.map_cons, List.map_nil, adMod]) rfl 0 rfl rfl (Nat.le_of_ble_eq_true rfl) ⟨Nat.zero_le _, Nat.zero_le _⟩ ?_
                          refine r_iinc (pc := 155) (nI (x9_20 + 1)) [(9, .int (nI (x9_20 + 1))), (0, .ref zm), (1, .int t), (2, .int v), (3, .int (nI m.toNatClampNeg)), (4, .int w), (5, .int x5_14), (6, .int x6_14), (7, .int (nI x7_14)), (8, .int (x8_20 * w_29))] C dX9_odds_155 9 rfl (inc1 _) (by decide) rfl ?_
                          refine r_goto (pc := 158) 90 C dX9_odds_158 (by decide) ?_
                          refine u_lv [(0, .ref zm), (1, .int t), (2, .int v), (3, .int (nI m.toNatClampNeg)), (4, .int w), (5, .int x5_14), (6, .int x6_14), (7, .int (nI x7_14)), (8, .int (x8_20 * w_29)), (9, .int (nI (x9_20 + 1)))] [1, 2, 3, 4, 5, 6, 7, 8, 9, 0] rfl ?_
                          exact ih (x8_20 * w_29) (x9_20 + 1) so_35 (by omega) (by rw [← hV20]; first | (simp only [lX9_odds_90, ← e_r_23, ← e_r_26, ← e_w_29, ← e_w_33, ← e_so_35, if_neg c_25]; done) | (subst e_r_23 e_r_26 e_w_29 e_w_33 e_so_35; simp only [lX9_odds_90, if_neg c_25]; done) | (subst e_r_23 e_r_26 e_w_29 e_w_33 e_so_35; rfl) | (subst e_r_23 e_r_26 e_w_29 e_w_33 e_so_35; simp [lX9_odds_90, if_neg c_25]; done))
                        refine r_ifeq (pc := 144) 151 C dX9_odds_144 (by decide) (fun c_32 => ?_) (fun c_32 => ?_)
                        · refine r_iconst (pc := 151) 0 C dX9_odds_151 rfl ?_
                          refine u_lv [(0, .ref zm), (1, .int t), (2, .int v), (3, .int (nI m.toNatClampNeg)), (4, .int w), (5, .int x5_14), (6, .int x6_14), (7, .int (nI x7_14)), (8, .int (x8_20 * w_29)), (9, .int (nI x9_20))] [1, 2, 3, 4, 5, 6, 7, 8, 0, 9] rfl ?_
                          exact hJ_34 _ (by first | (simp only [if_pos c_32]; done) | rfl | (simp [if_pos c_32]; done))
                        · refine r_iconst (pc := 147) 5 C dX9_odds_147 rfl ?_
                          refine r_goto (pc := 148) 152 C dX9_odds_148 (by decide) ?_
                          refine u_lv [(0, .ref zm), (1, .int t), (2, .int v), (3, .int (nI m.toNatClampNeg)), (4, .int w), (5, .int x5_14), (6, .int x6_14), (7, .int (nI x7_14)), (8, .int (x8_20 * w_29)), (9, .int (nI x9_20))] [1, 2, 3, 4, 5, 6, 7, 8, 0, 9] rfl ?_
                          exact hJ_34 _ (by first | (simp only [if_neg c_32]; done) | rfl | (simp [if_neg c_32]; done))
                      refine r_ifeq (pc := 117) 124 C dX9_odds_117 (by decide) (fun c_28 => ?_) (fun c_28 => ?_)
                      · refine r_bipush (pc := 124) 10 C dX9_odds_124 rfl ?_
                        refine r_iload_n (pc := 126) C dX9_odds_126 2 rfl ?_
                        refine r_isub (pc := 127) C dX9_odds_127 ?_
                        refine u_lv [(0, .ref zm), (1, .int t), (2, .int v), (3, .int (nI m.toNatClampNeg)), (4, .int w), (5, .int x5_14), (6, .int x6_14), (7, .int (nI x7_14)), (9, .int (nI x9_20))] [0, 1, 2, 3, 4, 5, 6, 7, 9] rfl ?_
                        exact hJ_30 _ (by first | (simp only [if_pos c_28]; done) | rfl | (simp [if_pos c_28]; done))
                      · refine r_iload_n (pc := 120) C dX9_odds_120 2 rfl ?_
                        refine r_goto (pc := 121) 128 C dX9_odds_121 (by decide) ?_
                        refine u_lv [(0, .ref zm), (1, .int t), (2, .int v), (3, .int (nI m.toNatClampNeg)), (4, .int w), (5, .int x5_14), (6, .int x6_14), (7, .int (nI x7_14)), (9, .int (nI x9_20))] [0, 1, 2, 3, 4, 5, 6, 7, 9] rfl ?_
                        exact hJ_30 _ (by first | (simp only [if_neg c_28]; done) | rfl | (simp [if_neg c_28]; done))
                refine u_lv [(0, .ref zm), (1, .int t), (2, .int v), (3, .int (nI m.toNatClampNeg)), (4, .int w), (5, .int x5_14), (6, .int x6_14), (7, .int (nI x7_14)), (8, .int 1), (9, .int 0)] [2, 3, 4, 5, 6, 7, 8, 9, 1, 0] rfl ?_
                exact hL20 mt 1 0 so_18 (by omega) rfl
          refine u_lv [(0, .ref zm), (1, .int t), (2, .int v), (3, .int (nI m.toNatClampNeg)), (4, .int w), (5, .int 0), (6, .int 0), (7, .int 0)] [3, 4, 5, 6, 7, 2, 1, 0] rfl ?_
          exact hL14 64 0 0 0 so (by omega) rfl
        · refine r_iconst (pc := 43) (-1) C dX9_odds_43 rfl ?_
          have hf : fX9_odds mp mt ml md so t v m w = ((-1), so) := by first | (simp only [fX9_odds, ← e_r_1, ← e_r_4, ← e_r_7, ← e_r_10, if_neg c_3, if_neg c_6, if_neg c_9, if_pos c_12]; done) | (subst e_r_1 e_r_4 e_r_7 e_r_10; simp only [fX9_odds, if_neg c_3, if_neg c_6, if_neg c_9, if_pos c_12]; done) | (subst e_r_1 e_r_4 e_r_7 e_r_10; rfl) | (subst e_r_1 e_r_4 e_r_7 e_r_10; simp [fX9_odds, if_neg c_3, if_neg c_6, if_neg c_9, if_pos c_12]; done)
          rw [hf] at hR
          exact hR _ _ dX9_odds_44
theorem ctX9_odds (l : Launch) (g : Gl) (zm : Nat) (za1 : Nat) (za2 : Nat) (za3 : Nat) (za4 : Nat) (za5 : Nat) (za6 : Nat) (za7 : Nat) (za8 : Nat) (za9 : Nat) (zaa : Nat) (mp : Int32) (mt : Nat) (ml : Int32) (md : Nat → Int32) (np : Int32) (nt : Nat) (nl : Int32) (nP : Nat → Int32) (nS : Nat → Int32) (nD : Nat → Int32) (so : Nat → Int32) (ac : Nat) (mk : Nat → Int32) (mn : Nat) (mx : Nat → Int32) (nx : Nat) (mq : Nat) (mv : Int32) (wr : Int32) (ts : Int32) (sn : Nat) (sF : Nat → Int32) (sB : Nat → Int32) (sS : Nat → Int32) (mm : Int64) (t : Int32) (v : Int32) (m : Int32) (w : Int32) (q0 : mt ≤ 6) (q1 : ¬ mp = 0) (q2 : ¬ fX9_isTop mt t = 0 → ¬ fX9_in v.toInt64 0 10 = 0 → ¬ fX9_in m.toInt64 0 60 = 0 → (∃ j, j < 1000001 ∧ (lX9_odds_54 v mt mp ml md m t 64 0 0 0 so).1 = nI j) ∧ (∃ j, j < 1000001 ∧ (lX9_odds_54 v mt mp ml md m t 64 0 0 0 so).2.1 = nI j) ∧ ¬ ((lX9_odds_54 v mt mp ml md m t 64 0 0 0 so).2.1).toNatClampNeg = 0) : CtI l g yX9_odds cX9_odds 10 (some .int) 5 [.ref zm, .int t, .int v, .int m, .int w] (fl [wMod g zm za1 za2 za3 za4 za5 za6 za7 za8 za9 zaa mp mt ml md np nt nl nP nS nD so ac mk mn mx nx mq mv wr ts sn sF sB sS mm]) ((fX9_odds mp mt ml md so t v m w).1) (fl [wMod g zm za1 za2 za3 za4 za5 za6 za7 za8 za9 zaa mp mt ml md np nt nl nP nS nD ((fX9_odds mp mt ml md so t v m w).2) ac mk mn mx nx mq mv wr ts sn sF sB sS mm]) := mkI .int rfl rfl [(0, .ref zm), (1, .int t), (2, .int v), (3, .int m), (4, .int w)] (by decide) (Nat.le_of_ble_eq_true rfl) rfl (fun X C hR => bX9_odds C zm za1 za2 za3 za4 za5 za6 za7 za8 za9 zaa mp mt ml md np nt nl nP nS nD so ac mk mn mx nx mq mv wr ts sn sF sB sS mm t v m w q0 q1 q2 hR)
