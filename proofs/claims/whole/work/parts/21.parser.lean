def lX9_settles_26 (nD : Nat → Int32) (nt : Nat) (nP : Nat → Int32) (nS : Nat → Int32) : Nat → (Nat) → (Nat → Int32) → (Nat → Int32) → (Nat → Int32) × (Nat → Int32)
  | 0, x1_1, md0_1, so0_1 => ((md0_1, so0_1))
  | n + 1, x1_1, md0_1, so0_1 => (let md_4 : Nat → Int32 := upd md0_1 x1_1 (nD x1_1); let w_6 : Int32 := (if nt ≤ x1_1 then (0) else ((nP x1_1))); let so_8 : Nat → Int32 := upd so0_1 x1_1 w_6; let w_10 : Int32 := (if nt ≤ x1_1 then (0) else ((nS x1_1))); let so_12 : Nat → Int32 := upd so_8 (6 + x1_1) w_10; lX9_settles_26 nD nt nP nS n (x1_1 + 1) md_4 so_12)
def fX9_settles (md : Nat → Int32) (np : Int32) (nt : Nat) (nl : Int32) (nP : Nat → Int32) (nS : Nat → Int32) (nD : Nat → Int32) (so : Nat → Int32) (mk : Nat → Int32) : (Int32) × (Nat) × (Int32) × (Nat → Int32) × (Nat → Int32) × (Nat) × (Nat → Int32) × (Nat) × (Nat) := (let o1 := lX9_settles_26 nD nt nP nS 6 0 md so; let md0_13 : Nat → Int32 := o1.1; let so0_14 : Nat → Int32 := o1.2; let so_15 : Nat → Int32 := upd so0_14 12 ((1 <<< ((nI nt) &&& 31)) - 1); let so_16 : Nat → Int32 := upd so_15 13 0; let so_17 : Nat → Int32 := upd so_16 14 0; let mk_18 : Nat → Int32 := upd mk 0 0; let mk_19 : Nat → Int32 := upd mk_18 1 0; (np, nt, nl, md0_13, so_17, 0, mk_19, 0, 0))
set_option maxHeartbeats 4000000 in
set_option maxRecDepth 100000 in
theorem bX9_settles {l : Launch} {g : Gl} {X : Cx} (C : Ok l g X RX9 cX9_settles 2 0) (zm : Nat) (za1 : Nat) (za2 : Nat) (za3 : Nat) (za4 : Nat) (za5 : Nat) (za6 : Nat) (za7 : Nat) (za8 : Nat) (za9 : Nat) (zaa : Nat) (mp : Int32) (mt : Nat) (ml : Int32) (md : Nat → Int32) (np : Int32) (nt : Nat) (nl : Int32) (nP : Nat → Int32) (nS : Nat → Int32) (nD : Nat → Int32) (so : Nat → Int32) (ac : Nat) (mk : Nat → Int32) (mn : Nat) (mx : Nat → Int32) (nx : Nat) (mq : Nat) (mv : Int32) (wr : Int32) (ts : Int32) (sn : Nat) (sF : Nat → Int32) (sB : Nat → Int32) (sS : Nat → Int32) (mm : Int64) (q0 : nt ≤ 6) (hR : RetV g X cX9_settles 2 0 0 (fl [wMod g zm za1 za2 za3 za4 za5 za6 za7 za8 za9 zaa ((fX9_settles md np nt nl nP nS nD so mk).1) ((fX9_settles md np nt nl nP nS nD so mk).2.1) ((fX9_settles md np nt nl nP nS nD so mk).2.2.1) ((fX9_settles md np nt nl nP nS nD so mk).2.2.2.1) np nt nl nP nS nD ((fX9_settles md np nt nl nP nS nD so mk).2.2.2.2.1) ((fX9_settles md np nt nl nP nS nD so mk).2.2.2.2.2.1) ((fX9_settles md np nt nl nP nS nD so mk).2.2.2.2.2.2.1) ((fX9_settles md np nt nl nP nS nD so mk).2.2.2.2.2.2.2.1) mx nx mq mv wr ts ((fX9_settles md np nt nl nP nS nD so mk).2.2.2.2.2.2.2.2) sF sB sS mm])) : Vw g X 2 0 0 (fl [wMod g zm za1 za2 za3 za4 za5 za6 za7 za8 za9 zaa mp mt ml md np nt nl nP nS nD so ac mk mn mx nx mq mv wr ts sn sF sB sS mm]) 0 [(0, .ref zm)] [] := by
  refine r_aload_n (pc := 0) C dX9_settles_0 0 rfl ?_
  refine r_aload_n (pc := 1) C dX9_settles_1 0 rfl ?_
  refine r_get (pc := 2) C fl_X9_85 dX9_settles_2 0 rfl rfl ?_
  refine r_put (pc := 5) (fl [wMod g zm za1 za2 za3 za4 za5 za6 za7 za8 za9 zaa np mt ml md np nt nl nP nS nD so ac mk mn mx nx mq mv wr ts sn sF sB sS mm]) C fp_X9_7 dX9_settles_5 0 rfl (Nat.le_of_ble_eq_true rfl) rfl rfl rfl ?_
  refine r_aload_n (pc := 8) C dX9_settles_8 0 rfl ?_
  refine r_aload_n (pc := 9) C dX9_settles_9 0 rfl ?_
  refine r_get (pc := 10) C fl_X9_82 dX9_settles_10 0 rfl rfl ?_
  refine r_put (pc := 13) (fl [wMod g zm za1 za2 za3 za4 za5 za6 za7 za8 za9 zaa np nt ml md np nt nl nP nS nD so ac mk mn mx nx mq mv wr ts sn sF sB sS mm]) C fp_X9_108 dX9_settles_13 0 rfl (Nat.le_of_ble_eq_true rfl) rfl rfl rfl ?_
  refine r_aload_n (pc := 16) C dX9_settles_16 0 rfl ?_
  refine r_aload_n (pc := 17) C dX9_settles_17 0 rfl ?_
  refine r_get (pc := 18) C fl_X9_98 dX9_settles_18 0 rfl rfl ?_
  refine r_put (pc := 21) (fl [wMod g zm za1 za2 za3 za4 za5 za6 za7 za8 za9 zaa np nt nl md np nt nl nP nS nD so ac mk mn mx nx mq mv wr ts sn sF sB sS mm]) C fp_X9_13 dX9_settles_21 0 rfl (Nat.le_of_ble_eq_true rfl) rfl rfl rfl ?_
  refine r_iconst (pc := 24) 0 C dX9_settles_24 rfl ?_
  refine r_istore_n (pc := 25) [(1, .int 0), (0, .ref zm)] C dX9_settles_25 (by decide) rfl ?_
  have hX1 : ∀ (md0_13 : Nat → Int32) (so0_14 : Nat → Int32) , (md0_13 = (lX9_settles_26 nD nt nP nS 6 0 md so).1) → (so0_14 = (lX9_settles_26 nD nt nP nS 6 0 md so).2) → Vw g X 2 0 0 (fl [wMod g zm za1 za2 za3 za4 za5 za6 za7 za8 za9 zaa np nt nl md0_13 np nt nl nP nS nD so0_14 ac mk mn mx nx mq mv wr ts sn sF sB sS mm]) 101 [(0, .ref zm)] [] := by
    intro md0_13 so0_14 e_md0_13 e_so0_14 
    refine r_aload_n (pc := 101) C dX9_settles_101 0 rfl ?_
    refine r_get (pc := 102) C fl_X9_29 dX9_settles_102 0 rfl rfl ?_
    refine r_bipush (pc := 105) 12 C dX9_settles_105 rfl ?_
    refine r_iconst (pc := 107) 1 C dX9_settles_107 rfl ?_
    refine r_aload_n (pc := 108) C dX9_settles_108 0 rfl ?_
    refine r_get (pc := 109) C fl_X9_108 dX9_settles_109 0 rfl rfl ?_
    refine r_ishl (pc := 112) C dX9_settles_112 ?_
    refine r_iconst (pc := 113) 1 C dX9_settles_113 rfl ?_
    refine r_isub (pc := 114) C dX9_settles_114 ?_
    obtain ⟨so_15, e_so_15⟩ : ∃ z : Nat → Int32, z = upd so0_14 12 ((1 <<< ((nI nt) &&& 31)) - 1) := ⟨_, rfl⟩
    refine r_iast (pc := 115) 12 (fl [wMod g zm za1 za2 za3 za4 za5 za6 za7 za8 za9 zaa np nt nl md0_13 np nt nl nP nS nD so_15 ac mk mn mx nx mq mv wr ts sn sF sB sS mm]) C dX9_settles_115 5 rfl rfl (by omega) (by decide) (by rw [← e_so_15]; rfl) ?_
    refine r_aload_n (pc := 116) C dX9_settles_116 0 rfl ?_
    refine r_get (pc := 117) C fl_X9_29 dX9_settles_117 0 rfl rfl ?_
    refine r_bipush (pc := 120) 13 C dX9_settles_120 rfl ?_
    refine r_iconst (pc := 122) 0 C dX9_settles_122 rfl ?_
    obtain ⟨so_16, e_so_16⟩ : ∃ z : Nat → Int32, z = upd so_15 13 0 := ⟨_, rfl⟩
    refine r_iast (pc := 123) 13 (fl [wMod g zm za1 za2 za3 za4 za5 za6 za7 za8 za9 zaa np nt nl md0_13 np nt nl nP nS nD so_16 ac mk mn mx nx mq mv wr ts sn sF sB sS mm]) C dX9_settles_123 5 rfl rfl (by omega) (by decide) (by rw [← e_so_16]; rfl) ?_
    refine r_aload_n (pc := 124) C dX9_settles_124 0 rfl ?_
    refine r_get (pc := 125) C fl_X9_29 dX9_settles_125 0 rfl rfl ?_
    refine r_bipush (pc := 128) 14 C dX9_settles_128 rfl ?_
    refine r_iconst (pc := 130) 0 C dX9_settles_130 rfl ?_
    obtain ⟨so_17, e_so_17⟩ : ∃ z : Nat → Int32, z = upd so_16 14 0 := ⟨_, rfl⟩
    refine r_iast (pc := 131) 14 (fl [wMod g zm za1 za2 za3 za4 za5 za6 za7 za8 za9 zaa np nt nl md0_13 np nt nl nP nS nD so_17 ac mk mn mx nx mq mv wr ts sn sF sB sS mm]) C dX9_settles_131 5 rfl rfl (by omega) (by decide) (by rw [← e_so_17]; rfl) ?_
    refine r_aload_n (pc := 132) C dX9_settles_132 0 rfl ?_
    refine r_iconst (pc := 133) 0 C dX9_settles_133 rfl ?_
    refine r_put (pc := 134) (fl [wMod g zm za1 za2 za3 za4 za5 za6 za7 za8 za9 zaa np nt nl md0_13 np nt nl nP nS nD so_17 0 mk mn mx nx mq mv wr ts sn sF sB sS mm]) C fp_X9_111 dX9_settles_134 0 rfl (Nat.le_of_ble_eq_true rfl) rfl rfl rfl ?_
    refine r_aload_n (pc := 137) C dX9_settles_137 0 rfl ?_
    refine r_iconst (pc := 138) 0 C dX9_settles_138 rfl ?_
    refine r_put (pc := 139) (fl [wMod g zm za1 za2 za3 za4 za5 za6 za7 za8 za9 zaa np nt nl md0_13 np nt nl nP nS nD so_17 0 mk mn mx nx mq mv wr ts 0 sF sB sS mm]) C fp_X9_114 dX9_settles_139 0 rfl (Nat.le_of_ble_eq_true rfl) rfl rfl rfl ?_
    refine r_aload_n (pc := 142) C dX9_settles_142 0 rfl ?_
    refine r_get (pc := 143) C fl_X9_32 dX9_settles_143 0 rfl rfl ?_
    refine r_iconst (pc := 146) 0 C dX9_settles_146 rfl ?_
    refine r_iconst (pc := 147) 0 C dX9_settles_147 rfl ?_
    obtain ⟨mk_18, e_mk_18⟩ : ∃ z : Nat → Int32, z = upd mk 0 0 := ⟨_, rfl⟩
    refine r_iast (pc := 148) 0 (fl [wMod g zm za1 za2 za3 za4 za5 za6 za7 za8 za9 zaa np nt nl md0_13 np nt nl nP nS nD so_17 0 mk_18 mn mx nx mq mv wr ts 0 sF sB sS mm]) C dX9_settles_148 6 rfl rfl (by omega) (by decide) (by rw [← e_mk_18]; rfl) ?_
    refine r_aload_n (pc := 149) C dX9_settles_149 0 rfl ?_
    refine r_get (pc := 150) C fl_X9_32 dX9_settles_150 0 rfl rfl ?_
    refine r_iconst (pc := 153) 1 C dX9_settles_153 rfl ?_
    refine r_iconst (pc := 154) 0 C dX9_settles_154 rfl ?_
    obtain ⟨mk_19, e_mk_19⟩ : ∃ z : Nat → Int32, z = upd mk_18 1 0 := ⟨_, rfl⟩
    refine r_iast (pc := 155) 1 (fl [wMod g zm za1 za2 za3 za4 za5 za6 za7 za8 za9 zaa np nt nl md0_13 np nt nl nP nS nD so_17 0 mk_19 mn mx nx mq mv wr ts 0 sF sB sS mm]) C dX9_settles_155 6 rfl rfl (by omega) (by decide) (by rw [← e_mk_19]; rfl) ?_
    refine r_aload_n (pc := 156) C dX9_settles_156 0 rfl ?_
    refine r_iconst (pc := 157) 0 C dX9_settles_157 rfl ?_
    refine r_put (pc := 158) (fl [wMod g zm za1 za2 za3 za4 za5 za6 za7 za8 za9 zaa np nt nl md0_13 np nt nl nP nS nD so_17 0 mk_19 0 mx nx mq mv wr ts 0 sF sB sS mm]) C fp_X9_54 dX9_settles_158 0 rfl (Nat.le_of_ble_eq_true rfl) rfl rfl rfl ?_
    have hf : fX9_settles md np nt nl nP nS nD so mk = (np, nt, nl, md0_13, so_17, 0, mk_19, 0, 0) := by first | (simp only [fX9_settles, ← e_md0_13, ← e_so0_14, ← e_so_15, ← e_so_16, ← e_so_17, ← e_mk_18, ← e_mk_19]; done) | (subst e_md0_13 e_so0_14 e_so_15 e_so_16 e_so_17 e_mk_18 e_mk_19; rfl) | (subst e_md0_13 e_so0_14 e_so_15 e_so_16 e_so_17 e_mk_18 e_mk_19; simp only [fX9_settles]; done)
    rw [hf] at hR
    exact hR _ _ dX9_settles_161
  have hL1 : ∀ (n : Nat) (x1_1 : Nat) (md0_1 : Nat → Int32) (so0_1 : Nat → Int32) , (x1_1 + n = 6) → lX9_settles_26 nD nt nP nS n x1_1 md0_1 so0_1 = lX9_settles_26 nD nt nP nS 6 0 md so → Vw g X 2 0 0 (fl [wMod g zm za1 za2 za3 za4 za5 za6 za7 za8 za9 zaa np nt nl md0_1 np nt nl nP nS nD so0_1 ac mk mn mx nx mq mv wr ts sn sF sB sS mm]) 26 [(0, .ref zm), (1, .int (nI x1_1))] [] := by
    intro n
    induction n with
    | zero =>
      intro x1_1 md0_1 so0_1 hr1 hV1
      refine r_iload_n (pc := 26) C dX9_settles_26 1 rfl ?_
      refine r_bipush (pc := 27) 6 C dX9_settles_27 rfl ?_
      refine r_icmpgeN (pc := 29) x1_1 6 101 C dX9_settles_29 (by decide) rfl rfl (by omega) (by omega) (fun _ => ?_) (fun c_2 => absurd (by omega) c_2)
      refine u_lv [(0, .ref zm)] [0] rfl ?_
      exact hX1 _ _ (by rw [← hV1]; first | rfl | (simp only [lX9_settles_26]; done) | (simp [lX9_settles_26]; done)) (by rw [← hV1]; first | rfl | (simp only [lX9_settles_26]; done) | (simp [lX9_settles_26]; done))
    | succ n ih =>
      intro x1_1 md0_1 so0_1 hr1 hV1
      refine r_iload_n (pc := 26) C dX9_settles_26 1 rfl ?_
      refine r_bipush (pc := 27) 6 C dX9_settles_27 rfl ?_
      refine r_icmpgeN (pc := 29) x1_1 6 101 C dX9_settles_29 (by decide) rfl rfl (by omega) (by omega) (fun c_3 => absurd c_3 (by omega)) (fun _ => ?_)
      refine r_aload_n (pc := 32) C dX9_settles_32 0 rfl ?_
      refine r_get (pc := 33) C fl_X9_16 dX9_settles_33 0 rfl rfl ?_
      refine r_iload_n (pc := 36) C dX9_settles_36 1 rfl ?_
      refine r_aload_n (pc := 37) C dX9_settles_37 0 rfl ?_
      refine r_get (pc := 38) C fl_X9_26 dX9_settles_38 0 rfl rfl ?_
      refine r_iload_n (pc := 41) C dX9_settles_41 1 rfl ?_
      refine r_iald (pc := 42) x1_1 C dX9_settles_42 4 rfl rfl (by omega) (by decide) ?_
      obtain ⟨md_4, e_md_4⟩ : ∃ z : Nat → Int32, z = upd md0_1 x1_1 (nD x1_1) := ⟨_, rfl⟩
      refine r_iast (pc := 43) x1_1 (fl [wMod g zm za1 za2 za3 za4 za5 za6 za7 za8 za9 zaa np nt nl md_4 np nt nl nP nS nD so0_1 ac mk mn mx nx mq mv wr ts sn sF sB sS mm]) C dX9_settles_43 1 rfl rfl (by omega) (by decide) (by rw [← e_md_4]; rfl) ?_
      refine r_aload_n (pc := 44) C dX9_settles_44 0 rfl ?_
      refine r_get (pc := 45) C fl_X9_29 dX9_settles_45 0 rfl rfl ?_
      refine r_iload_n (pc := 48) C dX9_settles_48 1 rfl ?_
      refine r_iload_n (pc := 49) C dX9_settles_49 1 rfl ?_
      refine r_aload_n (pc := 50) C dX9_settles_50 0 rfl ?_
      refine r_get (pc := 51) C fl_X9_108 dX9_settles_51 0 rfl rfl ?_
      have hJ_7 : ∀ (w_6 : Int32) , (w_6 = (if nt ≤ x1_1 then (0) else ((nP x1_1)))) → Vw g X 2 0 0 (fl [wMod g zm za1 za2 za3 za4 za5 za6 za7 za8 za9 zaa np nt nl md_4 np nt nl nP nS nD so0_1 ac mk mn mx nx mq mv wr ts sn sF sB sS mm]) 67 [(0, .ref zm), (1, .int (nI x1_1))] [.int w_6, .int (nI x1_1), .ref za5] := by
        intro w_6 e_w_6
        obtain ⟨so_8, e_so_8⟩ : ∃ z : Nat → Int32, z = upd so0_1 x1_1 w_6 := ⟨_, rfl⟩
        refine r_iast (pc := 67) x1_1 (fl [wMod g zm za1 za2 za3 za4 za5 za6 za7 za8 za9 zaa np nt nl md_4 np nt nl nP nS nD so_8 ac mk mn mx nx mq mv wr ts sn sF sB sS mm]) C dX9_settles_67 5 rfl rfl (by omega) (by decide) (by rw [← e_so_8]; rfl) ?_
        refine r_aload_n (pc := 68) C dX9_settles_68 0 rfl ?_
        refine r_get (pc := 69) C fl_X9_29 dX9_settles_69 0 rfl rfl ?_
        refine r_bipush (pc := 72) 6 C dX9_settles_72 rfl ?_
        refine r_iload_n (pc := 74) C dX9_settles_74 1 rfl ?_
        refine r_iaddN (pc := 75) 6 x1_1 C dX9_settles_75 rfl rfl ?_
        refine r_iload_n (pc := 76) C dX9_settles_76 1 rfl ?_
        refine r_aload_n (pc := 77) C dX9_settles_77 0 rfl ?_
        refine r_get (pc := 78) C fl_X9_108 dX9_settles_78 0 rfl rfl ?_
        have hJ_11 : ∀ (w_10 : Int32) , (w_10 = (if nt ≤ x1_1 then (0) else ((nS x1_1)))) → Vw g X 2 0 0 (fl [wMod g zm za1 za2 za3 za4 za5 za6 za7 za8 za9 zaa np nt nl md_4 np nt nl nP nS nD so_8 ac mk mn mx nx mq mv wr ts sn sF sB sS mm]) 94 [(0, .ref zm), (1, .int (nI x1_1))] [.int w_10, .int (nI (6 + x1_1)), .ref za5] := by
          intro w_10 e_w_10
          obtain ⟨so_12, e_so_12⟩ : ∃ z : Nat → Int32, z = upd so_8 (6 + x1_1) w_10 := ⟨_, rfl⟩
          refine r_iast (pc := 94) (6 + x1_1) (fl [wMod g zm za1 za2 za3 za4 za5 za6 za7 za8 za9 zaa np nt nl md_4 np nt nl nP nS nD so_12 ac mk mn mx nx mq mv wr ts sn sF sB sS mm]) C dX9_settles_94 5 rfl rfl (by omega) (by decide) (by rw [← e_so_12]; rfl) ?_
          refine r_iinc (pc := 95) (nI (x1_1 + 1)) [(1, .int (nI (x1_1 + 1))), (0, .ref zm)] C dX9_settles_95 1 rfl (inc1 _) (by decide) rfl ?_
          refine r_goto (pc := 98) 26 C dX9_settles_98 (by decide) ?_
          refine u_lv [(0, .ref zm), (1, .int (nI (x1_1 + 1)))] [1, 0] rfl ?_
          exact ih (x1_1 + 1) md_4 so_12 (by omega) (by rw [← hV1]; first | (simp only [lX9_settles_26, ← e_md_4, ← e_w_6, ← e_so_8, ← e_w_10, ← e_so_12]; done) | (subst e_md_4 e_w_6 e_so_8 e_w_10 e_so_12; rfl) | (subst e_md_4 e_w_6 e_so_8 e_w_10 e_so_12; simp only [lX9_settles_26]; done))
        refine r_icmpgeN (pc := 81) x1_1 nt 93 C dX9_settles_81 (by decide) rfl rfl (by omega) (by omega) (fun c_9 => ?_) (fun c_9 => ?_)
        · refine r_iconst (pc := 93) 0 C dX9_settles_93 rfl ?_
          exact hJ_11 _ (by first | (simp only [if_pos c_9]; done) | rfl | (simp [if_pos c_9]; done))
        · refine r_aload_n (pc := 84) C dX9_settles_84 0 rfl ?_
          refine r_get (pc := 85) C fl_X9_23 dX9_settles_85 0 rfl rfl ?_
          refine r_iload_n (pc := 88) C dX9_settles_88 1 rfl ?_
          refine r_iald (pc := 89) x1_1 C dX9_settles_89 3 rfl rfl (by omega) (by decide) ?_
          refine r_goto (pc := 90) 94 C dX9_settles_90 (by decide) ?_
          exact hJ_11 _ (by first | (simp only [if_neg c_9]; done) | rfl | (simp [if_neg c_9]; done))
      refine r_icmpgeN (pc := 54) x1_1 nt 66 C dX9_settles_54 (by decide) rfl rfl (by omega) (by omega) (fun c_5 => ?_) (fun c_5 => ?_)
      · refine r_iconst (pc := 66) 0 C dX9_settles_66 rfl ?_
        exact hJ_7 _ (by first | (simp only [if_pos c_5]; done) | rfl | (simp [if_pos c_5]; done))
      · refine r_aload_n (pc := 57) C dX9_settles_57 0 rfl ?_
        refine r_get (pc := 58) C fl_X9_20 dX9_settles_58 0 rfl rfl ?_
        refine r_iload_n (pc := 61) C dX9_settles_61 1 rfl ?_
        refine r_iald (pc := 62) x1_1 C dX9_settles_62 2 rfl rfl (by omega) (by decide) ?_
        refine r_goto (pc := 63) 67 C dX9_settles_63 (by decide) ?_
        exact hJ_7 _ (by first | (simp only [if_neg c_5]; done) | rfl | (simp [if_neg c_5]; done))
  refine u_lv [(0, .ref zm), (1, .int 0)] [1, 0] rfl ?_
  exact hL1 6 0 md so (by omega) rfl
theorem ctX9_settles (l : Launch) (g : Gl) (zm : Nat) (za1 : Nat) (za2 : Nat) (za3 : Nat) (za4 : Nat) (za5 : Nat) (za6 : Nat) (za7 : Nat) (za8 : Nat) (za9 : Nat) (zaa : Nat) (mp : Int32) (mt : Nat) (ml : Int32) (md : Nat → Int32) (np : Int32) (nt : Nat) (nl : Int32) (nP : Nat → Int32) (nS : Nat → Int32) (nD : Nat → Int32) (so : Nat → Int32) (ac : Nat) (mk : Nat → Int32) (mn : Nat) (mx : Nat → Int32) (nx : Nat) (mq : Nat) (mv : Int32) (wr : Int32) (ts : Int32) (sn : Nat) (sF : Nat → Int32) (sB : Nat → Int32) (sS : Nat → Int32) (mm : Int64) (q0 : nt ≤ 6) : CtV l g yX9_settles cX9_settles 2 0 [.ref zm] (fl [wMod g zm za1 za2 za3 za4 za5 za6 za7 za8 za9 zaa mp mt ml md np nt nl nP nS nD so ac mk mn mx nx mq mv wr ts sn sF sB sS mm]) (fl [wMod g zm za1 za2 za3 za4 za5 za6 za7 za8 za9 zaa ((fX9_settles md np nt nl nP nS nD so mk).1) ((fX9_settles md np nt nl nP nS nD so mk).2.1) ((fX9_settles md np nt nl nP nS nD so mk).2.2.1) ((fX9_settles md np nt nl nP nS nD so mk).2.2.2.1) np nt nl nP nS nD ((fX9_settles md np nt nl nP nS nD so mk).2.2.2.2.1) ((fX9_settles md np nt nl nP nS nD so mk).2.2.2.2.2.1) ((fX9_settles md np nt nl nP nS nD so mk).2.2.2.2.2.2.1) ((fX9_settles md np nt nl nP nS nD so mk).2.2.2.2.2.2.2.1) mx nx mq mv wr ts ((fX9_settles md np nt nl nP nS nD so mk).2.2.2.2.2.2.2.2) sF sB sS mm]) := mkV [(0, .ref zm)] (by decide) (Nat.le_of_ble_eq_true rfl) rfl (fun X C hR => bX9_settles C zm za1 za2 za3 za4 za5 za6 za7 za8 za9 zaa mp mt ml md np nt nl nP nS nD so ac mk mn mx nx mq mv wr ts sn sF sB sS mm q0 hR)
theorem letter_lt {mn : Nat} {mx : Nat → Int32} {i : Nat} (h : 0 ≤ fX9_letterAt mn mx i) : i < mn := by
  simp only [fX9_letterAt] at h
  split at h
  · exact absurd h (by decide)
  · omega
theorem in_48 {x : Int32} (h : ¬ fX9_in x.toInt64 48 57 = 0) : 0 ≤ x := by
  have h1 := (in_ne h).1
  rw [Int64.lt_iff_toInt_lt, Int32.toInt_toInt64] at h1
  rw [Int32.le_iff_toInt_le]
  have h2 : (48 : Int64).toInt = 48 := by decide
  have h3 : (0 : Int32).toInt = 0 := by decide
  omega
def trm (w : Int32) (a : Nat) : Nat := if w = 0 then a else 1
theorem trm_e {w : Int32} {a n : Nat} (c : w = 0) (h : trm w a ≤ n) : a ≤ n := by unfold trm at h; rw [if_pos c] at h; exact h
theorem trm_0 {w : Int32} {a n : Nat} (c : w = 0) (h : a ≤ n) : trm w a ≤ n := by unfold trm; rw [if_pos c]; exact h
theorem trm_1 {w : Int32} {a n : Nat} (c : ¬ w = 0) (h : 1 ≤ n) : trm w a ≤ n := by unfold trm; rw [if_neg c]; exact h
theorem trm_p {w : Int32} {a : Nat} (h : 1 ≤ a) : ¬ trm w a ≤ 0 := by unfold trm; split <;> omega

def lX9_token_0 (mn : Nat) (mx : Nat → Int32) : Nat → (Nat) → (Nat)
  | 0, nx0_1 => (nx0_1)
  | n + 1, nx0_1 => (let r_2 : Int32 := fX9_letterAt mn mx nx0_1; if r_2 = 32 then (lX9_token_0 mn mx n (nx0_1 + 1)) else (nx0_1))
def lX9_token_64 (mn : Nat) (mx : Nat → Int32) : Nat → (Nat) → (Nat) → (Int32) → (Nat) × (Nat) × (Int32)
  | 0, x2_19, nx0_19, mv0_19 => ((x2_19, nx0_19, mv0_19))
  | n + 1, x2_19, nx0_19, mv0_19 => (let r_20 : Int32 := fX9_letterAt mn mx nx0_19; let r_22 : Int32 := fX9_in (((r_20 : Int32)).toInt64) 48 57; if r_22 = 0 then ((x2_19, nx0_19, mv0_19)) else (let w_27 : Int32 := (if 2 ≤ x2_19 then (1000) else ((((10 * mv0_19) + r_20) - 48))); lX9_token_64 mn mx n (x2_19 + 1) (nx0_19 + 1) w_27))
def fX9_token (mn : Nat) (mx : Nat → Int32) (nx : Nat) (mv : Int32) : (Int32) × (Nat) × (Nat) × (Int32) := (let nx0_5 : Nat := lX9_token_0 mn mx (mn + 1 - nx) nx; let r_6 : Int32 := fX9_letterAt mn mx nx0_5; let r_8 : Int32 := fX9_in (((r_6 : Int32)).toInt64) 48 57; if r_8 = 0 then (let w_12 : Nat := (if 0 ≤ r_6 then (1) else (0)); if 0 ≤ r_6 then (if r_6 = 59 then ((2, (nx0_5 + w_12), nx0_5, mv)) else (if r_6 = 110 then ((r_6, (nx0_5 + w_12), nx0_5, mv)) else (if r_6 = 116 then ((r_6, (nx0_5 + w_12), nx0_5, mv)) else (if r_6 = 108 then ((r_6, (nx0_5 + w_12), nx0_5, mv)) else ((3, (nx0_5 + w_12), nx0_5, mv)))))) else ((4, (nx0_5 + w_12), nx0_5, mv))) else (let o19 := lX9_token_64 mn mx (mn + 1 - nx0_5) 0 nx0_5 0; let x2_29 : Nat := o19.1; let nx0_30 : Nat := o19.2.1; let mv0_31 : Int32 := o19.2.2; if x2_29 ≤ 1 then ((1, nx0_30, nx0_5, mv0_31)) else (if r_6 = 48 then ((1, nx0_30, nx0_5, 1000)) else ((1, nx0_30, nx0_5, mv0_31)))))
set_option maxHeartbeats 4000000 in
set_option maxRecDepth 100000 in
theorem bX9_token {l : Launch} {g : Gl} {X : Cx} (C : Ok l g X RX9 cX9_token 3 1) (zm : Nat) (za1 : Nat) (za2 : Nat) (za3 : Nat) (za4 : Nat) (za5 : Nat) (za6 : Nat) (za7 : Nat) (za8 : Nat) (za9 : Nat) (zaa : Nat) (mp : Int32) (mt : Nat) (ml : Int32) (md : Nat → Int32) (np : Int32) (nt : Nat) (nl : Int32) (nP : Nat → Int32) (nS : Nat → Int32) (nD : Nat → Int32) (so : Nat → Int32) (ac : Nat) (mk : Nat → Int32) (mn : Nat) (mx : Nat → Int32) (nx : Nat) (mq : Nat) (mv : Int32) (wr : Int32) (ts : Int32) (sn : Nat) (sF : Nat → Int32) (sB : Nat → Int32) (sS : Nat → Int32) (mm : Int64) (q0 : nx ≤ mn) (q1 : mn ≤ 120) (hR : RetI g X cX9_token 3 0 0 ((fX9_token mn mx nx mv).1) (fl [wMod g zm za1 za2 za3 za4 za5 za6 za7 za8 za9 zaa mp mt ml md np nt nl nP nS nD so ac mk mn mx ((fX9_token mn mx nx mv).2.1) ((fX9_token mn mx nx mv).2.2.1) ((fX9_token mn mx nx mv).2.2.2) wr ts sn sF sB sS mm])) : Vw g X 3 0 0 (fl [wMod g zm za1 za2 za3 za4 za5 za6 za7 za8 za9 zaa mp mt ml md np nt nl nP nS nD so ac mk mn mx nx mq mv wr ts sn sF sB sS mm]) 0 [(0, .ref zm)] [] := by
  have hX1 : ∀ (nx0_5 : Nat) , (nx0_5 = lX9_token_0 mn mx (mn + 1 - nx) nx) → (nx0_5 ≤ mn) → Vw g X 3 0 0 (fl [wMod g zm za1 za2 za3 za4 za5 za6 za7 za8 za9 zaa mp mt ml md np nt nl nP nS nD so ac mk mn mx nx0_5 mq mv wr ts sn sF sB sS mm]) 26 [(0, .ref zm)] [] := by
    intro nx0_5 e_nx0_5 hp1_0
    refine r_aload_n (pc := 26) C dX9_token_26 0 rfl ?_
    refine r_aload_n (pc := 27) C dX9_token_27 0 rfl ?_
    refine r_get (pc := 28) C fl_X9_57 dX9_token_28 0 rfl rfl ?_
    refine r_put (pc := 31) (fl [wMod g zm za1 za2 za3 za4 za5 za6 za7 za8 za9 zaa mp mt ml md np nt nl nP nS nD so ac mk mn mx nx0_5 nx0_5 mv wr ts sn sF sB sS mm]) C fp_X9_64 dX9_token_31 0 rfl (Nat.le_of_ble_eq_true rfl) rfl rfl rfl ?_
    refine r_aload_n (pc := 34) C dX9_token_34 0 rfl ?_
    refine r_aload_n (pc := 35) C dX9_token_35 0 rfl ?_
    refine r_get (pc := 36) C fl_X9_57 dX9_token_36 0 rfl rfl ?_
    obtain ⟨r_6, e_r_6⟩ : ∃ z : Int32, z = fX9_letterAt mn mx nx0_5 := ⟨_, rfl⟩
    have K_7 := ctX9_letterAt l g zm za1 za2 za3 za4 za5 za6 za7 za8 za9 zaa mp mt ml md np nt nl nP nS nD so ac mk mn mx nx0_5 nx0_5 mv wr ts sn sF sB sS mm nx0_5 (by omega) (by omega)
    rw [← e_r_6] at K_7
    refine w_pI (pc := 39) C mv_X9_60 K_7 dX9_token_39 (by decide) [0] rfl (by decide) 0 rfl rfl (Nat.le_of_ble_eq_true rfl) ⟨Nat.zero_le _, Nat.zero_le _⟩ ?_
    refine r_istore_n (pc := 42) [(1, .int r_6), (0, .ref zm)] C dX9_token_42 (by decide) rfl ?_
    refine r_iload_n (pc := 43) C dX9_token_43 0 rfl ?_
    refine r_i2l (pc := 44) C dX9_token_44 ?_
    refine r_ldc2 (pc := 45) C dX9_token_45 kl_X9_67 ?_
    refine r_ldc2 (pc := 48) C dX9_token_48 kl_X9_69 ?_
    obtain ⟨r_8, e_r_8⟩ : ∃ z : Int32, z = fX9_in (((r_6 : Int32)).toInt64) 48 57 := ⟨_, rfl⟩
    have K_9 := ctX9_in l g   (((r_6 : Int32)).toInt64) 48 57 
    rw [← e_r_8] at K_9
    refine x_pI (pc := 51) C ms_X9_50 K_9 dX9_token_51 (by decide) [] rfl (by decide) rfl (Nat.le_of_ble_eq_true rfl) ⟨Nat.zero_le _, Nat.zero_le _⟩ ?_
    refine r_ifeq (pc := 54) 162 C dX9_token_54 (by decide) (fun c_10 => ?_) (fun c_10 => ?_)
    · refine r_aload_n (pc := 162) C dX9_token_162 1 rfl ?_
      refine r_dup (pc := 163) C dX9_token_163 rfl ?_
      refine r_get (pc := 164) C fl_X9_57 dX9_token_164 0 rfl rfl ?_
      refine r_iload_n (pc := 167) C dX9_token_167 0 rfl ?_
      have hJ_13 : ∀ (w_12 : Nat) , (w_12 = (if 0 ≤ r_6 then (1) else (0))) → Vw g X 3 0 0 (fl [wMod g zm za1 za2 za3 za4 za5 za6 za7 za8 za9 zaa mp mt ml md np nt nl nP nS nD so ac mk mn mx nx0_5 nx0_5 mv wr ts sn sF sB sS mm]) 176 [(1, .int r_6)] [.int (nI w_12), .int (nI nx0_5), .ref zm] := by
        intro w_12 e_w_12
        have m_w_12 : w_12 = 1 ∨ w_12 = 0 := by rw [e_w_12]; (repeat' split) <;> simp
        refine r_iaddN (pc := 176) nx0_5 w_12 C dX9_token_176 rfl rfl ?_
        refine r_put (pc := 177) (fl [wMod g zm za1 za2 za3 za4 za5 za6 za7 za8 za9 zaa mp mt ml md np nt nl nP nS nD so ac mk mn mx (nx0_5 + w_12) nx0_5 mv wr ts sn sF sB sS mm]) C fp_X9_57 dX9_token_177 0 rfl (Nat.le_of_ble_eq_true rfl) rfl rfl rfl ?_
        refine r_iload_n (pc := 180) C dX9_token_180 0 rfl ?_
        refine r_ifge (pc := 181) 188 C dX9_token_181 (by decide) (fun c_14 => ?_) (fun c_14 => ?_)
        · refine r_iload_n (pc := 188) C dX9_token_188 0 rfl ?_
          refine r_bipush (pc := 189) 59 C dX9_token_189 rfl ?_
          refine r_icmpne (pc := 191) 198 C dX9_token_191 (by decide) (fun c_15 => ?_) (fun c_15 => ?_)
          · refine r_iload_n (pc := 198) C dX9_token_198 0 rfl ?_
            refine r_bipush (pc := 199) 110 C dX9_token_199 rfl ?_
            refine r_icmpeq (pc := 201) 216 C dX9_token_201 (by decide) (fun c_16 => ?_) (fun c_16 => ?_)
            · refine r_iload_n (pc := 216) C dX9_token_216 0 rfl ?_
              refine r_goto (pc := 217) 221 C dX9_token_217 (by decide) ?_
              have hf : fX9_token mn mx nx mv = (r_6, (nx0_5 + w_12), nx0_5, mv) := by first | (simp only [fX9_token, ← e_nx0_5, ← e_r_6, ← e_r_8, ← e_w_12, if_pos c_10, if_pos c_14, if_neg c_15, if_pos c_16]; done) | (subst e_nx0_5 e_r_6 e_r_8 e_w_12; simp only [fX9_token, if_pos c_10, if_pos c_14, if_neg c_15, if_pos c_16]; done) | (subst e_nx0_5 e_r_6 e_r_8 e_w_12; rfl) | (subst e_nx0_5 e_r_6 e_r_8 e_w_12; simp [fX9_token, if_pos c_10, if_pos c_14, if_neg c_15, if_pos c_16]; done)
              rw [hf] at hR
              exact hR _ _ dX9_token_221
            · refine r_iload_n (pc := 204) C dX9_token_204 0 rfl ?_
              refine r_bipush (pc := 205) 116 C dX9_token_205 rfl ?_
              refine r_icmpeq (pc := 207) 216 C dX9_token_207 (by decide) (fun c_17 => ?_) (fun c_17 => ?_)
              · refine r_iload_n (pc := 216) C dX9_token_216 0 rfl ?_
                refine r_goto (pc := 217) 221 C dX9_token_217 (by decide) ?_
                have hf : fX9_token mn mx nx mv = (r_6, (nx0_5 + w_12), nx0_5, mv) := by first | (simp only [fX9_token, ← e_nx0_5, ← e_r_6, ← e_r_8, ← e_w_12, if_pos c_10, if_pos c_14, if_neg c_15, if_neg c_16, if_pos c_17]; done) | (subst e_nx0_5 e_r_6 e_r_8 e_w_12; simp only [fX9_token, if_pos c_10, if_pos c_14, if_neg c_15, if_neg c_16, if_pos c_17]; done) | (subst e_nx0_5 e_r_6 e_r_8 e_w_12; rfl) | (subst e_nx0_5 e_r_6 e_r_8 e_w_12; simp [fX9_token, if_pos c_10, if_pos c_14, if_neg c_15, if_neg c_16, if_pos c_17]; done)
                rw [hf] at hR
                exact hR _ _ dX9_token_221
              · refine r_iload_n (pc := 210) C dX9_token_210 0 rfl ?_
                refine r_bipush (pc := 211) 108 C dX9_token_211 rfl ?_
                refine r_icmpne (pc := 213) 220 C dX9_token_213 (by decide) (fun c_18 => ?_) (fun c_18 => ?_)
                · refine r_iconst (pc := 220) 3 C dX9_token_220 rfl ?_
                  have hf : fX9_token mn mx nx mv = (3, (nx0_5 + w_12), nx0_5, mv) := by first | (simp only [fX9_token, ← e_nx0_5, ← e_r_6, ← e_r_8, ← e_w_12, if_pos c_10, if_pos c_14, if_neg c_15, if_neg c_16, if_neg c_17, if_neg c_18]; done) | (subst e_nx0_5 e_r_6 e_r_8 e_w_12; simp only [fX9_token, if_pos c_10, if_pos c_14, if_neg c_15, if_neg c_16, if_neg c_17, if_neg c_18]; done) | (subst e_nx0_5 e_r_6 e_r_8 e_w_12; rfl) | (subst e_nx0_5 e_r_6 e_r_8 e_w_12; simp [fX9_token, if_pos c_10, if_pos c_14, if_neg c_15, if_neg c_16, if_neg c_17, if_neg c_18]; done)
                  rw [hf] at hR
                  exact hR _ _ dX9_token_221
                · refine r_iload_n (pc := 216) C dX9_token_216 0 rfl ?_
                  refine r_goto (pc := 217) 221 C dX9_token_217 (by decide) ?_
                  have hf : fX9_token mn mx nx mv = (r_6, (nx0_5 + w_12), nx0_5, mv) := by first | (simp only [fX9_token, ← e_nx0_5, ← e_r_6, ← e_r_8, ← e_w_12, if_pos c_10, if_pos c_14, if_neg c_15, if_neg c_16, if_neg c_17, if_pos c_18]; done) | (subst e_nx0_5 e_r_6 e_r_8 e_w_12; simp only [fX9_token, if_pos c_10, if_pos c_14, if_neg c_15, if_neg c_16, if_neg c_17, if_pos c_18]; done) | (subst e_nx0_5 e_r_6 e_r_8 e_w_12; rfl) | (subst e_nx0_5 e_r_6 e_r_8 e_w_12; simp [fX9_token, if_pos c_10, if_pos c_14, if_neg c_15, if_neg c_16, if_neg c_17, if_pos c_18]; done)
                  rw [hf] at hR
                  exact hR _ _ dX9_token_221
          · refine r_iconst (pc := 194) 2 C dX9_token_194 rfl ?_
            refine r_goto (pc := 195) 221 C dX9_token_195 (by decide) ?_
            have hf : fX9_token mn mx nx mv = (2, (nx0_5 + w_12), nx0_5, mv) := by first | (simp only [fX9_token, ← e_nx0_5, ← e_r_6, ← e_r_8, ← e_w_12, if_pos c_10, if_pos c_14, if_pos c_15]; done) | (subst e_nx0_5 e_r_6 e_r_8 e_w_12; simp only [fX9_token, if_pos c_10, if_pos c_14, if_pos c_15]; done) | (subst e_nx0_5 e_r_6 e_r_8 e_w_12; rfl) | (subst e_nx0_5 e_r_6 e_r_8 e_w_12; simp [fX9_token, if_pos c_10, if_pos c_14, if_pos c_15]; done)
            rw [hf] at hR
            exact hR _ _ dX9_token_221
        · refine r_iconst (pc := 184) 4 C dX9_token_184 rfl ?_
          refine r_goto (pc := 185) 221 C dX9_token_185 (by decide) ?_
          have hf : fX9_token mn mx nx mv = (4, (nx0_5 + w_12), nx0_5, mv) := by first | (simp only [fX9_token, ← e_nx0_5, ← e_r_6, ← e_r_8, ← e_w_12, if_pos c_10, if_neg c_14]; done) | (subst e_nx0_5 e_r_6 e_r_8 e_w_12; simp only [fX9_token, if_pos c_10, if_neg c_14]; done) | (subst e_nx0_5 e_r_6 e_r_8 e_w_12; rfl) | (subst e_nx0_5 e_r_6 e_r_8 e_w_12; simp [fX9_token, if_pos c_10, if_neg c_14]; done)
          rw [hf] at hR
          exact hR _ _ dX9_token_221
      refine r_ifge (pc := 168) 175 C dX9_token_168 (by decide) (fun c_11 => ?_) (fun c_11 => ?_)
      · refine r_iconst (pc := 175) 1 C dX9_token_175 rfl ?_
        refine u_lv [(1, .int r_6)] [0] rfl ?_
        exact hJ_13 _ (by first | (simp only [if_pos c_11]; done) | rfl | (simp [if_pos c_11]; done))
      · refine r_iconst (pc := 171) 0 C dX9_token_171 rfl ?_
        refine r_goto (pc := 172) 176 C dX9_token_172 (by decide) ?_
        refine u_lv [(1, .int r_6)] [0] rfl ?_
        exact hJ_13 _ (by first | (simp only [if_neg c_11]; done) | rfl | (simp [if_neg c_11]; done))
    · refine r_iconst (pc := 57) 0 C dX9_token_57 rfl ?_
      refine r_istore_n (pc := 58) [(2, .int 0), (1, .int r_6), (0, .ref zm)] C dX9_token_58 (by decide) rfl ?_
      refine r_aload_n (pc := 59) C dX9_token_59 2 rfl ?_
      refine r_iconst (pc := 60) 0 C dX9_token_60 rfl ?_
      refine r_put (pc := 61) (fl [wMod g zm za1 za2 za3 za4 za5 za6 za7 za8 za9 zaa mp mt ml md np nt nl nP nS nD so ac mk mn mx nx0_5 nx0_5 0 wr ts sn sF sB sS mm]) C fp_X9_71 dX9_token_61 0 rfl (Nat.le_of_ble_eq_true rfl) rfl rfl rfl ?_
      have hX19 : ∀ (x2_29 : Nat) (nx0_30 : Nat) (mv0_31 : Int32) , (x2_29 = (lX9_token_64 mn mx (mn + 1 - nx0_5) 0 nx0_5 0).1) → (nx0_30 = (lX9_token_64 mn mx (mn + 1 - nx0_5) 0 nx0_5 0).2.1) → (mv0_31 = (lX9_token_64 mn mx (mn + 1 - nx0_5) 0 nx0_5 0).2.2) → (nx0_30 ≤ mn) → (x2_29 ≤ nx0_30) → Vw g X 3 0 0 (fl [wMod g zm za1 za2 za3 za4 za5 za6 za7 za8 za9 zaa mp mt ml md np nt nl nP nS nD so ac mk mn mx nx0_30 nx0_5 mv0_31 wr ts sn sF sB sS mm]) 135 [(0, .ref zm), (1, .int r_6), (2, .int (nI x2_29))] [] := by
        intro x2_29 nx0_30 mv0_31 e_x2_29 e_nx0_30 e_mv0_31 hp19_0 hp19_1
        refine r_aload_n (pc := 135) C dX9_token_135 0 rfl ?_
        refine r_iload_n (pc := 136) C dX9_token_136 2 rfl ?_
        refine r_iconst (pc := 137) 1 C dX9_token_137 rfl ?_
        refine r_icmpleN (pc := 138) x2_29 1 153 C dX9_token_138 (by decide) rfl rfl (by omega) (by omega) (fun c_32 => ?_) (fun c_32 => ?_)
        · refine r_aload_n (pc := 153) C dX9_token_153 0 rfl ?_
          refine r_get (pc := 154) C fl_X9_71 dX9_token_154 0 rfl rfl ?_
          refine r_put (pc := 157) (fl [wMod g zm za1 za2 za3 za4 za5 za6 za7 za8 za9 zaa mp mt ml md np nt nl nP nS nD so ac mk mn mx nx0_30 nx0_5 mv0_31 wr ts sn sF sB sS mm]) C fp_X9_71 dX9_token_157 0 rfl (Nat.le_of_ble_eq_true rfl) rfl rfl rfl ?_
          refine r_iconst (pc := 160) 1 C dX9_token_160 rfl ?_
          have hf : fX9_token mn mx nx mv = (1, nx0_30, nx0_5, mv0_31) := by first | (simp only [fX9_token, ← e_nx0_5, ← e_r_6, ← e_r_8, ← e_x2_29, ← e_nx0_30, ← e_mv0_31, if_neg c_10, if_pos c_32]; done) | (subst e_nx0_5 e_r_6 e_r_8 e_x2_29 e_nx0_30 e_mv0_31; simp only [fX9_token, if_neg c_10, if_pos c_32]; done) | (subst e_nx0_5 e_r_6 e_r_8 e_x2_29 e_nx0_30 e_mv0_31; rfl) | (subst e_nx0_5 e_r_6 e_r_8 e_x2_29 e_nx0_30 e_mv0_31; simp [fX9_token, if_neg c_10, if_pos c_32]; done)
          rw [hf] at hR
          exact hR _ _ dX9_token_161
        · refine r_iload_n (pc := 141) C dX9_token_141 1 rfl ?_
          refine r_bipush (pc := 142) 48 C dX9_token_142 rfl ?_
          refine r_icmpne (pc := 144) 153 C dX9_token_144 (by decide) (fun c_33 => ?_) (fun c_33 => ?_)
          · refine r_aload_n (pc := 153) C dX9_token_153 0 rfl ?_
            refine r_get (pc := 154) C fl_X9_71 dX9_token_154 0 rfl rfl ?_
            refine r_put (pc := 157) (fl [wMod g zm za1 za2 za3 za4 za5 za6 za7 za8 za9 zaa mp mt ml md np nt nl nP nS nD so ac mk mn mx nx0_30 nx0_5 mv0_31 wr ts sn sF sB sS mm]) C fp_X9_71 dX9_token_157 0 rfl (Nat.le_of_ble_eq_true rfl) rfl rfl rfl ?_
            refine r_iconst (pc := 160) 1 C dX9_token_160 rfl ?_
            have hf : fX9_token mn mx nx mv = (1, nx0_30, nx0_5, mv0_31) := by first | (simp only [fX9_token, ← e_nx0_5, ← e_r_6, ← e_r_8, ← e_x2_29, ← e_nx0_30, ← e_mv0_31, if_neg c_10, if_neg c_32, if_neg c_33]; done) | (subst e_nx0_5 e_r_6 e_r_8 e_x2_29 e_nx0_30 e_mv0_31; simp only [fX9_token, if_neg c_10, if_neg c_32, if_neg c_33]; done) | (subst e_nx0_5 e_r_6 e_r_8 e_x2_29 e_nx0_30 e_mv0_31; rfl) | (subst e_nx0_5 e_r_6 e_r_8 e_x2_29 e_nx0_30 e_mv0_31; simp [fX9_token, if_neg c_10, if_neg c_32, if_neg c_33]; done)
            rw [hf] at hR
            exact hR _ _ dX9_token_161
          · refine r_sipush (pc := 147) 1000 C dX9_token_147 rfl ?_
            refine r_goto (pc := 150) 157 C dX9_token_150 (by decide) ?_
            refine r_put (pc := 157) (fl [wMod g zm za1 za2 za3 za4 za5 za6 za7 za8 za9 zaa mp mt ml md np nt nl nP nS nD so ac mk mn mx nx0_30 nx0_5 1000 wr ts sn sF sB sS mm]) C fp_X9_71 dX9_token_157 0 rfl (Nat.le_of_ble_eq_true rfl) rfl rfl rfl ?_
            refine r_iconst (pc := 160) 1 C dX9_token_160 rfl ?_
            have hf : fX9_token mn mx nx mv = (1, nx0_30, nx0_5, 1000) := by first | (simp only [fX9_token, ← e_nx0_5, ← e_r_6, ← e_r_8, ← e_x2_29, ← e_nx0_30, ← e_mv0_31, if_neg c_10, if_neg c_32, if_pos c_33]; done) | (subst e_nx0_5 e_r_6 e_r_8 e_x2_29 e_nx0_30 e_mv0_31; simp only [fX9_token, if_neg c_10, if_neg c_32, if_pos c_33]; done) | (subst e_nx0_5 e_r_6 e_r_8 e_x2_29 e_nx0_30 e_mv0_31; rfl) | (subst e_nx0_5 e_r_6 e_r_8 e_x2_29 e_nx0_30 e_mv0_31; simp [fX9_token, if_neg c_10, if_neg c_32, if_pos c_33]; done)
            rw [hf] at hR
            exact hR _ _ dX9_token_161
      have hL19 : ∀ (n : Nat) (x2_19 : Nat) (nx0_19 : Nat) (mv0_19 : Int32) , (nx0_19 + n = mn + 1) → (nx0_19 ≤ mn) → (x2_19 ≤ nx0_19) → lX9_token_64 mn mx n x2_19 nx0_19 mv0_19 = lX9_token_64 mn mx (mn + 1 - nx0_5) 0 nx0_5 0 → Vw g X 3 0 0 (fl [wMod g zm za1 za2 za3 za4 za5 za6 za7 za8 za9 zaa mp mt ml md np nt nl nP nS nD so ac mk mn mx nx0_19 nx0_5 mv0_19 wr ts sn sF sB sS mm]) 64 [(0, .ref zm), (1, .int r_6), (2, .int (nI x2_19))] [] := by
        intro n
        induction n with
        | zero =>
          intro x2_19 nx0_19 mv0_19 hr19 hi19_0 hi19_1 hV19
          exact absurd hr19 (by omega)
        | succ n ih =>
          intro x2_19 nx0_19 mv0_19 hr19 hi19_0 hi19_1 hV19
          refine r_aload_n (pc := 64) C dX9_token_64 0 rfl ?_
          refine r_aload_n (pc := 65) C dX9_token_65 0 rfl ?_
          refine r_get (pc := 66) C fl_X9_57 dX9_token_66 0 rfl rfl ?_
          obtain ⟨r_20, e_r_20⟩ : ∃ z : Int32, z = fX9_letterAt mn mx nx0_19 := ⟨_, rfl⟩
          have K_21 := ctX9_letterAt l g zm za1 za2 za3 za4 za5 za6 za7 za8 za9 zaa mp mt ml md np nt nl nP nS nD so ac mk mn mx nx0_19 nx0_5 mv0_19 wr ts sn sF sB sS mm nx0_19 (by omega) (by omega)
          rw [← e_r_20] at K_21
          refine w_pI (pc := 69) C mv_X9_60 K_21 dX9_token_69 (by decide) [0] rfl (by decide) 0 rfl rfl (Nat.le_of_ble_eq_true rfl) ⟨Nat.zero_le _, Nat.zero_le _⟩ ?_
          refine r_i2l (pc := 72) C dX9_token_72 ?_
          refine r_ldc2 (pc := 73) C dX9_token_73 kl_X9_67 ?_
          refine r_ldc2 (pc := 76) C dX9_token_76 kl_X9_69 ?_
          obtain ⟨r_22, e_r_22⟩ : ∃ z : Int32, z = fX9_in (((r_20 : Int32)).toInt64) 48 57 := ⟨_, rfl⟩
          have K_23 := ctX9_in l g   (((r_20 : Int32)).toInt64) 48 57 
          rw [← e_r_22] at K_23
          refine x_pI (pc := 79) C ms_X9_50 K_23 dX9_token_79 (by decide) [] rfl (by decide) rfl (Nat.le_of_ble_eq_true rfl) ⟨Nat.zero_le _, Nat.zero_le _⟩ ?_
          refine r_ifeq (pc := 82) 135 C dX9_token_82 (by decide) (fun c_24 => ?_) (fun c_24 => ?_)
          · exact hX19 _ _ _ (by rw [← hV19]; first | (simp only [lX9_token_64, ← e_r_20, ← e_r_22, if_pos c_24]; done) | (subst e_r_20 e_r_22; simp only [lX9_token_64, if_pos c_24]; done) | (subst e_r_20 e_r_22; rfl) | (subst e_r_20 e_r_22; simp [lX9_token_64, if_pos c_24]; done)) (by rw [← hV19]; first | (simp only [lX9_token_64, ← e_r_20, ← e_r_22, if_pos c_24]; done) | (subst e_r_20 e_r_22; simp only [lX9_token_64, if_pos c_24]; done) | (subst e_r_20 e_r_22; rfl) | (subst e_r_20 e_r_22; simp [lX9_token_64, if_pos c_24]; done)) (by rw [← hV19]; first | (simp only [lX9_token_64, ← e_r_20, ← e_r_22, if_pos c_24]; done) | (subst e_r_20 e_r_22; simp only [lX9_token_64, if_pos c_24]; done) | (subst e_r_20 e_r_22; rfl) | (subst e_r_20 e_r_22; simp [lX9_token_64, if_pos c_24]; done)) (by omega) (by omega)
          · refine r_aload_n (pc := 85) C dX9_token_85 0 rfl ?_
            refine r_iload_n (pc := 86) C dX9_token_86 2 rfl ?_
            refine r_iconst (pc := 87) 2 C dX9_token_87 rfl ?_
            have hJ_28 : ∀ (w_27 : Int32) , (w_27 = (if 2 ≤ x2_19 then (1000) else ((((10 * mv0_19) + r_20) - 48)))) → Vw g X 3 0 0 (fl [wMod g zm za1 za2 za3 za4 za5 za6 za7 za8 za9 zaa mp mt ml md np nt nl nP nS nD so ac mk mn mx nx0_19 nx0_5 mv0_19 wr ts sn sF sB sS mm]) 116 [(0, .ref zm), (1, .int r_6), (2, .int (nI x2_19))] [.int w_27, .ref zm] := by
              intro w_27 e_w_27
              refine r_put (pc := 116) (fl [wMod g zm za1 za2 za3 za4 za5 za6 za7 za8 za9 zaa mp mt ml md np nt nl nP nS nD so ac mk mn mx nx0_19 nx0_5 w_27 wr ts sn sF sB sS mm]) C fp_X9_71 dX9_token_116 0 rfl (Nat.le_of_ble_eq_true rfl) rfl rfl rfl ?_
              refine r_iinc (pc := 119) (nI (x2_19 + 1)) [(2, .int (nI (x2_19 + 1))), (0, .ref zm), (1, .int r_6)] C dX9_token_119 2 rfl (inc1 _) (by decide) rfl ?_
              refine r_aload_n (pc := 122) C dX9_token_122 1 rfl ?_
              refine r_dup (pc := 123) C dX9_token_123 rfl ?_
              refine r_get (pc := 124) C fl_X9_57 dX9_token_124 0 rfl rfl ?_
              refine r_iconst (pc := 127) 1 C dX9_token_127 rfl ?_
              refine r_iaddN (pc := 128) nx0_19 1 C dX9_token_128 rfl rfl ?_
              refine r_put (pc := 129) (fl [wMod g zm za1 za2 za3 za4 za5 za6 za7 za8 za9 zaa mp mt ml md np nt nl nP nS nD so ac mk mn mx (nx0_19 + 1) nx0_5 w_27 wr ts sn sF sB sS mm]) C fp_X9_57 dX9_token_129 0 rfl (Nat.le_of_ble_eq_true rfl) rfl rfl rfl ?_
              refine r_goto (pc := 132) 64 C dX9_token_132 (by decide) ?_
              refine u_lv [(0, .ref zm), (1, .int r_6), (2, .int (nI (x2_19 + 1)))] [1, 2, 0] rfl ?_
              exact ih (x2_19 + 1) (nx0_19 + 1) w_27 (by omega) (letter_lt (by rw [← e_r_20]; exact in_48 (by rw [← e_r_22]; exact c_24))) (by omega) (by rw [← hV19]; first | (simp only [lX9_token_64, ← e_r_20, ← e_r_22, ← e_w_27, if_neg c_24]; done) | (subst e_r_20 e_r_22 e_w_27; simp only [lX9_token_64, if_neg c_24]; done) | (subst e_r_20 e_r_22 e_w_27; rfl) | (subst e_r_20 e_r_22 e_w_27; simp [lX9_token_64, if_neg c_24]; done))
            refine r_icmpgeN (pc := 88) x2_19 2 113 C dX9_token_88 (by decide) rfl rfl (by omega) (by omega) (fun c_25 => ?_) (fun c_25 => ?_)
            · refine r_sipush (pc := 113) 1000 C dX9_token_113 rfl ?_
              exact hJ_28 _ (by first | (simp only [if_pos c_25]; done) | rfl | (simp [if_pos c_25]; done))
            · refine r_bipush (pc := 91) 10 C dX9_token_91 rfl ?_
              refine r_aload_n (pc := 93) C dX9_token_93 0 rfl ?_
              refine r_get (pc := 94) C fl_X9_71 dX9_token_94 0 rfl rfl ?_
              refine r_imul (pc := 97) C dX9_token_97 ?_
              refine r_aload_n (pc := 98) C dX9_token_98 0 rfl ?_
              refine r_aload_n (pc := 99) C dX9_token_99 0 rfl ?_
              refine r_get (pc := 100) C fl_X9_57 dX9_token_100 0 rfl rfl ?_
              have K_26 := ctX9_letterAt l g zm za1 za2 za3 za4 za5 za6 za7 za8 za9 zaa mp mt ml md np nt nl nP nS nD so ac mk mn mx nx0_19 nx0_5 mv0_19 wr ts sn sF sB sS mm nx0_19 (by omega) (by omega)
              rw [← e_r_20] at K_26
              refine w_pI (pc := 103) C mv_X9_60 K_26 dX9_token_103 (by decide) [0] rfl (by decide) 0 rfl rfl (Nat.le_of_ble_eq_true rfl) ⟨Nat.zero_le _, Nat.zero_le _⟩ ?_
              refine r_iadd (pc := 106) C dX9_token_106 ?_
              refine r_bipush (pc := 107) 48 C dX9_token_107 rfl ?_
              refine r_isub (pc := 109) C dX9_token_109 ?_
              refine r_goto (pc := 110) 116 C dX9_token_110 (by decide) ?_
              exact hJ_28 _ (by first | (simp only [if_neg c_25]; done) | rfl | (simp [if_neg c_25]; done))
      refine u_lv [(0, .ref zm), (1, .int r_6), (2, .int 0)] [2, 1, 0] rfl ?_
      exact hL19 (mn + 1 - nx0_5) 0 nx0_5 0 (by omega) (by omega) (by omega) rfl
  have hL1 : ∀ (n : Nat) (nx0_1 : Nat) , (nx0_1 + n = mn + 1) → (nx0_1 ≤ mn) → lX9_token_0 mn mx n nx0_1 = lX9_token_0 mn mx (mn + 1 - nx) nx → Vw g X 3 0 0 (fl [wMod g zm za1 za2 za3 za4 za5 za6 za7 za8 za9 zaa mp mt ml md np nt nl nP nS nD so ac mk mn mx nx0_1 mq mv wr ts sn sF sB sS mm]) 0 [(0, .ref zm)] [] := by
    intro n
    induction n with
    | zero =>
      intro nx0_1 hr1 hi1_0 hV1
      exact absurd hr1 (by omega)
    | succ n ih =>
      intro nx0_1 hr1 hi1_0 hV1
      refine r_aload_n (pc := 0) C dX9_token_0 0 rfl ?_
      refine r_aload_n (pc := 1) C dX9_token_1 0 rfl ?_
      refine r_get (pc := 2) C fl_X9_57 dX9_token_2 0 rfl rfl ?_
      obtain ⟨r_2, e_r_2⟩ : ∃ z : Int32, z = fX9_letterAt mn mx nx0_1 := ⟨_, rfl⟩
      have K_3 := ctX9_letterAt l g zm za1 za2 za3 za4 za5 za6 za7 za8 za9 zaa mp mt ml md np nt nl nP nS nD so ac mk mn mx nx0_1 mq mv wr ts sn sF sB sS mm nx0_1 (by omega) (by omega)
      rw [← e_r_2] at K_3
      refine w_pI (pc := 5) C mv_X9_60 K_3 dX9_token_5 (by decide) [0] rfl (by decide) 0 rfl rfl (Nat.le_of_ble_eq_true rfl) ⟨Nat.zero_le _, Nat.zero_le _⟩ ?_
      refine r_bipush (pc := 8) 32 C dX9_token_8 rfl ?_
      refine r_icmpne (pc := 10) 26 C dX9_token_10 (by decide) (fun c_4 => ?_) (fun c_4 => ?_)
      · exact hX1 _ (by rw [← hV1]; first | (simp only [lX9_token_0, ← e_r_2, if_neg c_4]; done) | (subst e_r_2; simp only [lX9_token_0, if_neg c_4]; done) | (subst e_r_2; rfl) | (subst e_r_2; simp [lX9_token_0, if_neg c_4]; done)) (by omega)
      · refine r_aload_n (pc := 13) C dX9_token_13 0 rfl ?_
        refine r_dup (pc := 14) C dX9_token_14 rfl ?_
        refine r_get (pc := 15) C fl_X9_57 dX9_token_15 0 rfl rfl ?_
        refine r_iconst (pc := 18) 1 C dX9_token_18 rfl ?_
        refine r_iaddN (pc := 19) nx0_1 1 C dX9_token_19 rfl rfl ?_
        refine r_put (pc := 20) (fl [wMod g zm za1 za2 za3 za4 za5 za6 za7 za8 za9 zaa mp mt ml md np nt nl nP nS nD so ac mk mn mx (nx0_1 + 1) mq mv wr ts sn sF sB sS mm]) C fp_X9_57 dX9_token_20 0 rfl (Nat.le_of_ble_eq_true rfl) rfl rfl rfl ?_
        refine r_goto (pc := 23) 0 C dX9_token_23 (by decide) ?_
        exact ih (nx0_1 + 1) (by omega) (letter_lt (by rw [← e_r_2, c_4]; decide)) (by rw [← hV1]; first | (simp only [lX9_token_0, ← e_r_2, if_pos c_4]; done) | (subst e_r_2; simp only [lX9_token_0, if_pos c_4]; done) | (subst e_r_2; rfl) | (subst e_r_2; simp [lX9_token_0, if_pos c_4]; done))
  exact hL1 (mn + 1 - nx) nx (by omega) (by omega) rfl
theorem ctX9_token (l : Launch) (g : Gl) (zm : Nat) (za1 : Nat) (za2 : Nat) (za3 : Nat) (za4 : Nat) (za5 : Nat) (za6 : Nat) (za7 : Nat) (za8 : Nat) (za9 : Nat) (zaa : Nat) (mp : Int32) (mt : Nat) (ml : Int32) (md : Nat → Int32) (np : Int32) (nt : Nat) (nl : Int32) (nP : Nat → Int32) (nS : Nat → Int32) (nD : Nat → Int32) (so : Nat → Int32) (ac : Nat) (mk : Nat → Int32) (mn : Nat) (mx : Nat → Int32) (nx : Nat) (mq : Nat) (mv : Int32) (wr : Int32) (ts : Int32) (sn : Nat) (sF : Nat → Int32) (sB : Nat → Int32) (sS : Nat → Int32) (mm : Int64) (q0 : nx ≤ mn) (q1 : mn ≤ 120) : CtI l g yX9_token cX9_token 3 (some .int) 1 [.ref zm] (fl [wMod g zm za1 za2 za3 za4 za5 za6 za7 za8 za9 zaa mp mt ml md np nt nl nP nS nD so ac mk mn mx nx mq mv wr ts sn sF sB sS mm]) ((fX9_token mn mx nx mv).1) (fl [wMod g zm za1 za2 za3 za4 za5 za6 za7 za8 za9 zaa mp mt ml md np nt nl nP nS nD so ac mk mn mx ((fX9_token mn mx nx mv).2.1) ((fX9_token mn mx nx mv).2.2.1) ((fX9_token mn mx nx mv).2.2.2) wr ts sn sF sB sS mm]) := mkI .int rfl rfl [(0, .ref zm)] (by decide) (Nat.le_of_ble_eq_true rfl) rfl (fun X C hR => bX9_token C zm za1 za2 za3 za4 za5 za6 za7 za8 za9 zaa mp mt ml md np nt nl nP nS nD so ac mk mn mx nx mq mv wr ts sn sF sB sS mm q0 q1 hR)
theorem tk0_le (mn : Nat) (mx : Nat → Int32) : ∀ n i, i ≤ mn → lX9_token_0 mn mx n i ≤ mn
  | 0, i, h => h
  | n + 1, i, h => by
    simp only [lX9_token_0]
    split
    · rename_i c
      exact tk0_le mn mx n (i + 1) (letter_lt (by rw [c]; decide))
    · exact h
theorem tk0_ge (mn : Nat) (mx : Nat → Int32) : ∀ n i, i ≤ lX9_token_0 mn mx n i
  | 0, i => Nat.le_refl _
  | n + 1, i => by
    simp only [lX9_token_0]
    split
    · have := tk0_ge mn mx n (i + 1)
      omega
    · exact Nat.le_refl _
theorem tk64_le (mn : Nat) (mx : Nat → Int32) : ∀ n f i v, i ≤ mn → (lX9_token_64 mn mx n f i v).2.1 ≤ mn
  | 0, f, i, v, h => h
  | n + 1, f, i, v, h => by
    simp only [lX9_token_64]
    split
    · exact h
    · rename_i c
      exact tk64_le mn mx n _ (i + 1) _ (letter_lt (in_48 c))
theorem tk64_ge (mn : Nat) (mx : Nat → Int32) : ∀ n f i v, i ≤ (lX9_token_64 mn mx n f i v).2.1
  | 0, f, i, v => Nat.le_refl _
  | n + 1, f, i, v => by
    simp only [lX9_token_64]
    split
    · exact Nat.le_refl _
    · exact Nat.le_trans (Nat.le_succ i) (tk64_ge mn mx n _ (i + 1) _)
theorem token_le (mn : Nat) (mx : Nat → Int32) (nx : Nat) (mv : Int32) (h : nx ≤ mn) : (fX9_token mn mx nx mv).2.1 ≤ mn := by
  have h1 := tk0_le mn mx (mn + 1 - nx) nx h
  have h2 := tk64_le mn mx (mn + 1 - lX9_token_0 mn mx (mn + 1 - nx) nx) 0 _ 0 h1
  have h3 : ∀ w : Nat, w = (if 0 ≤ fX9_letterAt mn mx (lX9_token_0 mn mx (mn + 1 - nx) nx) then 1 else 0) → lX9_token_0 mn mx (mn + 1 - nx) nx + w ≤ mn := by
    intro w hw
    rw [hw]
    split
    · rename_i c
      exact letter_lt c
    · exact h1
  simp only [fX9_token]
  split
  · have h4 := h3 _ rfl
    repeat' split
    all_goals first | exact h4 | (simp only [*] at h4; exact h4) | (simpa [*] using h4)
  · repeat' split
    all_goals exact h2
theorem token_ge (mn : Nat) (mx : Nat → Int32) (nx : Nat) (mv : Int32) : nx ≤ (fX9_token mn mx nx mv).2.1 := by
  have h1 := tk0_ge mn mx (mn + 1 - nx) nx
  have h2 := tk64_ge mn mx (mn + 1 - lX9_token_0 mn mx (mn + 1 - nx) nx) 0 (lX9_token_0 mn mx (mn + 1 - nx) nx) 0
  simp only [fX9_token]
  repeat' split
  all_goals first | (show nx ≤ _ + _; omega) | exact Nat.le_trans h1 h2
theorem token_2 (mn : Nat) (mx : Nat → Int32) (nx : Nat) (mv : Int32) (h : (fX9_token mn mx nx mv).1 = 2) : nx + 1 ≤ (fX9_token mn mx nx mv).2.1 := by
  have h1 := tk0_ge mn mx (mn + 1 - nx) nx
  simp only [fX9_token] at h ⊢
  by_cases c1 : fX9_in (fX9_letterAt mn mx (lX9_token_0 mn mx (mn + 1 - nx) nx)).toInt64 48 57 = 0
  · simp only [if_pos c1] at h ⊢
    by_cases c2 : 0 ≤ fX9_letterAt mn mx (lX9_token_0 mn mx (mn + 1 - nx) nx)
    · simp only [if_pos c2] at h ⊢
      repeat' split
      all_goals (show nx + 1 ≤ _ + 1; omega)
    · simp only [if_neg c2] at h
      exact absurd h (by decide)
  · simp only [if_neg c1] at h
    exfalso
    revert h
    repeat' split
    all_goals exact fun h => absurd (show (1 : Int32) = 2 from h) (by decide)

def fX9_wants (mn : Nat) (mx : Nat → Int32) (nx : Nat) (mq : Nat) (mv : Int32) (wr : Int32) (a1 : Int32) (a2 : Int32) : (Int32) × (Nat) × (Nat) × (Int32) × (Int32) := (let J_15 := (if wr = 0 then (let r_2 : Int32 := (fX9_token mn mx nx mv).1; let nx_3 : Nat := (fX9_token mn mx nx mv).2.1; let mq_4 : Nat := (fX9_token mn mx nx mv).2.2.1; let mv_5 : Int32 := (fX9_token mn mx nx mv).2.2.2; if r_2 = 1 then (let r_8 : Int32 := fX9_in (((mv_5 : Int32)).toInt64) (((a1 : Int32)).toInt64) (((a2 : Int32)).toInt64); if r_8 = 0 then ((0, nx_3, mq_4, mv_5)) else ((1, nx_3, mq_4, mv_5))) else ((0, nx_3, mq_4, mv_5))) else ((0, nx, mq, mv)) : (Int32) × (Nat) × (Nat) × (Int32)); let w_11 : Int32 := J_15.1; let nx_12 : Nat := J_15.2.1; let mq_13 : Nat := J_15.2.2.1; let mv_14 : Int32 := J_15.2.2.2; let w_18 : Int32 := (if wr = 0 then (if w_11 = 0 then (1) else (0)) else (1)); if w_11 = 0 then ((0, nx_12, mq_13, mv_14, w_18)) else ((mv_14, nx_12, mq_13, mv_14, w_18)))
set_option maxHeartbeats 4000000 in
set_option maxRecDepth 100000 in
theorem bX9_wants {l : Launch} {g : Gl} {X : Cx} (C : Ok l g X RX9 cX9_wants 4 2) (zm : Nat) (za1 : Nat) (za2 : Nat) (za3 : Nat) (za4 : Nat) (za5 : Nat) (za6 : Nat) (za7 : Nat) (za8 : Nat) (za9 : Nat) (zaa : Nat) (mp : Int32) (mt : Nat) (ml : Int32) (md : Nat → Int32) (np : Int32) (nt : Nat) (nl : Int32) (nP : Nat → Int32) (nS : Nat → Int32) (nD : Nat → Int32) (so : Nat → Int32) (ac : Nat) (mk : Nat → Int32) (mn : Nat) (mx : Nat → Int32) (nx : Nat) (mq : Nat) (mv : Int32) (wr : Int32) (ts : Int32) (sn : Nat) (sF : Nat → Int32) (sB : Nat → Int32) (sS : Nat → Int32) (mm : Int64) (a1 : Int32) (a2 : Int32) (q0 : nx ≤ mn) (q1 : mn ≤ 120) (hR : RetI g X cX9_wants 4 0 0 ((fX9_wants mn mx nx mq mv wr a1 a2).1) (fl [wMod g zm za1 za2 za3 za4 za5 za6 za7 za8 za9 zaa mp mt ml md np nt nl nP nS nD so ac mk mn mx ((fX9_wants mn mx nx mq mv wr a1 a2).2.1) ((fX9_wants mn mx nx mq mv wr a1 a2).2.2.1) ((fX9_wants mn mx nx mq mv wr a1 a2).2.2.2.1) ((fX9_wants mn mx nx mq mv wr a1 a2).2.2.2.2) ts sn sF sB sS mm])) : Vw g X 4 0 0 (fl [wMod g zm za1 za2 za3 za4 za5 za6 za7 za8 za9 zaa mp mt ml md np nt nl nP nS nD so ac mk mn mx nx mq mv wr ts sn sF sB sS mm]) 0 [(0, .ref zm), (1, .int a1), (2, .int a2)] [] := by
  refine r_aload_n (pc := 0) C dX9_wants_0 0 rfl ?_
  refine r_get (pc := 1) C fl_X9_74 dX9_wants_1 0 rfl rfl ?_
  have hJ_15 : ∀ (w_11 : Int32) (nx_12 : Nat) (mq_13 : Nat) (mv_14 : Int32) , (w_11 = (if wr = 0 then (let r_2 : Int32 := (fX9_token mn mx nx mv).1; let nx_3 : Nat := (fX9_token mn mx nx mv).2.1; let mq_4 : Nat := (fX9_token mn mx nx mv).2.2.1; let mv_5 : Int32 := (fX9_token mn mx nx mv).2.2.2; if r_2 = 1 then (let r_8 : Int32 := fX9_in (((mv_5 : Int32)).toInt64) (((a1 : Int32)).toInt64) (((a2 : Int32)).toInt64); if r_8 = 0 then ((0, nx_3, mq_4, mv_5)) else ((1, nx_3, mq_4, mv_5))) else ((0, nx_3, mq_4, mv_5))) else ((0, nx, mq, mv)) : (Int32) × (Nat) × (Nat) × (Int32)).1) → (nx_12 = (if wr = 0 then (let r_2 : Int32 := (fX9_token mn mx nx mv).1; let nx_3 : Nat := (fX9_token mn mx nx mv).2.1; let mq_4 : Nat := (fX9_token mn mx nx mv).2.2.1; let mv_5 : Int32 := (fX9_token mn mx nx mv).2.2.2; if r_2 = 1 then (let r_8 : Int32 := fX9_in (((mv_5 : Int32)).toInt64) (((a1 : Int32)).toInt64) (((a2 : Int32)).toInt64); if r_8 = 0 then ((0, nx_3, mq_4, mv_5)) else ((1, nx_3, mq_4, mv_5))) else ((0, nx_3, mq_4, mv_5))) else ((0, nx, mq, mv)) : (Int32) × (Nat) × (Nat) × (Int32)).2.1) → (mq_13 = (if wr = 0 then (let r_2 : Int32 := (fX9_token mn mx nx mv).1; let nx_3 : Nat := (fX9_token mn mx nx mv).2.1; let mq_4 : Nat := (fX9_token mn mx nx mv).2.2.1; let mv_5 : Int32 := (fX9_token mn mx nx mv).2.2.2; if r_2 = 1 then (let r_8 : Int32 := fX9_in (((mv_5 : Int32)).toInt64) (((a1 : Int32)).toInt64) (((a2 : Int32)).toInt64); if r_8 = 0 then ((0, nx_3, mq_4, mv_5)) else ((1, nx_3, mq_4, mv_5))) else ((0, nx_3, mq_4, mv_5))) else ((0, nx, mq, mv)) : (Int32) × (Nat) × (Nat) × (Int32)).2.2.1) → (mv_14 = (if wr = 0 then (let r_2 : Int32 := (fX9_token mn mx nx mv).1; let nx_3 : Nat := (fX9_token mn mx nx mv).2.1; let mq_4 : Nat := (fX9_token mn mx nx mv).2.2.1; let mv_5 : Int32 := (fX9_token mn mx nx mv).2.2.2; if r_2 = 1 then (let r_8 : Int32 := fX9_in (((mv_5 : Int32)).toInt64) (((a1 : Int32)).toInt64) (((a2 : Int32)).toInt64); if r_8 = 0 then ((0, nx_3, mq_4, mv_5)) else ((1, nx_3, mq_4, mv_5))) else ((0, nx_3, mq_4, mv_5))) else ((0, nx, mq, mv)) : (Int32) × (Nat) × (Nat) × (Int32)).2.2.2) → (nx_12 ≤ mn) → Vw g X 4 0 0 (fl [wMod g zm za1 za2 za3 za4 za5 za6 za7 za8 za9 zaa mp mt ml md np nt nl nP nS nD so ac mk mn mx nx_12 mq_13 mv_14 wr ts sn sF sB sS mm]) 35 [(0, .ref zm)] [.int w_11] := by
    intro w_11 nx_12 mq_13 mv_14 e_w_11 e_nx_12 e_mq_13 e_mv_14 fJ_15_0
    refine r_istore_n (pc := 35) [(3, .int w_11), (0, .ref zm)] C dX9_wants_35 (by decide) rfl ?_
    refine r_aload_n (pc := 36) C dX9_wants_36 1 rfl ?_
    refine r_aload_n (pc := 37) C dX9_wants_37 1 rfl ?_
    refine r_get (pc := 38) C fl_X9_74 dX9_wants_38 0 rfl rfl ?_
    have hJ_19 : ∀ (w_18 : Int32) , (w_18 = (if wr = 0 then (if w_11 = 0 then (1) else (0)) else (1))) → (nx_12 ≤ mn) → Vw g X 4 0 0 (fl [wMod g zm za1 za2 za3 za4 za5 za6 za7 za8 za9 zaa mp mt ml md np nt nl nP nS nD so ac mk mn mx nx_12 mq_13 mv_14 wr ts sn sF sB sS mm]) 53 [(0, .ref zm), (3, .int w_11)] [.int w_18, .ref zm] := by
      intro w_18 e_w_18 fJ_19_0
      have m_w_18 : w_18 = 0 ∨ w_18 = 1 := by rw [e_w_18]; (repeat' split) <;> simp
      refine r_put (pc := 53) (fl [wMod g zm za1 za2 za3 za4 za5 za6 za7 za8 za9 zaa mp mt ml md np nt nl nP nS nD so ac mk mn mx nx_12 mq_13 mv_14 w_18 ts sn sF sB sS mm]) C fp_X9_74 dX9_wants_53 0 rfl (Nat.le_of_ble_eq_true rfl) (nar_b m_w_18) (fit_b m_w_18) rfl ?_
      refine r_iload_n (pc := 56) C dX9_wants_56 1 rfl ?_
      refine r_ifeq (pc := 57) 67 C dX9_wants_57 (by decide) (fun c_20 => ?_) (fun c_20 => ?_)
      · refine r_iconst (pc := 67) 0 C dX9_wants_67 rfl ?_
        have hf : fX9_wants mn mx nx mq mv wr a1 a2 = (0, nx_12, mq_13, mv_14, w_18) := by first | (simp only [fX9_wants, ← e_w_11, ← e_nx_12, ← e_mq_13, ← e_mv_14, ← e_w_18, if_pos c_20]; done) | (subst e_w_11 e_nx_12 e_mq_13 e_mv_14 e_w_18; simp only [fX9_wants, if_pos c_20]; done) | (subst e_w_11 e_nx_12 e_mq_13 e_mv_14 e_w_18; rfl) | (subst e_w_11 e_nx_12 e_mq_13 e_mv_14 e_w_18; simp [fX9_wants, if_pos c_20]; done)
        rw [hf] at hR
        exact hR _ _ dX9_wants_68
      · refine r_aload_n (pc := 60) C dX9_wants_60 0 rfl ?_
        refine r_get (pc := 61) C fl_X9_71 dX9_wants_61 0 rfl rfl ?_
        refine r_goto (pc := 64) 68 C dX9_wants_64 (by decide) ?_
        have hf : fX9_wants mn mx nx mq mv wr a1 a2 = (mv_14, nx_12, mq_13, mv_14, w_18) := by first | (simp only [fX9_wants, ← e_w_11, ← e_nx_12, ← e_mq_13, ← e_mv_14, ← e_w_18, if_neg c_20]; done) | (subst e_w_11 e_nx_12 e_mq_13 e_mv_14 e_w_18; simp only [fX9_wants, if_neg c_20]; done) | (subst e_w_11 e_nx_12 e_mq_13 e_mv_14 e_w_18; rfl) | (subst e_w_11 e_nx_12 e_mq_13 e_mv_14 e_w_18; simp [fX9_wants, if_neg c_20]; done)
        rw [hf] at hR
        exact hR _ _ dX9_wants_68
    refine r_ifne (pc := 41) 48 C dX9_wants_41 (by decide) (fun c_16 => ?_) (fun c_16 => ?_)
    · refine r_iconst (pc := 48) 1 C dX9_wants_48 rfl ?_
      refine r_goto (pc := 49) 53 C dX9_wants_49 (by decide) ?_
      refine u_lv [(0, .ref zm), (3, .int w_11)] [1, 0] rfl ?_
      exact hJ_19 _ (by first | (simp only [if_neg c_16]; done) | rfl | (simp [if_neg c_16]; done)) (by omega)
    · refine r_iload_n (pc := 44) C dX9_wants_44 0 rfl ?_
      refine r_ifne (pc := 45) 52 C dX9_wants_45 (by decide) (fun c_17 => ?_) (fun c_17 => ?_)
      · refine r_iconst (pc := 52) 0 C dX9_wants_52 rfl ?_
        refine u_lv [(0, .ref zm), (3, .int w_11)] [1, 0] rfl ?_
        exact hJ_19 _ (by first | (simp only [if_pos c_16, if_neg c_17]; done) | rfl | (simp [if_pos c_16, if_neg c_17]; done)) (by omega)
      · refine r_iconst (pc := 48) 1 C dX9_wants_48 rfl ?_
        refine r_goto (pc := 49) 53 C dX9_wants_49 (by decide) ?_
        refine u_lv [(0, .ref zm), (3, .int w_11)] [1, 0] rfl ?_
        exact hJ_19 _ (by first | (simp only [if_pos c_16, if_pos c_17]; done) | rfl | (simp [if_pos c_16, if_pos c_17]; done)) (by omega)
  refine r_ifne (pc := 4) 34 C dX9_wants_4 (by decide) (fun c_1 => ?_) (fun c_1 => ?_)
  · refine r_iconst (pc := 34) 0 C dX9_wants_34 rfl ?_
    refine u_lv [(0, .ref zm)] [0] rfl ?_
    exact hJ_15 _ _ _ _ (by first | (simp only [if_neg c_1]; done) | rfl | (simp [if_neg c_1]; done)) (by first | (simp only [if_neg c_1]; done) | rfl | (simp [if_neg c_1]; done)) (by first | (simp only [if_neg c_1]; done) | rfl | (simp [if_neg c_1]; done)) (by first | (simp only [if_neg c_1]; done) | rfl | (simp [if_neg c_1]; done)) (by omega)
  · refine r_aload_n (pc := 7) C dX9_wants_7 0 rfl ?_
    obtain ⟨r_2, e_r_2⟩ : ∃ z : Int32, z = (fX9_token mn mx nx mv).1 := ⟨_, rfl⟩
    obtain ⟨nx_3, e_nx_3⟩ : ∃ z : Nat, z = (fX9_token mn mx nx mv).2.1 := ⟨_, rfl⟩
    obtain ⟨mq_4, e_mq_4⟩ : ∃ z : Nat, z = (fX9_token mn mx nx mv).2.2.1 := ⟨_, rfl⟩
    obtain ⟨mv_5, e_mv_5⟩ : ∃ z : Int32, z = (fX9_token mn mx nx mv).2.2.2 := ⟨_, rfl⟩
    have K_6 := ctX9_token l g zm za1 za2 za3 za4 za5 za6 za7 za8 za9 zaa mp mt ml md np nt nl nP nS nD so ac mk mn mx nx mq mv wr ts sn sF sB sS mm  (by omega) (by omega)
    rw [← e_r_2, ← e_nx_3, ← e_mq_4, ← e_mv_5] at K_6
    refine w_cI (pc := 8) [wMod g zm za1 za2 za3 za4 za5 za6 za7 za8 za9 zaa mp mt ml md np nt nl nP nS nD so ac mk mn mx nx_3 mq_4 mv_5 wr ts sn sF sB sS mm] C mv_X9_78 K_6 dX9_wants_8 (by decide) [0] rfl (by decide) (by simp only [List.map_cons, List.map_nil, adMod]) rfl 0 rfl rfl (Nat.le_of_ble_eq_true rfl) ⟨Nat.zero_le _, Nat.zero_le _⟩ ?_
    have po0_8 : nx_3 ≤ mn := by rw [e_nx_3]; exact token_le mn mx nx mv (by omega)
    have po1_8 : nx ≤ nx_3 := by rw [e_nx_3]; exact token_ge mn mx nx mv
    refine r_iconst (pc := 11) 1 C dX9_wants_11 rfl ?_
    refine r_icmpne (pc := 12) 34 C dX9_wants_12 (by decide) (fun c_7 => ?_) (fun c_7 => ?_)
    · refine r_iconst (pc := 34) 0 C dX9_wants_34 rfl ?_
      refine u_lv [(0, .ref zm)] [0] rfl ?_
      exact hJ_15 _ _ _ _ (by first | (simp only [← e_r_2, ← e_nx_3, ← e_mq_4, ← e_mv_5, if_pos c_1, if_neg c_7]; done) | (subst e_r_2 e_nx_3 e_mq_4 e_mv_5; simp only [if_pos c_1, if_neg c_7]; done) | (subst e_r_2 e_nx_3 e_mq_4 e_mv_5; rfl) | (subst e_r_2 e_nx_3 e_mq_4 e_mv_5; simp [if_pos c_1, if_neg c_7]; done)) (by first | (simp only [← e_r_2, ← e_nx_3, ← e_mq_4, ← e_mv_5, if_pos c_1, if_neg c_7]; done) | (subst e_r_2 e_nx_3 e_mq_4 e_mv_5; simp only [if_pos c_1, if_neg c_7]; done) | (subst e_r_2 e_nx_3 e_mq_4 e_mv_5; rfl) | (subst e_r_2 e_nx_3 e_mq_4 e_mv_5; simp [if_pos c_1, if_neg c_7]; done)) (by first | (simp only [← e_r_2, ← e_nx_3, ← e_mq_4, ← e_mv_5, if_pos c_1, if_neg c_7]; done) | (subst e_r_2 e_nx_3 e_mq_4 e_mv_5; simp only [if_pos c_1, if_neg c_7]; done) | (subst e_r_2 e_nx_3 e_mq_4 e_mv_5; rfl) | (subst e_r_2 e_nx_3 e_mq_4 e_mv_5; simp [if_pos c_1, if_neg c_7]; done)) (by first | (simp only [← e_r_2, ← e_nx_3, ← e_mq_4, ← e_mv_5, if_pos c_1, if_neg c_7]; done) | (subst e_r_2 e_nx_3 e_mq_4 e_mv_5; simp only [if_pos c_1, if_neg c_7]; done) | (subst e_r_2 e_nx_3 e_mq_4 e_mv_5; rfl) | (subst e_r_2 e_nx_3 e_mq_4 e_mv_5; simp [if_pos c_1, if_neg c_7]; done)) (by omega)
    · refine r_aload_n (pc := 15) C dX9_wants_15 0 rfl ?_
      refine r_get (pc := 16) C fl_X9_71 dX9_wants_16 0 rfl rfl ?_
      refine r_i2l (pc := 19) C dX9_wants_19 ?_
      refine r_iload_n (pc := 20) C dX9_wants_20 1 rfl ?_
      refine r_i2l (pc := 21) C dX9_wants_21 ?_
      refine r_iload_n (pc := 22) C dX9_wants_22 2 rfl ?_
      refine r_i2l (pc := 23) C dX9_wants_23 ?_
      obtain ⟨r_8, e_r_8⟩ : ∃ z : Int32, z = fX9_in (((mv_5 : Int32)).toInt64) (((a1 : Int32)).toInt64) (((a2 : Int32)).toInt64) := ⟨_, rfl⟩
      have K_9 := ctX9_in l g   (((mv_5 : Int32)).toInt64) (((a1 : Int32)).toInt64) (((a2 : Int32)).toInt64) 
      rw [← e_r_8] at K_9
      refine x_pI (pc := 24) C ms_X9_50 K_9 dX9_wants_24 (by decide) [] rfl (by decide) rfl (Nat.le_of_ble_eq_true rfl) ⟨Nat.zero_le _, Nat.zero_le _⟩ ?_
      refine r_ifeq (pc := 27) 34 C dX9_wants_27 (by decide) (fun c_10 => ?_) (fun c_10 => ?_)
      · refine r_iconst (pc := 34) 0 C dX9_wants_34 rfl ?_
        refine u_lv [(0, .ref zm)] [0] rfl ?_
        exact hJ_15 _ _ _ _ (by first | (simp only [← e_r_2, ← e_nx_3, ← e_mq_4, ← e_mv_5, ← e_r_8, if_pos c_1, if_pos c_7, if_pos c_10]; done) | (subst e_r_2 e_nx_3 e_mq_4 e_mv_5 e_r_8; simp only [if_pos c_1, if_pos c_7, if_pos c_10]; done) | (subst e_r_2 e_nx_3 e_mq_4 e_mv_5 e_r_8; rfl) | (subst e_r_2 e_nx_3 e_mq_4 e_mv_5 e_r_8; simp [if_pos c_1, if_pos c_7, if_pos c_10]; done)) (by first | (simp only [← e_r_2, ← e_nx_3, ← e_mq_4, ← e_mv_5, ← e_r_8, if_pos c_1, if_pos c_7, if_pos c_10]; done) | (subst e_r_2 e_nx_3 e_mq_4 e_mv_5 e_r_8; simp only [if_pos c_1, if_pos c_7, if_pos c_10]; done) | (subst e_r_2 e_nx_3 e_mq_4 e_mv_5 e_r_8; rfl) | (subst e_r_2 e_nx_3 e_mq_4 e_mv_5 e_r_8; simp [if_pos c_1, if_pos c_7, if_pos c_10]; done)) (by first | (simp only [← e_r_2, ← e_nx_3, ← e_mq_4, ← e_mv_5, ← e_r_8, if_pos c_1, if_pos c_7, if_pos c_10]; done) | (subst e_r_2 e_nx_3 e_mq_4 e_mv_5 e_r_8; simp only [if_pos c_1, if_pos c_7, if_pos c_10]; done) | (subst e_r_2 e_nx_3 e_mq_4 e_mv_5 e_r_8; rfl) | (subst e_r_2 e_nx_3 e_mq_4 e_mv_5 e_r_8; simp [if_pos c_1, if_pos c_7, if_pos c_10]; done)) (by first | (simp only [← e_r_2, ← e_nx_3, ← e_mq_4, ← e_mv_5, ← e_r_8, if_pos c_1, if_pos c_7, if_pos c_10]; done) | (subst e_r_2 e_nx_3 e_mq_4 e_mv_5 e_r_8; simp only [if_pos c_1, if_pos c_7, if_pos c_10]; done) | (subst e_r_2 e_nx_3 e_mq_4 e_mv_5 e_r_8; rfl) | (subst e_r_2 e_nx_3 e_mq_4 e_mv_5 e_r_8; simp [if_pos c_1, if_pos c_7, if_pos c_10]; done)) (by omega)
      · refine r_iconst (pc := 30) 1 C dX9_wants_30 rfl ?_
        refine r_goto (pc := 31) 35 C dX9_wants_31 (by decide) ?_
        refine u_lv [(0, .ref zm)] [0] rfl ?_
        exact hJ_15 _ _ _ _ (by first | (simp only [← e_r_2, ← e_nx_3, ← e_mq_4, ← e_mv_5, ← e_r_8, if_pos c_1, if_pos c_7, if_neg c_10]; done) | (subst e_r_2 e_nx_3 e_mq_4 e_mv_5 e_r_8; simp only [if_pos c_1, if_pos c_7, if_neg c_10]; done) | (subst e_r_2 e_nx_3 e_mq_4 e_mv_5 e_r_8; rfl) | (subst e_r_2 e_nx_3 e_mq_4 e_mv_5 e_r_8; simp [if_pos c_1, if_pos c_7, if_neg c_10]; done)) (by first | (simp only [← e_r_2, ← e_nx_3, ← e_mq_4, ← e_mv_5, ← e_r_8, if_pos c_1, if_pos c_7, if_neg c_10]; done) | (subst e_r_2 e_nx_3 e_mq_4 e_mv_5 e_r_8; simp only [if_pos c_1, if_pos c_7, if_neg c_10]; done) | (subst e_r_2 e_nx_3 e_mq_4 e_mv_5 e_r_8; rfl) | (subst e_r_2 e_nx_3 e_mq_4 e_mv_5 e_r_8; simp [if_pos c_1, if_pos c_7, if_neg c_10]; done)) (by first | (simp only [← e_r_2, ← e_nx_3, ← e_mq_4, ← e_mv_5, ← e_r_8, if_pos c_1, if_pos c_7, if_neg c_10]; done) | (subst e_r_2 e_nx_3 e_mq_4 e_mv_5 e_r_8; simp only [if_pos c_1, if_pos c_7, if_neg c_10]; done) | (subst e_r_2 e_nx_3 e_mq_4 e_mv_5 e_r_8; rfl) | (subst e_r_2 e_nx_3 e_mq_4 e_mv_5 e_r_8; simp [if_pos c_1, if_pos c_7, if_neg c_10]; done)) (by first | (simp only [← e_r_2, ← e_nx_3, ← e_mq_4, ← e_mv_5, ← e_r_8, if_pos c_1, if_pos c_7, if_neg c_10]; done) | (subst e_r_2 e_nx_3 e_mq_4 e_mv_5 e_r_8; simp only [if_pos c_1, if_pos c_7, if_neg c_10]; done) | (subst e_r_2 e_nx_3 e_mq_4 e_mv_5 e_r_8; rfl) | (subst e_r_2 e_nx_3 e_mq_4 e_mv_5 e_r_8; simp [if_pos c_1, if_pos c_7, if_neg c_10]; done)) (by omega)
theorem ctX9_wants (l : Launch) (g : Gl) (zm : Nat) (za1 : Nat) (za2 : Nat) (za3 : Nat) (za4 : Nat) (za5 : Nat) (za6 : Nat) (za7 : Nat) (za8 : Nat) (za9 : Nat) (zaa : Nat) (mp : Int32) (mt : Nat) (ml : Int32) (md : Nat → Int32) (np : Int32) (nt : Nat) (nl : Int32) (nP : Nat → Int32) (nS : Nat → Int32) (nD : Nat → Int32) (so : Nat → Int32) (ac : Nat) (mk : Nat → Int32) (mn : Nat) (mx : Nat → Int32) (nx : Nat) (mq : Nat) (mv : Int32) (wr : Int32) (ts : Int32) (sn : Nat) (sF : Nat → Int32) (sB : Nat → Int32) (sS : Nat → Int32) (mm : Int64) (a1 : Int32) (a2 : Int32) (q0 : nx ≤ mn) (q1 : mn ≤ 120) : CtI l g yX9_wants cX9_wants 4 (some .int) 2 [.ref zm, .int a1, .int a2] (fl [wMod g zm za1 za2 za3 za4 za5 za6 za7 za8 za9 zaa mp mt ml md np nt nl nP nS nD so ac mk mn mx nx mq mv wr ts sn sF sB sS mm]) ((fX9_wants mn mx nx mq mv wr a1 a2).1) (fl [wMod g zm za1 za2 za3 za4 za5 za6 za7 za8 za9 zaa mp mt ml md np nt nl nP nS nD so ac mk mn mx ((fX9_wants mn mx nx mq mv wr a1 a2).2.1) ((fX9_wants mn mx nx mq mv wr a1 a2).2.2.1) ((fX9_wants mn mx nx mq mv wr a1 a2).2.2.2.1) ((fX9_wants mn mx nx mq mv wr a1 a2).2.2.2.2) ts sn sF sB sS mm]) := mkI .int rfl rfl [(0, .ref zm), (1, .int a1), (2, .int a2)] (by decide) (Nat.le_of_ble_eq_true rfl) rfl (fun X C hR => bX9_wants C zm za1 za2 za3 za4 za5 za6 za7 za8 za9 zaa mp mt ml md np nt nl nP nS nD so ac mk mn mx nx mq mv wr ts sn sF sB sS mm a1 a2 q0 q1 hR)
theorem wants_le (mn : Nat) (mx : Nat → Int32) (nx mq : Nat) (mv wr a1 a2 : Int32) (h : nx ≤ mn) : (fX9_wants mn mx nx mq mv wr a1 a2).2.1 ≤ mn := by
  have h1 := token_le mn mx nx mv h
  simp only [fX9_wants]
  repeat' split
  all_goals first | exact h1 | exact h
theorem wants_ge (mn : Nat) (mx : Nat → Int32) (nx mq : Nat) (mv wr a1 a2 : Int32) : nx ≤ (fX9_wants mn mx nx mq mv wr a1 a2).2.1 := by
  have h1 := token_ge mn mx nx mv
  simp only [fX9_wants]
  repeat' split
  all_goals first | exact h1 | exact Nat.le_refl _
theorem wants_wr (mn : Nat) (mx : Nat → Int32) (nx mq : Nat) (mv wr a1 a2 : Int32) : (fX9_wants mn mx nx mq mv wr a1 a2).2.2.2.2 = 0 → wr = 0 := by
  intro h
  by_cases c : wr = 0
  · exact c
  · exfalso
    revert h
    simp only [fX9_wants, if_neg c]
    repeat' split
    all_goals exact fun h => absurd (show (1 : Int32) = 0 from h) (by decide)

def lX9_topItem_32 (nP : Nat → Int32) (r_4 : Int32) : Nat → (Nat) → (Int32) → (Int32)
  | 0, x2_10, wr0_10 => (wr0_10)
  | n + 1, x2_10, wr0_10 => (if wr0_10 = 0 then (if (nP x2_10) = r_4 then (lX9_topItem_32 nP r_4 n (x2_10 + 1) 1) else (lX9_topItem_32 nP r_4 n (x2_10 + 1) 0)) else (lX9_topItem_32 nP r_4 n (x2_10 + 1) 1))
def fX9_topItem (np : Int32) (nt : Nat) (nP : Nat → Int32) (nS : Nat → Int32) (nD : Nat → Int32) (mn : Nat) (mx : Nat → Int32) (nx : Nat) (mq : Nat) (mv : Int32) : (Nat) × (Nat → Int32) × (Nat → Int32) × (Nat → Int32) × (Nat) × (Nat) × (Int32) × (Int32) := (let w_2 : Int32 := (if nt = 6 then (1) else (0)); let r_4 : Int32 := (fX9_wants mn mx nx mq mv w_2 0 (np - 1)).1; let nx_5 : Nat := (fX9_wants mn mx nx mq mv w_2 0 (np - 1)).2.1; let mq_6 : Nat := (fX9_wants mn mx nx mq mv w_2 0 (np - 1)).2.2.1; let mv_7 : Int32 := (fX9_wants mn mx nx mq mv w_2 0 (np - 1)).2.2.2.1; let wr_8 : Int32 := (fX9_wants mn mx nx mq mv w_2 0 (np - 1)).2.2.2.2; let wr0_15 : Int32 := lX9_topItem_32 nP r_4 nt 0 wr_8; let r_16 : Int32 := (fX9_wants mn mx nx_5 mq_6 mv_7 wr0_15 1 60).1; let nx_17 : Nat := (fX9_wants mn mx nx_5 mq_6 mv_7 wr0_15 1 60).2.1; let mq_18 : Nat := (fX9_wants mn mx nx_5 mq_6 mv_7 wr0_15 1 60).2.2.1; let mv_19 : Int32 := (fX9_wants mn mx nx_5 mq_6 mv_7 wr0_15 1 60).2.2.2.1; let wr_20 : Int32 := (fX9_wants mn mx nx_5 mq_6 mv_7 wr0_15 1 60).2.2.2.2; let r_22 : Int32 := (fX9_wants mn mx nx_17 mq_18 mv_19 wr_20 1 9).1; let nx_23 : Nat := (fX9_wants mn mx nx_17 mq_18 mv_19 wr_20 1 9).2.1; let mq_24 : Nat := (fX9_wants mn mx nx_17 mq_18 mv_19 wr_20 1 9).2.2.1; let mv_25 : Int32 := (fX9_wants mn mx nx_17 mq_18 mv_19 wr_20 1 9).2.2.2.1; let wr_26 : Int32 := (fX9_wants mn mx nx_17 mq_18 mv_19 wr_20 1 9).2.2.2.2; if wr_26 = 0 then (let nP_29 : Nat → Int32 := upd nP nt r_4; let nS_30 : Nat → Int32 := upd nS nt r_16; let nD_31 : Nat → Int32 := upd nD nt r_22; ((nt + 1), nP_29, nS_30, nD_31, nx_23, mq_24, mv_25, wr_26)) else ((nt, nP, nS, nD, nx_23, mq_24, mv_25, wr_26)))
set_option maxHeartbeats 4000000 in
set_option maxRecDepth 100000 in
theorem bX9_topItem {l : Launch} {g : Gl} {X : Cx} (C : Ok l g X RX9 cX9_topItem 4 3) (zm : Nat) (za1 : Nat) (za2 : Nat) (za3 : Nat) (za4 : Nat) (za5 : Nat) (za6 : Nat) (za7 : Nat) (za8 : Nat) (za9 : Nat) (zaa : Nat) (mp : Int32) (mt : Nat) (ml : Int32) (md : Nat → Int32) (np : Int32) (nt : Nat) (nl : Int32) (nP : Nat → Int32) (nS : Nat → Int32) (nD : Nat → Int32) (so : Nat → Int32) (ac : Nat) (mk : Nat → Int32) (mn : Nat) (mx : Nat → Int32) (nx : Nat) (mq : Nat) (mv : Int32) (wr : Int32) (ts : Int32) (sn : Nat) (sF : Nat → Int32) (sB : Nat → Int32) (sS : Nat → Int32) (mm : Int64) (q0 : nx ≤ mn) (q1 : mn ≤ 120) (q2 : nt ≤ 6) (hR : RetV g X cX9_topItem 4 0 0 (fl [wMod g zm za1 za2 za3 za4 za5 za6 za7 za8 za9 zaa mp mt ml md np ((fX9_topItem np nt nP nS nD mn mx nx mq mv).1) nl ((fX9_topItem np nt nP nS nD mn mx nx mq mv).2.1) ((fX9_topItem np nt nP nS nD mn mx nx mq mv).2.2.1) ((fX9_topItem np nt nP nS nD mn mx nx mq mv).2.2.2.1) so ac mk mn mx ((fX9_topItem np nt nP nS nD mn mx nx mq mv).2.2.2.2.1) ((fX9_topItem np nt nP nS nD mn mx nx mq mv).2.2.2.2.2.1) ((fX9_topItem np nt nP nS nD mn mx nx mq mv).2.2.2.2.2.2.1) ((fX9_topItem np nt nP nS nD mn mx nx mq mv).2.2.2.2.2.2.2) ts sn sF sB sS mm])) : Vw g X 4 0 0 (fl [wMod g zm za1 za2 za3 za4 za5 za6 za7 za8 za9 zaa mp mt ml md np nt nl nP nS nD so ac mk mn mx nx mq mv wr ts sn sF sB sS mm]) 0 [(0, .ref zm)] [] := by
  refine r_aload_n (pc := 0) C dX9_topItem_0 0 rfl ?_
  refine r_aload_n (pc := 1) C dX9_topItem_1 0 rfl ?_
  refine r_get (pc := 2) C fl_X9_82 dX9_topItem_2 0 rfl rfl ?_
  refine r_bipush (pc := 5) 6 C dX9_topItem_5 rfl ?_
  have hJ_3 : ∀ (w_2 : Int32) , (w_2 = (if nt = 6 then (1) else (0))) → Vw g X 4 0 0 (fl [wMod g zm za1 za2 za3 za4 za5 za6 za7 za8 za9 zaa mp mt ml md np nt nl nP nS nD so ac mk mn mx nx mq mv wr ts sn sF sB sS mm]) 15 [(0, .ref zm)] [.int w_2, .ref zm] := by
    intro w_2 e_w_2
    have m_w_2 : w_2 = 0 ∨ w_2 = 1 := by rw [e_w_2]; (repeat' split) <;> simp
    refine r_put (pc := 15) (fl [wMod g zm za1 za2 za3 za4 za5 za6 za7 za8 za9 zaa mp mt ml md np nt nl nP nS nD so ac mk mn mx nx mq mv w_2 ts sn sF sB sS mm]) C fp_X9_74 dX9_topItem_15 0 rfl (Nat.le_of_ble_eq_true rfl) (nar_b m_w_2) (fit_b m_w_2) rfl ?_
    have hw0 : w_2 = 0 → nt < 6 := by intro h; rw [e_w_2] at h; split at h <;> first | omega | exact absurd h (by decide)
    refine r_aload_n (pc := 18) C dX9_topItem_18 0 rfl ?_
    refine r_iconst (pc := 19) 0 C dX9_topItem_19 rfl ?_
    refine r_aload_n (pc := 20) C dX9_topItem_20 0 rfl ?_
    refine r_get (pc := 21) C fl_X9_85 dX9_topItem_21 0 rfl rfl ?_
    refine r_iconst (pc := 24) 1 C dX9_topItem_24 rfl ?_
    refine r_isub (pc := 25) C dX9_topItem_25 ?_
    obtain ⟨r_4, e_r_4⟩ : ∃ z : Int32, z = (fX9_wants mn mx nx mq mv w_2 0 (np - 1)).1 := ⟨_, rfl⟩
    obtain ⟨nx_5, e_nx_5⟩ : ∃ z : Nat, z = (fX9_wants mn mx nx mq mv w_2 0 (np - 1)).2.1 := ⟨_, rfl⟩
    obtain ⟨mq_6, e_mq_6⟩ : ∃ z : Nat, z = (fX9_wants mn mx nx mq mv w_2 0 (np - 1)).2.2.1 := ⟨_, rfl⟩
    obtain ⟨mv_7, e_mv_7⟩ : ∃ z : Int32, z = (fX9_wants mn mx nx mq mv w_2 0 (np - 1)).2.2.2.1 := ⟨_, rfl⟩
    obtain ⟨wr_8, e_wr_8⟩ : ∃ z : Int32, z = (fX9_wants mn mx nx mq mv w_2 0 (np - 1)).2.2.2.2 := ⟨_, rfl⟩
    have K_9 := ctX9_wants l g zm za1 za2 za3 za4 za5 za6 za7 za8 za9 zaa mp mt ml md np nt nl nP nS nD so ac mk mn mx nx mq mv w_2 ts sn sF sB sS mm 0 (np - 1) (by omega) (by omega)
    rw [← e_r_4, ← e_nx_5, ← e_mq_6, ← e_mv_7, ← e_wr_8] at K_9
    refine w_cI (pc := 26) [wMod g zm za1 za2 za3 za4 za5 za6 za7 za8 za9 zaa mp mt ml md np nt nl nP nS nD so ac mk mn mx nx_5 mq_6 mv_7 wr_8 ts sn sF sB sS mm] C mv_X9_88 K_9 dX9_topItem_26 (by decide) [0] rfl (by decide) (by simp only [List.map_cons, List.map_nil, adMod]) rfl 0 rfl rfl (Nat.le_of_ble_eq_true rfl) ⟨Nat.zero_le _, Nat.zero_le _⟩ ?_
    have po0_26 : nx_5 ≤ mn := by rw [e_nx_5]; exact wants_le mn mx nx mq mv w_2 0 (np - 1) (by omega)
    have po1_26 : wr_8 = 0 → w_2 = 0 := by rw [e_wr_8]; exact wants_wr mn mx nx mq mv w_2 0 (np - 1)
    refine r_istore_n (pc := 29) [(1, .int r_4), (0, .ref zm)] C dX9_topItem_29 (by decide) rfl ?_
    refine r_iconst (pc := 30) 0 C dX9_topItem_30 rfl ?_
    refine r_istore_n (pc := 31) [(2, .int 0), (1, .int r_4), (0, .ref zm)] C dX9_topItem_31 (by decide) rfl ?_
    have hX10 : ∀ (wr0_15 : Int32) , (wr0_15 = lX9_topItem_32 nP r_4 nt 0 wr_8) → (wr0_15 = 0 → nt < 6) → Vw g X 4 0 0 (fl [wMod g zm za1 za2 za3 za4 za5 za6 za7 za8 za9 zaa mp mt ml md np nt nl nP nS nD so ac mk mn mx nx_5 mq_6 mv_7 wr0_15 ts sn sF sB sS mm]) 72 [(0, .ref zm), (1, .int r_4)] [] := by
      intro wr0_15 e_wr0_15 hp10_0
      refine r_aload_n (pc := 72) C dX9_topItem_72 0 rfl ?_
      refine r_iconst (pc := 73) 1 C dX9_topItem_73 rfl ?_
      refine r_bipush (pc := 74) 60 C dX9_topItem_74 rfl ?_
      obtain ⟨r_16, e_r_16⟩ : ∃ z : Int32, z = (fX9_wants mn mx nx_5 mq_6 mv_7 wr0_15 1 60).1 := ⟨_, rfl⟩
      obtain ⟨nx_17, e_nx_17⟩ : ∃ z : Nat, z = (fX9_wants mn mx nx_5 mq_6 mv_7 wr0_15 1 60).2.1 := ⟨_, rfl⟩
      obtain ⟨mq_18, e_mq_18⟩ : ∃ z : Nat, z = (fX9_wants mn mx nx_5 mq_6 mv_7 wr0_15 1 60).2.2.1 := ⟨_, rfl⟩
      obtain ⟨mv_19, e_mv_19⟩ : ∃ z : Int32, z = (fX9_wants mn mx nx_5 mq_6 mv_7 wr0_15 1 60).2.2.2.1 := ⟨_, rfl⟩
      obtain ⟨wr_20, e_wr_20⟩ : ∃ z : Int32, z = (fX9_wants mn mx nx_5 mq_6 mv_7 wr0_15 1 60).2.2.2.2 := ⟨_, rfl⟩
      have K_21 := ctX9_wants l g zm za1 za2 za3 za4 za5 za6 za7 za8 za9 zaa mp mt ml md np nt nl nP nS nD so ac mk mn mx nx_5 mq_6 mv_7 wr0_15 ts sn sF sB sS mm 1 60 (by omega) (by omega)
      rw [← e_r_16, ← e_nx_17, ← e_mq_18, ← e_mv_19, ← e_wr_20] at K_21
      refine w_cI (pc := 76) [wMod g zm za1 za2 za3 za4 za5 za6 za7 za8 za9 zaa mp mt ml md np nt nl nP nS nD so ac mk mn mx nx_17 mq_18 mv_19 wr_20 ts sn sF sB sS mm] C mv_X9_88 K_21 dX9_topItem_76 (by decide) [0] rfl (by decide) (by simp only [List.map_cons, List.map_nil, adMod]) rfl 0 rfl rfl (Nat.le_of_ble_eq_true rfl) ⟨Nat.zero_le _, Nat.zero_le _⟩ ?_
      have po0_76 : nx_17 ≤ mn := by rw [e_nx_17]; exact wants_le mn mx nx_5 mq_6 mv_7 wr0_15 1 60 (by omega)
      have po1_76 : wr_20 = 0 → wr0_15 = 0 := by rw [e_wr_20]; exact wants_wr mn mx nx_5 mq_6 mv_7 wr0_15 1 60
      refine r_istore_n (pc := 79) [(2, .int r_16), (0, .ref zm), (1, .int r_4)] C dX9_topItem_79 (by decide) rfl ?_
      refine r_aload_n (pc := 80) C dX9_topItem_80 1 rfl ?_
      refine r_iconst (pc := 81) 1 C dX9_topItem_81 rfl ?_
      refine r_bipush (pc := 82) 9 C dX9_topItem_82 rfl ?_
      obtain ⟨r_22, e_r_22⟩ : ∃ z : Int32, z = (fX9_wants mn mx nx_17 mq_18 mv_19 wr_20 1 9).1 := ⟨_, rfl⟩
      obtain ⟨nx_23, e_nx_23⟩ : ∃ z : Nat, z = (fX9_wants mn mx nx_17 mq_18 mv_19 wr_20 1 9).2.1 := ⟨_, rfl⟩
      obtain ⟨mq_24, e_mq_24⟩ : ∃ z : Nat, z = (fX9_wants mn mx nx_17 mq_18 mv_19 wr_20 1 9).2.2.1 := ⟨_, rfl⟩
      obtain ⟨mv_25, e_mv_25⟩ : ∃ z : Int32, z = (fX9_wants mn mx nx_17 mq_18 mv_19 wr_20 1 9).2.2.2.1 := ⟨_, rfl⟩
      obtain ⟨wr_26, e_wr_26⟩ : ∃ z : Int32, z = (fX9_wants mn mx nx_17 mq_18 mv_19 wr_20 1 9).2.2.2.2 := ⟨_, rfl⟩
      have K_27 := ctX9_wants l g zm za1 za2 za3 za4 za5 za6 za7 za8 za9 zaa mp mt ml md np nt nl nP nS nD so ac mk mn mx nx_17 mq_18 mv_19 wr_20 ts sn sF sB sS mm 1 9 (by omega) (by omega)
      rw [← e_r_22, ← e_nx_23, ← e_mq_24, ← e_mv_25, ← e_wr_26] at K_27
      refine w_cI (pc := 84) [wMod g zm za1 za2 za3 za4 za5 za6 za7 za8 za9 zaa mp mt ml md np nt nl nP nS nD so ac mk mn mx nx_23 mq_24 mv_25 wr_26 ts sn sF sB sS mm] C mv_X9_88 K_27 dX9_topItem_84 (by decide) [0] rfl (by decide) (by simp only [List.map_cons, List.map_nil, adMod]) rfl 0 rfl rfl (Nat.le_of_ble_eq_true rfl) ⟨Nat.zero_le _, Nat.zero_le _⟩ ?_
      have po0_84 : nx_23 ≤ mn := by rw [e_nx_23]; exact wants_le mn mx nx_17 mq_18 mv_19 wr_20 1 9 (by omega)
      have po1_84 : wr_26 = 0 → wr_20 = 0 := by rw [e_wr_26]; exact wants_wr mn mx nx_17 mq_18 mv_19 wr_20 1 9
      refine r_istore_n (pc := 87) [(3, .int r_22), (2, .int r_16), (0, .ref zm), (1, .int r_4)] C dX9_topItem_87 (by decide) rfl ?_
      refine r_aload_n (pc := 88) C dX9_topItem_88 2 rfl ?_
      refine r_get (pc := 89) C fl_X9_74 dX9_topItem_89 0 rfl rfl ?_
      refine r_ifne (pc := 92) 135 C dX9_topItem_92 (by decide) (fun c_28 => ?_) (fun c_28 => ?_)
      · have hf : fX9_topItem np nt nP nS nD mn mx nx mq mv = (nt, nP, nS, nD, nx_23, mq_24, mv_25, wr_26) := by first | (simp only [fX9_topItem, ← e_w_2, ← e_r_4, ← e_nx_5, ← e_mq_6, ← e_mv_7, ← e_wr_8, ← e_wr0_15, ← e_r_16, ← e_nx_17, ← e_mq_18, ← e_mv_19, ← e_wr_20, ← e_r_22, ← e_nx_23, ← e_mq_24, ← e_mv_25, ← e_wr_26, if_neg c_28]; done) | (subst e_w_2 e_r_4 e_nx_5 e_mq_6 e_mv_7 e_wr_8 e_wr0_15 e_r_16 e_nx_17 e_mq_18 e_mv_19 e_wr_20 e_r_22 e_nx_23 e_mq_24 e_mv_25 e_wr_26; simp only [fX9_topItem, if_neg c_28]; done) | (subst e_w_2 e_r_4 e_nx_5 e_mq_6 e_mv_7 e_wr_8 e_wr0_15 e_r_16 e_nx_17 e_mq_18 e_mv_19 e_wr_20 e_r_22 e_nx_23 e_mq_24 e_mv_25 e_wr_26; rfl) | (subst e_w_2 e_r_4 e_nx_5 e_mq_6 e_mv_7 e_wr_8 e_wr0_15 e_r_16 e_nx_17 e_mq_18 e_mv_19 e_wr_20 e_r_22 e_nx_23 e_mq_24 e_mv_25 e_wr_26; simp [fX9_topItem, if_neg c_28]; done)
        rw [hf] at hR
        exact hR _ _ dX9_topItem_135
      · have hnt : nt < 6 := hp10_0 (po1_76 (po1_84 c_28))
        refine r_aload_n (pc := 95) C dX9_topItem_95 2 rfl ?_
        refine r_get (pc := 96) C fl_X9_20 dX9_topItem_96 0 rfl rfl ?_
        refine r_aload_n (pc := 99) C dX9_topItem_99 2 rfl ?_
        refine r_get (pc := 100) C fl_X9_82 dX9_topItem_100 0 rfl rfl ?_
        refine r_iload_n (pc := 103) C dX9_topItem_103 3 rfl ?_
        obtain ⟨nP_29, e_nP_29⟩ : ∃ z : Nat → Int32, z = upd nP nt r_4 := ⟨_, rfl⟩
        refine r_iast (pc := 104) nt (fl [wMod g zm za1 za2 za3 za4 za5 za6 za7 za8 za9 zaa mp mt ml md np nt nl nP_29 nS nD so ac mk mn mx nx_23 mq_24 mv_25 wr_26 ts sn sF sB sS mm]) C dX9_topItem_104 2 rfl rfl (by omega) (by decide) (by rw [← e_nP_29]; rfl) ?_
        refine r_aload_n (pc := 105) C dX9_topItem_105 2 rfl ?_
        refine r_get (pc := 106) C fl_X9_23 dX9_topItem_106 0 rfl rfl ?_
        refine r_aload_n (pc := 109) C dX9_topItem_109 2 rfl ?_
        refine r_get (pc := 110) C fl_X9_82 dX9_topItem_110 0 rfl rfl ?_
        refine r_iload_n (pc := 113) C dX9_topItem_113 1 rfl ?_
        obtain ⟨nS_30, e_nS_30⟩ : ∃ z : Nat → Int32, z = upd nS nt r_16 := ⟨_, rfl⟩
        refine r_iast (pc := 114) nt (fl [wMod g zm za1 za2 za3 za4 za5 za6 za7 za8 za9 zaa mp mt ml md np nt nl nP_29 nS_30 nD so ac mk mn mx nx_23 mq_24 mv_25 wr_26 ts sn sF sB sS mm]) C dX9_topItem_114 3 rfl rfl (by omega) (by decide) (by rw [← e_nS_30]; rfl) ?_
        refine r_aload_n (pc := 115) C dX9_topItem_115 2 rfl ?_
        refine r_get (pc := 116) C fl_X9_26 dX9_topItem_116 0 rfl rfl ?_
        refine r_aload_n (pc := 119) C dX9_topItem_119 2 rfl ?_
        refine r_get (pc := 120) C fl_X9_82 dX9_topItem_120 0 rfl rfl ?_
        refine r_iload_n (pc := 123) C dX9_topItem_123 0 rfl ?_
        obtain ⟨nD_31, e_nD_31⟩ : ∃ z : Nat → Int32, z = upd nD nt r_22 := ⟨_, rfl⟩
        refine r_iast (pc := 124) nt (fl [wMod g zm za1 za2 za3 za4 za5 za6 za7 za8 za9 zaa mp mt ml md np nt nl nP_29 nS_30 nD_31 so ac mk mn mx nx_23 mq_24 mv_25 wr_26 ts sn sF sB sS mm]) C dX9_topItem_124 4 rfl rfl (by omega) (by decide) (by rw [← e_nD_31]; rfl) ?_
        refine r_aload_n (pc := 125) C dX9_topItem_125 2 rfl ?_
        refine r_dup (pc := 126) C dX9_topItem_126 rfl ?_
        refine r_get (pc := 127) C fl_X9_82 dX9_topItem_127 0 rfl rfl ?_
        refine r_iconst (pc := 130) 1 C dX9_topItem_130 rfl ?_
        refine r_iaddN (pc := 131) nt 1 C dX9_topItem_131 rfl rfl ?_
        refine r_put (pc := 132) (fl [wMod g zm za1 za2 za3 za4 za5 za6 za7 za8 za9 zaa mp mt ml md np (nt + 1) nl nP_29 nS_30 nD_31 so ac mk mn mx nx_23 mq_24 mv_25 wr_26 ts sn sF sB sS mm]) C fp_X9_82 dX9_topItem_132 0 rfl (Nat.le_of_ble_eq_true rfl) rfl rfl rfl ?_
        have hf : fX9_topItem np nt nP nS nD mn mx nx mq mv = ((nt + 1), nP_29, nS_30, nD_31, nx_23, mq_24, mv_25, wr_26) := by first | (simp only [fX9_topItem, ← e_w_2, ← e_r_4, ← e_nx_5, ← e_mq_6, ← e_mv_7, ← e_wr_8, ← e_wr0_15, ← e_r_16, ← e_nx_17, ← e_mq_18, ← e_mv_19, ← e_wr_20, ← e_r_22, ← e_nx_23, ← e_mq_24, ← e_mv_25, ← e_wr_26, ← e_nP_29, ← e_nS_30, ← e_nD_31, if_pos c_28]; done) | (subst e_w_2 e_r_4 e_nx_5 e_mq_6 e_mv_7 e_wr_8 e_wr0_15 e_r_16 e_nx_17 e_mq_18 e_mv_19 e_wr_20 e_r_22 e_nx_23 e_mq_24 e_mv_25 e_wr_26 e_nP_29 e_nS_30 e_nD_31; simp only [fX9_topItem, if_pos c_28]; done) | (subst e_w_2 e_r_4 e_nx_5 e_mq_6 e_mv_7 e_wr_8 e_wr0_15 e_r_16 e_nx_17 e_mq_18 e_mv_19 e_wr_20 e_r_22 e_nx_23 e_mq_24 e_mv_25 e_wr_26 e_nP_29 e_nS_30 e_nD_31; rfl) | (subst e_w_2 e_r_4 e_nx_5 e_mq_6 e_mv_7 e_wr_8 e_wr0_15 e_r_16 e_nx_17 e_mq_18 e_mv_19 e_wr_20 e_r_22 e_nx_23 e_mq_24 e_mv_25 e_wr_26 e_nP_29 e_nS_30 e_nD_31; simp [fX9_topItem, if_pos c_28]; done)
        rw [hf] at hR
        exact hR _ _ dX9_topItem_135
    have hL10 : ∀ (n : Nat) (x2_10 : Nat) (wr0_10 : Int32) , (x2_10 + n = nt) → (wr0_10 = 0 → nt < 6) → lX9_topItem_32 nP r_4 n x2_10 wr0_10 = lX9_topItem_32 nP r_4 nt 0 wr_8 → Vw g X 4 0 0 (fl [wMod g zm za1 za2 za3 za4 za5 za6 za7 za8 za9 zaa mp mt ml md np nt nl nP nS nD so ac mk mn mx nx_5 mq_6 mv_7 wr0_10 ts sn sF sB sS mm]) 32 [(0, .ref zm), (1, .int r_4), (2, .int (nI x2_10))] [] := by
      intro n
      induction n with
      | zero =>
        intro x2_10 wr0_10 hr10 hi10_0 hV10
        refine r_iload_n (pc := 32) C dX9_topItem_32 2 rfl ?_
        refine r_aload_n (pc := 33) C dX9_topItem_33 0 rfl ?_
        refine r_get (pc := 34) C fl_X9_82 dX9_topItem_34 0 rfl rfl ?_
        refine r_icmpgeN (pc := 37) x2_10 nt 72 C dX9_topItem_37 (by decide) rfl rfl (by omega) (by omega) (fun _ => ?_) (fun c_11 => absurd (by omega) c_11)
        refine u_lv [(0, .ref zm), (1, .int r_4)] [0, 1] rfl ?_
        exact hX10 _ (by rw [← hV10]; first | rfl | (simp only [lX9_topItem_32]; done) | (simp [lX9_topItem_32]; done)) hi10_0
      | succ n ih =>
        intro x2_10 wr0_10 hr10 hi10_0 hV10
        refine r_iload_n (pc := 32) C dX9_topItem_32 2 rfl ?_
        refine r_aload_n (pc := 33) C dX9_topItem_33 0 rfl ?_
        refine r_get (pc := 34) C fl_X9_82 dX9_topItem_34 0 rfl rfl ?_
        refine r_icmpgeN (pc := 37) x2_10 nt 72 C dX9_topItem_37 (by decide) rfl rfl (by omega) (by omega) (fun c_12 => absurd c_12 (by omega)) (fun _ => ?_)
        refine r_aload_n (pc := 40) C dX9_topItem_40 0 rfl ?_
        refine r_aload_n (pc := 41) C dX9_topItem_41 0 rfl ?_
        refine r_get (pc := 42) C fl_X9_74 dX9_topItem_42 0 rfl rfl ?_
        refine r_ifne (pc := 45) 58 C dX9_topItem_45 (by decide) (fun c_13 => ?_) (fun c_13 => ?_)
        · refine r_iconst (pc := 58) 1 C dX9_topItem_58 rfl ?_
          refine r_goto (pc := 59) 63 C dX9_topItem_59 (by decide) ?_
          refine r_put (pc := 63) (fl [wMod g zm za1 za2 za3 za4 za5 za6 za7 za8 za9 zaa mp mt ml md np nt nl nP nS nD so ac mk mn mx nx_5 mq_6 mv_7 1 ts sn sF sB sS mm]) C fp_X9_74 dX9_topItem_63 0 rfl (Nat.le_of_ble_eq_true rfl) rfl rfl rfl ?_
          refine r_iinc (pc := 66) (nI (x2_10 + 1)) [(2, .int (nI (x2_10 + 1))), (0, .ref zm), (1, .int r_4)] C dX9_topItem_66 2 rfl (inc1 _) (by decide) rfl ?_
          refine r_goto (pc := 69) 32 C dX9_topItem_69 (by decide) ?_
          refine u_lv [(0, .ref zm), (1, .int r_4), (2, .int (nI (x2_10 + 1)))] [1, 2, 0] rfl ?_
          exact ih (x2_10 + 1) 1 (by omega) (fun h => absurd h (by decide)) (by rw [← hV10]; first | (simp only [lX9_topItem_32, if_neg c_13]; done) | rfl | (simp [lX9_topItem_32, if_neg c_13]; done))
        · refine r_aload_n (pc := 48) C dX9_topItem_48 0 rfl ?_
          refine r_get (pc := 49) C fl_X9_20 dX9_topItem_49 0 rfl rfl ?_
          refine r_iload_n (pc := 52) C dX9_topItem_52 2 rfl ?_
          refine r_iald (pc := 53) x2_10 C dX9_topItem_53 2 rfl rfl (by omega) (by decide) ?_
          refine r_iload_n (pc := 54) C dX9_topItem_54 1 rfl ?_
          refine r_icmpne (pc := 55) 62 C dX9_topItem_55 (by decide) (fun c_14 => ?_) (fun c_14 => ?_)
          · refine r_iconst (pc := 62) 0 C dX9_topItem_62 rfl ?_
            refine r_put (pc := 63) (fl [wMod g zm za1 za2 za3 za4 za5 za6 za7 za8 za9 zaa mp mt ml md np nt nl nP nS nD so ac mk mn mx nx_5 mq_6 mv_7 0 ts sn sF sB sS mm]) C fp_X9_74 dX9_topItem_63 0 rfl (Nat.le_of_ble_eq_true rfl) rfl rfl rfl ?_
            refine r_iinc (pc := 66) (nI (x2_10 + 1)) [(2, .int (nI (x2_10 + 1))), (0, .ref zm), (1, .int r_4)] C dX9_topItem_66 2 rfl (inc1 _) (by decide) rfl ?_
            refine r_goto (pc := 69) 32 C dX9_topItem_69 (by decide) ?_
            refine u_lv [(0, .ref zm), (1, .int r_4), (2, .int (nI (x2_10 + 1)))] [1, 2, 0] rfl ?_
            exact ih (x2_10 + 1) 0 (by omega) (fun _ => hi10_0 c_13) (by rw [← hV10]; first | (simp only [lX9_topItem_32, if_pos c_13, if_neg c_14]; done) | rfl | (simp [lX9_topItem_32, if_pos c_13, if_neg c_14]; done))
          · refine r_iconst (pc := 58) 1 C dX9_topItem_58 rfl ?_
            refine r_goto (pc := 59) 63 C dX9_topItem_59 (by decide) ?_
            refine r_put (pc := 63) (fl [wMod g zm za1 za2 za3 za4 za5 za6 za7 za8 za9 zaa mp mt ml md np nt nl nP nS nD so ac mk mn mx nx_5 mq_6 mv_7 1 ts sn sF sB sS mm]) C fp_X9_74 dX9_topItem_63 0 rfl (Nat.le_of_ble_eq_true rfl) rfl rfl rfl ?_
            refine r_iinc (pc := 66) (nI (x2_10 + 1)) [(2, .int (nI (x2_10 + 1))), (0, .ref zm), (1, .int r_4)] C dX9_topItem_66 2 rfl (inc1 _) (by decide) rfl ?_
            refine r_goto (pc := 69) 32 C dX9_topItem_69 (by decide) ?_
            refine u_lv [(0, .ref zm), (1, .int r_4), (2, .int (nI (x2_10 + 1)))] [1, 2, 0] rfl ?_
            exact ih (x2_10 + 1) 1 (by omega) (fun h => absurd h (by decide)) (by rw [← hV10]; first | (simp only [lX9_topItem_32, if_pos c_13, if_pos c_14]; done) | rfl | (simp [lX9_topItem_32, if_pos c_13, if_pos c_14]; done))
    refine u_lv [(0, .ref zm), (1, .int r_4), (2, .int 0)] [2, 1, 0] rfl ?_
    exact hL10 nt 0 wr_8 (by omega) (fun h => hw0 (po1_26 h)) rfl
  refine r_icmpneN (pc := 7) nt 6 14 C dX9_topItem_7 (by decide) rfl rfl (by omega) (by omega) (fun c_1 => ?_) (fun c_1 => ?_)
  · refine r_iconst (pc := 14) 0 C dX9_topItem_14 rfl ?_
    exact hJ_3 _ (by first | (simp only [if_neg c_1]; done) | rfl | (simp [if_neg c_1]; done))
  · refine r_iconst (pc := 10) 1 C dX9_topItem_10 rfl ?_
    refine r_goto (pc := 11) 15 C dX9_topItem_11 (by decide) ?_
    exact hJ_3 _ (by first | (simp only [if_pos c_1]; done) | rfl | (simp [if_pos c_1]; done))
theorem ctX9_topItem (l : Launch) (g : Gl) (zm : Nat) (za1 : Nat) (za2 : Nat) (za3 : Nat) (za4 : Nat) (za5 : Nat) (za6 : Nat) (za7 : Nat) (za8 : Nat) (za9 : Nat) (zaa : Nat) (mp : Int32) (mt : Nat) (ml : Int32) (md : Nat → Int32) (np : Int32) (nt : Nat) (nl : Int32) (nP : Nat → Int32) (nS : Nat → Int32) (nD : Nat → Int32) (so : Nat → Int32) (ac : Nat) (mk : Nat → Int32) (mn : Nat) (mx : Nat → Int32) (nx : Nat) (mq : Nat) (mv : Int32) (wr : Int32) (ts : Int32) (sn : Nat) (sF : Nat → Int32) (sB : Nat → Int32) (sS : Nat → Int32) (mm : Int64) (q0 : nx ≤ mn) (q1 : mn ≤ 120) (q2 : nt ≤ 6) : CtV l g yX9_topItem cX9_topItem 4 3 [.ref zm] (fl [wMod g zm za1 za2 za3 za4 za5 za6 za7 za8 za9 zaa mp mt ml md np nt nl nP nS nD so ac mk mn mx nx mq mv wr ts sn sF sB sS mm]) (fl [wMod g zm za1 za2 za3 za4 za5 za6 za7 za8 za9 zaa mp mt ml md np ((fX9_topItem np nt nP nS nD mn mx nx mq mv).1) nl ((fX9_topItem np nt nP nS nD mn mx nx mq mv).2.1) ((fX9_topItem np nt nP nS nD mn mx nx mq mv).2.2.1) ((fX9_topItem np nt nP nS nD mn mx nx mq mv).2.2.2.1) so ac mk mn mx ((fX9_topItem np nt nP nS nD mn mx nx mq mv).2.2.2.2.1) ((fX9_topItem np nt nP nS nD mn mx nx mq mv).2.2.2.2.2.1) ((fX9_topItem np nt nP nS nD mn mx nx mq mv).2.2.2.2.2.2.1) ((fX9_topItem np nt nP nS nD mn mx nx mq mv).2.2.2.2.2.2.2) ts sn sF sB sS mm]) := mkV [(0, .ref zm)] (by decide) (Nat.le_of_ble_eq_true rfl) rfl (fun X C hR => bX9_topItem C zm za1 za2 za3 za4 za5 za6 za7 za8 za9 zaa mp mt ml md np nt nl nP nS nD so ac mk mn mx nx mq mv wr ts sn sF sB sS mm q0 q1 q2 hR)
theorem ti_wr (nP : Nat → Int32) (r : Int32) : ∀ n i w, lX9_topItem_32 nP r n i w = 0 → w = 0
  | 0, i, w => fun h => h
  | n + 1, i, w => by
    intro h
    by_cases c : w = 0
    · exact c
    · simp only [lX9_topItem_32, if_neg c] at h
      exact absurd (ti_wr nP r n (i + 1) 1 h) (by decide)
theorem topItem_all (np : Int32) (nt : Nat) (nP nS nD : Nat → Int32) (mn : Nat) (mx : Nat → Int32) (nx mq : Nat) (mv : Int32) : (nx ≤ mn → (fX9_topItem np nt nP nS nD mn mx nx mq mv).2.2.2.2.1 ≤ mn) ∧ nx ≤ (fX9_topItem np nt nP nS nD mn mx nx mq mv).2.2.2.2.1 ∧ (nt ≤ 6 → (fX9_topItem np nt nP nS nD mn mx nx mq mv).1 ≤ 6) := by
  rcases h1 : fX9_wants mn mx nx mq mv (if nt = 6 then 1 else 0) 0 (np - 1) with ⟨r1, n1, q1, v1, w1⟩
  have a1 := wants_le mn mx nx mq mv (if nt = 6 then 1 else 0) 0 (np - 1)
  have b1 := wants_ge mn mx nx mq mv (if nt = 6 then 1 else 0) 0 (np - 1)
  have d1 := wants_wr mn mx nx mq mv (if nt = 6 then 1 else 0) 0 (np - 1)
  rw [h1] at a1 b1 d1
  have t1 := ti_wr nP r1 nt 0 w1
  rcases h2 : fX9_wants mn mx n1 q1 v1 (lX9_topItem_32 nP r1 nt 0 w1) 1 60 with ⟨r2, n2, q2, v2, w2⟩
  have a2 := wants_le mn mx n1 q1 v1 (lX9_topItem_32 nP r1 nt 0 w1) 1 60
  have b2 := wants_ge mn mx n1 q1 v1 (lX9_topItem_32 nP r1 nt 0 w1) 1 60
  have d2 := wants_wr mn mx n1 q1 v1 (lX9_topItem_32 nP r1 nt 0 w1) 1 60
  rw [h2] at a2 b2 d2
  rcases h3 : fX9_wants mn mx n2 q2 v2 w2 1 9 with ⟨r3, n3, q3, v3, w3⟩
  have a3 := wants_le mn mx n2 q2 v2 w2 1 9
  have b3 := wants_ge mn mx n2 q2 v2 w2 1 9
  have d3 := wants_wr mn mx n2 q2 v2 w2 1 9
  rw [h3] at a3 b3 d3
  simp only at a1 b1 d1 a2 b2 d2 a3 b3 d3
  simp only [fX9_topItem, h1, h2, h3]
  by_cases c : w3 = 0
  · simp only [if_pos c]
    refine ⟨fun h => a3 (a2 (a1 h)), by omega, fun h => ?_⟩
    have e := d1 (t1 (d2 (d3 c)))
    by_cases c6 : nt = 6
    · rw [if_pos c6] at e
      exact absurd e (by decide)
    · omega
  · simp only [if_neg c]
    exact ⟨fun h => a3 (a2 (a1 h)), by omega, fun h => h⟩
theorem topItem_le (np : Int32) (nt : Nat) (nP nS nD : Nat → Int32) (mn : Nat) (mx : Nat → Int32) (nx mq : Nat) (mv : Int32) (h : nx ≤ mn) : (fX9_topItem np nt nP nS nD mn mx nx mq mv).2.2.2.2.1 ≤ mn := (topItem_all np nt nP nS nD mn mx nx mq mv).1 h
theorem topItem_ge (np : Int32) (nt : Nat) (nP nS nD : Nat → Int32) (mn : Nat) (mx : Nat → Int32) (nx mq : Nat) (mv : Int32) : nx ≤ (fX9_topItem np nt nP nS nD mn mx nx mq mv).2.2.2.2.1 := (topItem_all np nt nP nS nD mn mx nx mq mv).2.1
theorem topItem_nt (np : Int32) (nt : Nat) (nP nS nD : Nat → Int32) (mn : Nat) (mx : Nat → Int32) (nx mq : Nat) (mv : Int32) (h : nt ≤ 6) : (fX9_topItem np nt nP nS nD mn mx nx mq mv).1 ≤ 6 := (topItem_all np nt nP nS nD mn mx nx mq mv).2.2 h

def fX9_item (np : Int32) (nt : Nat) (nl : Int32) (nP : Nat → Int32) (nS : Nat → Int32) (nD : Nat → Int32) (mn : Nat) (mx : Nat → Int32) (nx : Nat) (mq : Nat) (mv : Int32) (ts : Int32) (c : Int32) (mj : Int32) : (Int32) × (Nat) × (Int32) × (Nat → Int32) × (Nat → Int32) × (Nat → Int32) × (Nat) × (Nat) × (Int32) × (Int32) × (Int32) := (let J_39 := (if c = 110 then (let w_20 : Int32 := (if mj ≤ 0 then (0) else (1)); let r_22 : Int32 := (fX9_wants mn mx nx mq mv w_20 4 10).1; let nx_23 : Nat := (fX9_wants mn mx nx mq mv w_20 4 10).2.1; let mq_24 : Nat := (fX9_wants mn mx nx mq mv w_20 4 10).2.2.1; let mv_25 : Int32 := (fX9_wants mn mx nx mq mv w_20 4 10).2.2.2.1; let wr_26 : Int32 := (fX9_wants mn mx nx mq mv w_20 4 10).2.2.2.2; (r_22, nt, nl, nP, nS, nD, nx_23, mq_24, mv_25, wr_26, ts)) else (if c = 116 then (let nt_10 : Nat := (fX9_topItem np nt nP nS nD mn mx nx mq mv).1; let nP_11 : Nat → Int32 := (fX9_topItem np nt nP nS nD mn mx nx mq mv).2.1; let nS_12 : Nat → Int32 := (fX9_topItem np nt nP nS nD mn mx nx mq mv).2.2.1; let nD_13 : Nat → Int32 := (fX9_topItem np nt nP nS nD mn mx nx mq mv).2.2.2.1; let nx_14 : Nat := (fX9_topItem np nt nP nS nD mn mx nx mq mv).2.2.2.2.1; let mq_15 : Nat := (fX9_topItem np nt nP nS nD mn mx nx mq mv).2.2.2.2.2.1; let mv_16 : Int32 := (fX9_topItem np nt nP nS nD mn mx nx mq mv).2.2.2.2.2.2.1; let wr_17 : Int32 := (fX9_topItem np nt nP nS nD mn mx nx mq mv).2.2.2.2.2.2.2; (np, nt_10, nl, nP_11, nS_12, nD_13, nx_14, mq_15, mv_16, wr_17, ts)) else (if c = 108 then (let r_4 : Int32 := (fX9_wants mn mx nx mq mv ts 0 30).1; let nx_5 : Nat := (fX9_wants mn mx nx mq mv ts 0 30).2.1; let mq_6 : Nat := (fX9_wants mn mx nx mq mv ts 0 30).2.2.1; let mv_7 : Int32 := (fX9_wants mn mx nx mq mv ts 0 30).2.2.2.1; let wr_8 : Int32 := (fX9_wants mn mx nx mq mv ts 0 30).2.2.2.2; (np, nt, r_4, nP, nS, nD, nx_5, mq_6, mv_7, wr_8, 1)) else ((np, nt, nl, nP, nS, nD, nx, mq, mv, 1, ts)))) : (Int32) × (Nat) × (Int32) × (Nat → Int32) × (Nat → Int32) × (Nat → Int32) × (Nat) × (Nat) × (Int32) × (Int32) × (Int32)); let np_28 : Int32 := J_39.1; let nt_29 : Nat := J_39.2.1; let nl_30 : Int32 := J_39.2.2.1; let nP_31 : Nat → Int32 := J_39.2.2.2.1; let nS_32 : Nat → Int32 := J_39.2.2.2.2.1; let nD_33 : Nat → Int32 := J_39.2.2.2.2.2.1; let nx_34 : Nat := J_39.2.2.2.2.2.2.1; let mq_35 : Nat := J_39.2.2.2.2.2.2.2.1; let mv_36 : Int32 := J_39.2.2.2.2.2.2.2.2.1; let wr_37 : Int32 := J_39.2.2.2.2.2.2.2.2.2.1; let ts_38 : Int32 := J_39.2.2.2.2.2.2.2.2.2.2; if wr_37 = 0 then (let r_41 : Int32 := (fX9_token mn mx nx_34 mv_36).1; let nx_42 : Nat := (fX9_token mn mx nx_34 mv_36).2.1; let mq_43 : Nat := (fX9_token mn mx nx_34 mv_36).2.2.1; let mv_44 : Int32 := (fX9_token mn mx nx_34 mv_36).2.2.2; if r_41 = 2 then ((np_28, nt_29, nl_30, nP_31, nS_32, nD_33, nx_42, mq_43, mv_44, 0, ts_38)) else ((np_28, nt_29, nl_30, nP_31, nS_32, nD_33, nx_42, mq_43, mv_44, 1, ts_38))) else ((np_28, nt_29, nl_30, nP_31, nS_32, nD_33, nx_34, mq_35, mv_36, 1, ts_38)))
set_option maxHeartbeats 4000000 in
set_option maxRecDepth 100000 in
theorem bX9_item {l : Launch} {g : Gl} {X : Cx} (C : Ok l g X RX9 cX9_item 3 4) (zm : Nat) (za1 : Nat) (za2 : Nat) (za3 : Nat) (za4 : Nat) (za5 : Nat) (za6 : Nat) (za7 : Nat) (za8 : Nat) (za9 : Nat) (zaa : Nat) (mp : Int32) (mt : Nat) (ml : Int32) (md : Nat → Int32) (np : Int32) (nt : Nat) (nl : Int32) (nP : Nat → Int32) (nS : Nat → Int32) (nD : Nat → Int32) (so : Nat → Int32) (ac : Nat) (mk : Nat → Int32) (mn : Nat) (mx : Nat → Int32) (nx : Nat) (mq : Nat) (mv : Int32) (wr : Int32) (ts : Int32) (sn : Nat) (sF : Nat → Int32) (sB : Nat → Int32) (sS : Nat → Int32) (mm : Int64) (c : Int32) (mj : Int32) (q0 : nx ≤ mn) (q1 : mn ≤ 120) (q2 : nt ≤ 6) (q3 : ts = 0 ∨ ts = 1) (hR : RetV g X cX9_item 3 0 0 (fl [wMod g zm za1 za2 za3 za4 za5 za6 za7 za8 za9 zaa mp mt ml md ((fX9_item np nt nl nP nS nD mn mx nx mq mv ts c mj).1) ((fX9_item np nt nl nP nS nD mn mx nx mq mv ts c mj).2.1) ((fX9_item np nt nl nP nS nD mn mx nx mq mv ts c mj).2.2.1) ((fX9_item np nt nl nP nS nD mn mx nx mq mv ts c mj).2.2.2.1) ((fX9_item np nt nl nP nS nD mn mx nx mq mv ts c mj).2.2.2.2.1) ((fX9_item np nt nl nP nS nD mn mx nx mq mv ts c mj).2.2.2.2.2.1) so ac mk mn mx ((fX9_item np nt nl nP nS nD mn mx nx mq mv ts c mj).2.2.2.2.2.2.1) ((fX9_item np nt nl nP nS nD mn mx nx mq mv ts c mj).2.2.2.2.2.2.2.1) ((fX9_item np nt nl nP nS nD mn mx nx mq mv ts c mj).2.2.2.2.2.2.2.2.1) ((fX9_item np nt nl nP nS nD mn mx nx mq mv ts c mj).2.2.2.2.2.2.2.2.2.1) ((fX9_item np nt nl nP nS nD mn mx nx mq mv ts c mj).2.2.2.2.2.2.2.2.2.2) sn sF sB sS mm])) : Vw g X 3 0 0 (fl [wMod g zm za1 za2 za3 za4 za5 za6 za7 za8 za9 zaa mp mt ml md np nt nl nP nS nD so ac mk mn mx nx mq mv wr ts sn sF sB sS mm]) 0 [(0, .ref zm), (1, .int c), (2, .int mj)] [] := by
  refine r_iload_n (pc := 0) C dX9_item_0 1 rfl ?_
  refine r_bipush (pc := 1) 110 C dX9_item_1 rfl ?_
  have hJ_39 : ∀ (np_28 : Int32) (nt_29 : Nat) (nl_30 : Int32) (nP_31 : Nat → Int32) (nS_32 : Nat → Int32) (nD_33 : Nat → Int32) (nx_34 : Nat) (mq_35 : Nat) (mv_36 : Int32) (wr_37 : Int32) (ts_38 : Int32) , (np_28 = (if c = 110 then (let w_20 : Int32 := (if mj ≤ 0 then (0) else (1)); let r_22 : Int32 := (fX9_wants mn mx nx mq mv w_20 4 10).1; let nx_23 : Nat := (fX9_wants mn mx nx mq mv w_20 4 10).2.1; let mq_24 : Nat := (fX9_wants mn mx nx mq mv w_20 4 10).2.2.1; let mv_25 : Int32 := (fX9_wants mn mx nx mq mv w_20 4 10).2.2.2.1; let wr_26 : Int32 := (fX9_wants mn mx nx mq mv w_20 4 10).2.2.2.2; (r_22, nt, nl, nP, nS, nD, nx_23, mq_24, mv_25, wr_26, ts)) else (if c = 116 then (let nt_10 : Nat := (fX9_topItem np nt nP nS nD mn mx nx mq mv).1; let nP_11 : Nat → Int32 := (fX9_topItem np nt nP nS nD mn mx nx mq mv).2.1; let nS_12 : Nat → Int32 := (fX9_topItem np nt nP nS nD mn mx nx mq mv).2.2.1; let nD_13 : Nat → Int32 := (fX9_topItem np nt nP nS nD mn mx nx mq mv).2.2.2.1; let nx_14 : Nat := (fX9_topItem np nt nP nS nD mn mx nx mq mv).2.2.2.2.1; let mq_15 : Nat := (fX9_topItem np nt nP nS nD mn mx nx mq mv).2.2.2.2.2.1; let mv_16 : Int32 := (fX9_topItem np nt nP nS nD mn mx nx mq mv).2.2.2.2.2.2.1; let wr_17 : Int32 := (fX9_topItem np nt nP nS nD mn mx nx mq mv).2.2.2.2.2.2.2; (np, nt_10, nl, nP_11, nS_12, nD_13, nx_14, mq_15, mv_16, wr_17, ts)) else (if c = 108 then (let r_4 : Int32 := (fX9_wants mn mx nx mq mv ts 0 30).1; let nx_5 : Nat := (fX9_wants mn mx nx mq mv ts 0 30).2.1; let mq_6 : Nat := (fX9_wants mn mx nx mq mv ts 0 30).2.2.1; let mv_7 : Int32 := (fX9_wants mn mx nx mq mv ts 0 30).2.2.2.1; let wr_8 : Int32 := (fX9_wants mn mx nx mq mv ts 0 30).2.2.2.2; (np, nt, r_4, nP, nS, nD, nx_5, mq_6, mv_7, wr_8, 1)) else ((np, nt, nl, nP, nS, nD, nx, mq, mv, 1, ts)))) : (Int32) × (Nat) × (Int32) × (Nat → Int32) × (Nat → Int32) × (Nat → Int32) × (Nat) × (Nat) × (Int32) × (Int32) × (Int32)).1) → (nt_29 = (if c = 110 then (let w_20 : Int32 := (if mj ≤ 0 then (0) else (1)); let r_22 : Int32 := (fX9_wants mn mx nx mq mv w_20 4 10).1; let nx_23 : Nat := (fX9_wants mn mx nx mq mv w_20 4 10).2.1; let mq_24 : Nat := (fX9_wants mn mx nx mq mv w_20 4 10).2.2.1; let mv_25 : Int32 := (fX9_wants mn mx nx mq mv w_20 4 10).2.2.2.1; let wr_26 : Int32 := (fX9_wants mn mx nx mq mv w_20 4 10).2.2.2.2; (r_22, nt, nl, nP, nS, nD, nx_23, mq_24, mv_25, wr_26, ts)) else (if c = 116 then (let nt_10 : Nat := (fX9_topItem np nt nP nS nD mn mx nx mq mv).1; let nP_11 : Nat → Int32 := (fX9_topItem np nt nP nS nD mn mx nx mq mv).2.1; let nS_12 : Nat → Int32 := (fX9_topItem np nt nP nS nD mn mx nx mq mv).2.2.1; let nD_13 : Nat → Int32 := (fX9_topItem np nt nP nS nD mn mx nx mq mv).2.2.2.1; let nx_14 : Nat := (fX9_topItem np nt nP nS nD mn mx nx mq mv).2.2.2.2.1; let mq_15 : Nat := (fX9_topItem np nt nP nS nD mn mx nx mq mv).2.2.2.2.2.1; let mv_16 : Int32 := (fX9_topItem np nt nP nS nD mn mx nx mq mv).2.2.2.2.2.2.1; let wr_17 : Int32 := (fX9_topItem np nt nP nS nD mn mx nx mq mv).2.2.2.2.2.2.2; (np, nt_10, nl, nP_11, nS_12, nD_13, nx_14, mq_15, mv_16, wr_17, ts)) else (if c = 108 then (let r_4 : Int32 := (fX9_wants mn mx nx mq mv ts 0 30).1; let nx_5 : Nat := (fX9_wants mn mx nx mq mv ts 0 30).2.1; let mq_6 : Nat := (fX9_wants mn mx nx mq mv ts 0 30).2.2.1; let mv_7 : Int32 := (fX9_wants mn mx nx mq mv ts 0 30).2.2.2.1; let wr_8 : Int32 := (fX9_wants mn mx nx mq mv ts 0 30).2.2.2.2; (np, nt, r_4, nP, nS, nD, nx_5, mq_6, mv_7, wr_8, 1)) else ((np, nt, nl, nP, nS, nD, nx, mq, mv, 1, ts)))) : (Int32) × (Nat) × (Int32) × (Nat → Int32) × (Nat → Int32) × (Nat → Int32) × (Nat) × (Nat) × (Int32) × (Int32) × (Int32)).2.1) → (nl_30 = (if c = 110 then (let w_20 : Int32 := (if mj ≤ 0 then (0) else (1)); let r_22 : Int32 := (fX9_wants mn mx nx mq mv w_20 4 10).1; let nx_23 : Nat := (fX9_wants mn mx nx mq mv w_20 4 10).2.1; let mq_24 : Nat := (fX9_wants mn mx nx mq mv w_20 4 10).2.2.1; let mv_25 : Int32 := (fX9_wants mn mx nx mq mv w_20 4 10).2.2.2.1; let wr_26 : Int32 := (fX9_wants mn mx nx mq mv w_20 4 10).2.2.2.2; (r_22, nt, nl, nP, nS, nD, nx_23, mq_24, mv_25, wr_26, ts)) else (if c = 116 then (let nt_10 : Nat := (fX9_topItem np nt nP nS nD mn mx nx mq mv).1; let nP_11 : Nat → Int32 := (fX9_topItem np nt nP nS nD mn mx nx mq mv).2.1; let nS_12 : Nat → Int32 := (fX9_topItem np nt nP nS nD mn mx nx mq mv).2.2.1; let nD_13 : Nat → Int32 := (fX9_topItem np nt nP nS nD mn mx nx mq mv).2.2.2.1; let nx_14 : Nat := (fX9_topItem np nt nP nS nD mn mx nx mq mv).2.2.2.2.1; let mq_15 : Nat := (fX9_topItem np nt nP nS nD mn mx nx mq mv).2.2.2.2.2.1; let mv_16 : Int32 := (fX9_topItem np nt nP nS nD mn mx nx mq mv).2.2.2.2.2.2.1; let wr_17 : Int32 := (fX9_topItem np nt nP nS nD mn mx nx mq mv).2.2.2.2.2.2.2; (np, nt_10, nl, nP_11, nS_12, nD_13, nx_14, mq_15, mv_16, wr_17, ts)) else (if c = 108 then (let r_4 : Int32 := (fX9_wants mn mx nx mq mv ts 0 30).1; let nx_5 : Nat := (fX9_wants mn mx nx mq mv ts 0 30).2.1; let mq_6 : Nat := (fX9_wants mn mx nx mq mv ts 0 30).2.2.1; let mv_7 : Int32 := (fX9_wants mn mx nx mq mv ts 0 30).2.2.2.1; let wr_8 : Int32 := (fX9_wants mn mx nx mq mv ts 0 30).2.2.2.2; (np, nt, r_4, nP, nS, nD, nx_5, mq_6, mv_7, wr_8, 1)) else ((np, nt, nl, nP, nS, nD, nx, mq, mv, 1, ts)))) : (Int32) × (Nat) × (Int32) × (Nat → Int32) × (Nat → Int32) × (Nat → Int32) × (Nat) × (Nat) × (Int32) × (Int32) × (Int32)).2.2.1) → (nP_31 = (if c = 110 then (let w_20 : Int32 := (if mj ≤ 0 then (0) else (1)); let r_22 : Int32 := (fX9_wants mn mx nx mq mv w_20 4 10).1; let nx_23 : Nat := (fX9_wants mn mx nx mq mv w_20 4 10).2.1; let mq_24 : Nat := (fX9_wants mn mx nx mq mv w_20 4 10).2.2.1; let mv_25 : Int32 := (fX9_wants mn mx nx mq mv w_20 4 10).2.2.2.1; let wr_26 : Int32 := (fX9_wants mn mx nx mq mv w_20 4 10).2.2.2.2; (r_22, nt, nl, nP, nS, nD, nx_23, mq_24, mv_25, wr_26, ts)) else (if c = 116 then (let nt_10 : Nat := (fX9_topItem np nt nP nS nD mn mx nx mq mv).1; let nP_11 : Nat → Int32 := (fX9_topItem np nt nP nS nD mn mx nx mq mv).2.1; let nS_12 : Nat → Int32 := (fX9_topItem np nt nP nS nD mn mx nx mq mv).2.2.1; let nD_13 : Nat → Int32 := (fX9_topItem np nt nP nS nD mn mx nx mq mv).2.2.2.1; let nx_14 : Nat := (fX9_topItem np nt nP nS nD mn mx nx mq mv).2.2.2.2.1; let mq_15 : Nat := (fX9_topItem np nt nP nS nD mn mx nx mq mv).2.2.2.2.2.1; let mv_16 : Int32 := (fX9_topItem np nt nP nS nD mn mx nx mq mv).2.2.2.2.2.2.1; let wr_17 : Int32 := (fX9_topItem np nt nP nS nD mn mx nx mq mv).2.2.2.2.2.2.2; (np, nt_10, nl, nP_11, nS_12, nD_13, nx_14, mq_15, mv_16, wr_17, ts)) else (if c = 108 then (let r_4 : Int32 := (fX9_wants mn mx nx mq mv ts 0 30).1; let nx_5 : Nat := (fX9_wants mn mx nx mq mv ts 0 30).2.1; let mq_6 : Nat := (fX9_wants mn mx nx mq mv ts 0 30).2.2.1; let mv_7 : Int32 := (fX9_wants mn mx nx mq mv ts 0 30).2.2.2.1; let wr_8 : Int32 := (fX9_wants mn mx nx mq mv ts 0 30).2.2.2.2; (np, nt, r_4, nP, nS, nD, nx_5, mq_6, mv_7, wr_8, 1)) else ((np, nt, nl, nP, nS, nD, nx, mq, mv, 1, ts)))) : (Int32) × (Nat) × (Int32) × (Nat → Int32) × (Nat → Int32) × (Nat → Int32) × (Nat) × (Nat) × (Int32) × (Int32) × (Int32)).2.2.2.1) → (nS_32 = (if c = 110 then (let w_20 : Int32 := (if mj ≤ 0 then (0) else (1)); let r_22 : Int32 := (fX9_wants mn mx nx mq mv w_20 4 10).1; let nx_23 : Nat := (fX9_wants mn mx nx mq mv w_20 4 10).2.1; let mq_24 : Nat := (fX9_wants mn mx nx mq mv w_20 4 10).2.2.1; let mv_25 : Int32 := (fX9_wants mn mx nx mq mv w_20 4 10).2.2.2.1; let wr_26 : Int32 := (fX9_wants mn mx nx mq mv w_20 4 10).2.2.2.2; (r_22, nt, nl, nP, nS, nD, nx_23, mq_24, mv_25, wr_26, ts)) else (if c = 116 then (let nt_10 : Nat := (fX9_topItem np nt nP nS nD mn mx nx mq mv).1; let nP_11 : Nat → Int32 := (fX9_topItem np nt nP nS nD mn mx nx mq mv).2.1; let nS_12 : Nat → Int32 := (fX9_topItem np nt nP nS nD mn mx nx mq mv).2.2.1; let nD_13 : Nat → Int32 := (fX9_topItem np nt nP nS nD mn mx nx mq mv).2.2.2.1; let nx_14 : Nat := (fX9_topItem np nt nP nS nD mn mx nx mq mv).2.2.2.2.1; let mq_15 : Nat := (fX9_topItem np nt nP nS nD mn mx nx mq mv).2.2.2.2.2.1; let mv_16 : Int32 := (fX9_topItem np nt nP nS nD mn mx nx mq mv).2.2.2.2.2.2.1; let wr_17 : Int32 := (fX9_topItem np nt nP nS nD mn mx nx mq mv).2.2.2.2.2.2.2; (np, nt_10, nl, nP_11, nS_12, nD_13, nx_14, mq_15, mv_16, wr_17, ts)) else (if c = 108 then (let r_4 : Int32 := (fX9_wants mn mx nx mq mv ts 0 30).1; let nx_5 : Nat := (fX9_wants mn mx nx mq mv ts 0 30).2.1; let mq_6 : Nat := (fX9_wants mn mx nx mq mv ts 0 30).2.2.1; let mv_7 : Int32 := (fX9_wants mn mx nx mq mv ts 0 30).2.2.2.1; let wr_8 : Int32 := (fX9_wants mn mx nx mq mv ts 0 30).2.2.2.2; (np, nt, r_4, nP, nS, nD, nx_5, mq_6, mv_7, wr_8, 1)) else ((np, nt, nl, nP, nS, nD, nx, mq, mv, 1, ts)))) : (Int32) × (Nat) × (Int32) × (Nat → Int32) × (Nat → Int32) × (Nat → Int32) × (Nat) × (Nat) × (Int32) × (Int32) × (Int32)).2.2.2.2.1) → (nD_33 = (if c = 110 then (let w_20 : Int32 := (if mj ≤ 0 then (0) else (1)); let r_22 : Int32 := (fX9_wants mn mx nx mq mv w_20 4 10).1; let nx_23 : Nat := (fX9_wants mn mx nx mq mv w_20 4 10).2.1; let mq_24 : Nat := (fX9_wants mn mx nx mq mv w_20 4 10).2.2.1; let mv_25 : Int32 := (fX9_wants mn mx nx mq mv w_20 4 10).2.2.2.1; let wr_26 : Int32 := (fX9_wants mn mx nx mq mv w_20 4 10).2.2.2.2; (r_22, nt, nl, nP, nS, nD, nx_23, mq_24, mv_25, wr_26, ts)) else (if c = 116 then (let nt_10 : Nat := (fX9_topItem np nt nP nS nD mn mx nx mq mv).1; let nP_11 : Nat → Int32 := (fX9_topItem np nt nP nS nD mn mx nx mq mv).2.1; let nS_12 : Nat → Int32 := (fX9_topItem np nt nP nS nD mn mx nx mq mv).2.2.1; let nD_13 : Nat → Int32 := (fX9_topItem np nt nP nS nD mn mx nx mq mv).2.2.2.1; let nx_14 : Nat := (fX9_topItem np nt nP nS nD mn mx nx mq mv).2.2.2.2.1; let mq_15 : Nat := (fX9_topItem np nt nP nS nD mn mx nx mq mv).2.2.2.2.2.1; let mv_16 : Int32 := (fX9_topItem np nt nP nS nD mn mx nx mq mv).2.2.2.2.2.2.1; let wr_17 : Int32 := (fX9_topItem np nt nP nS nD mn mx nx mq mv).2.2.2.2.2.2.2; (np, nt_10, nl, nP_11, nS_12, nD_13, nx_14, mq_15, mv_16, wr_17, ts)) else (if c = 108 then (let r_4 : Int32 := (fX9_wants mn mx nx mq mv ts 0 30).1; let nx_5 : Nat := (fX9_wants mn mx nx mq mv ts 0 30).2.1; let mq_6 : Nat := (fX9_wants mn mx nx mq mv ts 0 30).2.2.1; let mv_7 : Int32 := (fX9_wants mn mx nx mq mv ts 0 30).2.2.2.1; let wr_8 : Int32 := (fX9_wants mn mx nx mq mv ts 0 30).2.2.2.2; (np, nt, r_4, nP, nS, nD, nx_5, mq_6, mv_7, wr_8, 1)) else ((np, nt, nl, nP, nS, nD, nx, mq, mv, 1, ts)))) : (Int32) × (Nat) × (Int32) × (Nat → Int32) × (Nat → Int32) × (Nat → Int32) × (Nat) × (Nat) × (Int32) × (Int32) × (Int32)).2.2.2.2.2.1) → (nx_34 = (if c = 110 then (let w_20 : Int32 := (if mj ≤ 0 then (0) else (1)); let r_22 : Int32 := (fX9_wants mn mx nx mq mv w_20 4 10).1; let nx_23 : Nat := (fX9_wants mn mx nx mq mv w_20 4 10).2.1; let mq_24 : Nat := (fX9_wants mn mx nx mq mv w_20 4 10).2.2.1; let mv_25 : Int32 := (fX9_wants mn mx nx mq mv w_20 4 10).2.2.2.1; let wr_26 : Int32 := (fX9_wants mn mx nx mq mv w_20 4 10).2.2.2.2; (r_22, nt, nl, nP, nS, nD, nx_23, mq_24, mv_25, wr_26, ts)) else (if c = 116 then (let nt_10 : Nat := (fX9_topItem np nt nP nS nD mn mx nx mq mv).1; let nP_11 : Nat → Int32 := (fX9_topItem np nt nP nS nD mn mx nx mq mv).2.1; let nS_12 : Nat → Int32 := (fX9_topItem np nt nP nS nD mn mx nx mq mv).2.2.1; let nD_13 : Nat → Int32 := (fX9_topItem np nt nP nS nD mn mx nx mq mv).2.2.2.1; let nx_14 : Nat := (fX9_topItem np nt nP nS nD mn mx nx mq mv).2.2.2.2.1; let mq_15 : Nat := (fX9_topItem np nt nP nS nD mn mx nx mq mv).2.2.2.2.2.1; let mv_16 : Int32 := (fX9_topItem np nt nP nS nD mn mx nx mq mv).2.2.2.2.2.2.1; let wr_17 : Int32 := (fX9_topItem np nt nP nS nD mn mx nx mq mv).2.2.2.2.2.2.2; (np, nt_10, nl, nP_11, nS_12, nD_13, nx_14, mq_15, mv_16, wr_17, ts)) else (if c = 108 then (let r_4 : Int32 := (fX9_wants mn mx nx mq mv ts 0 30).1; let nx_5 : Nat := (fX9_wants mn mx nx mq mv ts 0 30).2.1; let mq_6 : Nat := (fX9_wants mn mx nx mq mv ts 0 30).2.2.1; let mv_7 : Int32 := (fX9_wants mn mx nx mq mv ts 0 30).2.2.2.1; let wr_8 : Int32 := (fX9_wants mn mx nx mq mv ts 0 30).2.2.2.2; (np, nt, r_4, nP, nS, nD, nx_5, mq_6, mv_7, wr_8, 1)) else ((np, nt, nl, nP, nS, nD, nx, mq, mv, 1, ts)))) : (Int32) × (Nat) × (Int32) × (Nat → Int32) × (Nat → Int32) × (Nat → Int32) × (Nat) × (Nat) × (Int32) × (Int32) × (Int32)).2.2.2.2.2.2.1) → (mq_35 = (if c = 110 then (let w_20 : Int32 := (if mj ≤ 0 then (0) else (1)); let r_22 : Int32 := (fX9_wants mn mx nx mq mv w_20 4 10).1; let nx_23 : Nat := (fX9_wants mn mx nx mq mv w_20 4 10).2.1; let mq_24 : Nat := (fX9_wants mn mx nx mq mv w_20 4 10).2.2.1; let mv_25 : Int32 := (fX9_wants mn mx nx mq mv w_20 4 10).2.2.2.1; let wr_26 : Int32 := (fX9_wants mn mx nx mq mv w_20 4 10).2.2.2.2; (r_22, nt, nl, nP, nS, nD, nx_23, mq_24, mv_25, wr_26, ts)) else (if c = 116 then (let nt_10 : Nat := (fX9_topItem np nt nP nS nD mn mx nx mq mv).1; let nP_11 : Nat → Int32 := (fX9_topItem np nt nP nS nD mn mx nx mq mv).2.1; let nS_12 : Nat → Int32 := (fX9_topItem np nt nP nS nD mn mx nx mq mv).2.2.1; let nD_13 : Nat → Int32 := (fX9_topItem np nt nP nS nD mn mx nx mq mv).2.2.2.1; let nx_14 : Nat := (fX9_topItem np nt nP nS nD mn mx nx mq mv).2.2.2.2.1; let mq_15 : Nat := (fX9_topItem np nt nP nS nD mn mx nx mq mv).2.2.2.2.2.1; let mv_16 : Int32 := (fX9_topItem np nt nP nS nD mn mx nx mq mv).2.2.2.2.2.2.1; let wr_17 : Int32 := (fX9_topItem np nt nP nS nD mn mx nx mq mv).2.2.2.2.2.2.2; (np, nt_10, nl, nP_11, nS_12, nD_13, nx_14, mq_15, mv_16, wr_17, ts)) else (if c = 108 then (let r_4 : Int32 := (fX9_wants mn mx nx mq mv ts 0 30).1; let nx_5 : Nat := (fX9_wants mn mx nx mq mv ts 0 30).2.1; let mq_6 : Nat := (fX9_wants mn mx nx mq mv ts 0 30).2.2.1; let mv_7 : Int32 := (fX9_wants mn mx nx mq mv ts 0 30).2.2.2.1; let wr_8 : Int32 := (fX9_wants mn mx nx mq mv ts 0 30).2.2.2.2; (np, nt, r_4, nP, nS, nD, nx_5, mq_6, mv_7, wr_8, 1)) else ((np, nt, nl, nP, nS, nD, nx, mq, mv, 1, ts)))) : (Int32) × (Nat) × (Int32) × (Nat → Int32) × (Nat → Int32) × (Nat → Int32) × (Nat) × (Nat) × (Int32) × (Int32) × (Int32)).2.2.2.2.2.2.2.1) → (mv_36 = (if c = 110 then (let w_20 : Int32 := (if mj ≤ 0 then (0) else (1)); let r_22 : Int32 := (fX9_wants mn mx nx mq mv w_20 4 10).1; let nx_23 : Nat := (fX9_wants mn mx nx mq mv w_20 4 10).2.1; let mq_24 : Nat := (fX9_wants mn mx nx mq mv w_20 4 10).2.2.1; let mv_25 : Int32 := (fX9_wants mn mx nx mq mv w_20 4 10).2.2.2.1; let wr_26 : Int32 := (fX9_wants mn mx nx mq mv w_20 4 10).2.2.2.2; (r_22, nt, nl, nP, nS, nD, nx_23, mq_24, mv_25, wr_26, ts)) else (if c = 116 then (let nt_10 : Nat := (fX9_topItem np nt nP nS nD mn mx nx mq mv).1; let nP_11 : Nat → Int32 := (fX9_topItem np nt nP nS nD mn mx nx mq mv).2.1; let nS_12 : Nat → Int32 := (fX9_topItem np nt nP nS nD mn mx nx mq mv).2.2.1; let nD_13 : Nat → Int32 := (fX9_topItem np nt nP nS nD mn mx nx mq mv).2.2.2.1; let nx_14 : Nat := (fX9_topItem np nt nP nS nD mn mx nx mq mv).2.2.2.2.1; let mq_15 : Nat := (fX9_topItem np nt nP nS nD mn mx nx mq mv).2.2.2.2.2.1; let mv_16 : Int32 := (fX9_topItem np nt nP nS nD mn mx nx mq mv).2.2.2.2.2.2.1; let wr_17 : Int32 := (fX9_topItem np nt nP nS nD mn mx nx mq mv).2.2.2.2.2.2.2; (np, nt_10, nl, nP_11, nS_12, nD_13, nx_14, mq_15, mv_16, wr_17, ts)) else (if c = 108 then (let r_4 : Int32 := (fX9_wants mn mx nx mq mv ts 0 30).1; let nx_5 : Nat := (fX9_wants mn mx nx mq mv ts 0 30).2.1; let mq_6 : Nat := (fX9_wants mn mx nx mq mv ts 0 30).2.2.1; let mv_7 : Int32 := (fX9_wants mn mx nx mq mv ts 0 30).2.2.2.1; let wr_8 : Int32 := (fX9_wants mn mx nx mq mv ts 0 30).2.2.2.2; (np, nt, r_4, nP, nS, nD, nx_5, mq_6, mv_7, wr_8, 1)) else ((np, nt, nl, nP, nS, nD, nx, mq, mv, 1, ts)))) : (Int32) × (Nat) × (Int32) × (Nat → Int32) × (Nat → Int32) × (Nat → Int32) × (Nat) × (Nat) × (Int32) × (Int32) × (Int32)).2.2.2.2.2.2.2.2.1) → (wr_37 = (if c = 110 then (let w_20 : Int32 := (if mj ≤ 0 then (0) else (1)); let r_22 : Int32 := (fX9_wants mn mx nx mq mv w_20 4 10).1; let nx_23 : Nat := (fX9_wants mn mx nx mq mv w_20 4 10).2.1; let mq_24 : Nat := (fX9_wants mn mx nx mq mv w_20 4 10).2.2.1; let mv_25 : Int32 := (fX9_wants mn mx nx mq mv w_20 4 10).2.2.2.1; let wr_26 : Int32 := (fX9_wants mn mx nx mq mv w_20 4 10).2.2.2.2; (r_22, nt, nl, nP, nS, nD, nx_23, mq_24, mv_25, wr_26, ts)) else (if c = 116 then (let nt_10 : Nat := (fX9_topItem np nt nP nS nD mn mx nx mq mv).1; let nP_11 : Nat → Int32 := (fX9_topItem np nt nP nS nD mn mx nx mq mv).2.1; let nS_12 : Nat → Int32 := (fX9_topItem np nt nP nS nD mn mx nx mq mv).2.2.1; let nD_13 : Nat → Int32 := (fX9_topItem np nt nP nS nD mn mx nx mq mv).2.2.2.1; let nx_14 : Nat := (fX9_topItem np nt nP nS nD mn mx nx mq mv).2.2.2.2.1; let mq_15 : Nat := (fX9_topItem np nt nP nS nD mn mx nx mq mv).2.2.2.2.2.1; let mv_16 : Int32 := (fX9_topItem np nt nP nS nD mn mx nx mq mv).2.2.2.2.2.2.1; let wr_17 : Int32 := (fX9_topItem np nt nP nS nD mn mx nx mq mv).2.2.2.2.2.2.2; (np, nt_10, nl, nP_11, nS_12, nD_13, nx_14, mq_15, mv_16, wr_17, ts)) else (if c = 108 then (let r_4 : Int32 := (fX9_wants mn mx nx mq mv ts 0 30).1; let nx_5 : Nat := (fX9_wants mn mx nx mq mv ts 0 30).2.1; let mq_6 : Nat := (fX9_wants mn mx nx mq mv ts 0 30).2.2.1; let mv_7 : Int32 := (fX9_wants mn mx nx mq mv ts 0 30).2.2.2.1; let wr_8 : Int32 := (fX9_wants mn mx nx mq mv ts 0 30).2.2.2.2; (np, nt, r_4, nP, nS, nD, nx_5, mq_6, mv_7, wr_8, 1)) else ((np, nt, nl, nP, nS, nD, nx, mq, mv, 1, ts)))) : (Int32) × (Nat) × (Int32) × (Nat → Int32) × (Nat → Int32) × (Nat → Int32) × (Nat) × (Nat) × (Int32) × (Int32) × (Int32)).2.2.2.2.2.2.2.2.2.1) → (ts_38 = (if c = 110 then (let w_20 : Int32 := (if mj ≤ 0 then (0) else (1)); let r_22 : Int32 := (fX9_wants mn mx nx mq mv w_20 4 10).1; let nx_23 : Nat := (fX9_wants mn mx nx mq mv w_20 4 10).2.1; let mq_24 : Nat := (fX9_wants mn mx nx mq mv w_20 4 10).2.2.1; let mv_25 : Int32 := (fX9_wants mn mx nx mq mv w_20 4 10).2.2.2.1; let wr_26 : Int32 := (fX9_wants mn mx nx mq mv w_20 4 10).2.2.2.2; (r_22, nt, nl, nP, nS, nD, nx_23, mq_24, mv_25, wr_26, ts)) else (if c = 116 then (let nt_10 : Nat := (fX9_topItem np nt nP nS nD mn mx nx mq mv).1; let nP_11 : Nat → Int32 := (fX9_topItem np nt nP nS nD mn mx nx mq mv).2.1; let nS_12 : Nat → Int32 := (fX9_topItem np nt nP nS nD mn mx nx mq mv).2.2.1; let nD_13 : Nat → Int32 := (fX9_topItem np nt nP nS nD mn mx nx mq mv).2.2.2.1; let nx_14 : Nat := (fX9_topItem np nt nP nS nD mn mx nx mq mv).2.2.2.2.1; let mq_15 : Nat := (fX9_topItem np nt nP nS nD mn mx nx mq mv).2.2.2.2.2.1; let mv_16 : Int32 := (fX9_topItem np nt nP nS nD mn mx nx mq mv).2.2.2.2.2.2.1; let wr_17 : Int32 := (fX9_topItem np nt nP nS nD mn mx nx mq mv).2.2.2.2.2.2.2; (np, nt_10, nl, nP_11, nS_12, nD_13, nx_14, mq_15, mv_16, wr_17, ts)) else (if c = 108 then (let r_4 : Int32 := (fX9_wants mn mx nx mq mv ts 0 30).1; let nx_5 : Nat := (fX9_wants mn mx nx mq mv ts 0 30).2.1; let mq_6 : Nat := (fX9_wants mn mx nx mq mv ts 0 30).2.2.1; let mv_7 : Int32 := (fX9_wants mn mx nx mq mv ts 0 30).2.2.2.1; let wr_8 : Int32 := (fX9_wants mn mx nx mq mv ts 0 30).2.2.2.2; (np, nt, r_4, nP, nS, nD, nx_5, mq_6, mv_7, wr_8, 1)) else ((np, nt, nl, nP, nS, nD, nx, mq, mv, 1, ts)))) : (Int32) × (Nat) × (Int32) × (Nat → Int32) × (Nat → Int32) × (Nat → Int32) × (Nat) × (Nat) × (Int32) × (Int32) × (Int32)).2.2.2.2.2.2.2.2.2.2) → (nx_34 ≤ mn) → (nt_29 ≤ 6) → Vw g X 3 0 0 (fl [wMod g zm za1 za2 za3 za4 za5 za6 za7 za8 za9 zaa mp mt ml md np_28 nt_29 nl_30 nP_31 nS_32 nD_33 so ac mk mn mx nx_34 mq_35 mv_36 wr_37 ts_38 sn sF sB sS mm]) 84 [(0, .ref zm)] [] := by
    intro np_28 nt_29 nl_30 nP_31 nS_32 nD_33 nx_34 mq_35 mv_36 wr_37 ts_38 e_np_28 e_nt_29 e_nl_30 e_nP_31 e_nS_32 e_nD_33 e_nx_34 e_mq_35 e_mv_36 e_wr_37 e_ts_38 fJ_39_0 fJ_39_1
    refine r_aload_n (pc := 84) C dX9_item_84 0 rfl ?_
    refine r_aload_n (pc := 85) C dX9_item_85 0 rfl ?_
    refine r_get (pc := 86) C fl_X9_74 dX9_item_86 0 rfl rfl ?_
    refine r_ifne (pc := 89) 100 C dX9_item_89 (by decide) (fun c_40 => ?_) (fun c_40 => ?_)
    · refine r_iconst (pc := 100) 1 C dX9_item_100 rfl ?_
      refine r_goto (pc := 101) 105 C dX9_item_101 (by decide) ?_
      refine r_put (pc := 105) (fl [wMod g zm za1 za2 za3 za4 za5 za6 za7 za8 za9 zaa mp mt ml md np_28 nt_29 nl_30 nP_31 nS_32 nD_33 so ac mk mn mx nx_34 mq_35 mv_36 1 ts_38 sn sF sB sS mm]) C fp_X9_74 dX9_item_105 0 rfl (Nat.le_of_ble_eq_true rfl) rfl rfl rfl ?_
      have hf : fX9_item np nt nl nP nS nD mn mx nx mq mv ts c mj = (np_28, nt_29, nl_30, nP_31, nS_32, nD_33, nx_34, mq_35, mv_36, 1, ts_38) := by first | (simp only [fX9_item, ← e_np_28, ← e_nt_29, ← e_nl_30, ← e_nP_31, ← e_nS_32, ← e_nD_33, ← e_nx_34, ← e_mq_35, ← e_mv_36, ← e_wr_37, ← e_ts_38, if_neg c_40]; done) | (subst e_np_28 e_nt_29 e_nl_30 e_nP_31 e_nS_32 e_nD_33 e_nx_34 e_mq_35 e_mv_36 e_wr_37 e_ts_38; simp only [fX9_item, if_neg c_40]; done) | (subst e_np_28 e_nt_29 e_nl_30 e_nP_31 e_nS_32 e_nD_33 e_nx_34 e_mq_35 e_mv_36 e_wr_37 e_ts_38; rfl) | (subst e_np_28 e_nt_29 e_nl_30 e_nP_31 e_nS_32 e_nD_33 e_nx_34 e_mq_35 e_mv_36 e_wr_37 e_ts_38; simp [fX9_item, if_neg c_40]; done)
      rw [hf] at hR
      exact hR _ _ dX9_item_108
    · refine r_aload_n (pc := 92) C dX9_item_92 0 rfl ?_
      obtain ⟨r_41, e_r_41⟩ : ∃ z : Int32, z = (fX9_token mn mx nx_34 mv_36).1 := ⟨_, rfl⟩
      obtain ⟨nx_42, e_nx_42⟩ : ∃ z : Nat, z = (fX9_token mn mx nx_34 mv_36).2.1 := ⟨_, rfl⟩
      obtain ⟨mq_43, e_mq_43⟩ : ∃ z : Nat, z = (fX9_token mn mx nx_34 mv_36).2.2.1 := ⟨_, rfl⟩
      obtain ⟨mv_44, e_mv_44⟩ : ∃ z : Int32, z = (fX9_token mn mx nx_34 mv_36).2.2.2 := ⟨_, rfl⟩
      have K_45 := ctX9_token l g zm za1 za2 za3 za4 za5 za6 za7 za8 za9 zaa mp mt ml md np_28 nt_29 nl_30 nP_31 nS_32 nD_33 so ac mk mn mx nx_34 mq_35 mv_36 wr_37 ts_38 sn sF sB sS mm  (by omega) (by omega)
      rw [← e_r_41, ← e_nx_42, ← e_mq_43, ← e_mv_44] at K_45
      refine w_cI (pc := 93) [wMod g zm za1 za2 za3 za4 za5 za6 za7 za8 za9 zaa mp mt ml md np_28 nt_29 nl_30 nP_31 nS_32 nD_33 so ac mk mn mx nx_42 mq_43 mv_44 wr_37 ts_38 sn sF sB sS mm] C mv_X9_78 K_45 dX9_item_93 (by decide) [0] rfl (by decide) (by simp only [List.map_cons, List.map_nil, adMod]) rfl 0 rfl rfl (Nat.le_of_ble_eq_true rfl) ⟨Nat.zero_le _, Nat.zero_le _⟩ ?_
      have po0_93 : nx_42 ≤ mn := by rw [e_nx_42]; exact token_le mn mx nx_34 mv_36 (by omega)
      have po1_93 : nx_34 ≤ nx_42 := by rw [e_nx_42]; exact token_ge mn mx nx_34 mv_36
      refine r_iconst (pc := 96) 2 C dX9_item_96 rfl ?_
      refine r_icmpeq (pc := 97) 104 C dX9_item_97 (by decide) (fun c_46 => ?_) (fun c_46 => ?_)
      · refine r_iconst (pc := 104) 0 C dX9_item_104 rfl ?_
        refine r_put (pc := 105) (fl [wMod g zm za1 za2 za3 za4 za5 za6 za7 za8 za9 zaa mp mt ml md np_28 nt_29 nl_30 nP_31 nS_32 nD_33 so ac mk mn mx nx_42 mq_43 mv_44 0 ts_38 sn sF sB sS mm]) C fp_X9_74 dX9_item_105 0 rfl (Nat.le_of_ble_eq_true rfl) rfl rfl rfl ?_
        have hf : fX9_item np nt nl nP nS nD mn mx nx mq mv ts c mj = (np_28, nt_29, nl_30, nP_31, nS_32, nD_33, nx_42, mq_43, mv_44, 0, ts_38) := by first | (simp only [fX9_item, ← e_np_28, ← e_nt_29, ← e_nl_30, ← e_nP_31, ← e_nS_32, ← e_nD_33, ← e_nx_34, ← e_mq_35, ← e_mv_36, ← e_wr_37, ← e_ts_38, ← e_r_41, ← e_nx_42, ← e_mq_43, ← e_mv_44, if_pos c_40, if_pos c_46]; done) | (subst e_np_28 e_nt_29 e_nl_30 e_nP_31 e_nS_32 e_nD_33 e_nx_34 e_mq_35 e_mv_36 e_wr_37 e_ts_38 e_r_41 e_nx_42 e_mq_43 e_mv_44; simp only [fX9_item, if_pos c_40, if_pos c_46]; done) | (subst e_np_28 e_nt_29 e_nl_30 e_nP_31 e_nS_32 e_nD_33 e_nx_34 e_mq_35 e_mv_36 e_wr_37 e_ts_38 e_r_41 e_nx_42 e_mq_43 e_mv_44; rfl) | (subst e_np_28 e_nt_29 e_nl_30 e_nP_31 e_nS_32 e_nD_33 e_nx_34 e_mq_35 e_mv_36 e_wr_37 e_ts_38 e_r_41 e_nx_42 e_mq_43 e_mv_44; simp [fX9_item, if_pos c_40, if_pos c_46]; done)
        rw [hf] at hR
        exact hR _ _ dX9_item_108
      · refine r_iconst (pc := 100) 1 C dX9_item_100 rfl ?_
        refine r_goto (pc := 101) 105 C dX9_item_101 (by decide) ?_
        refine r_put (pc := 105) (fl [wMod g zm za1 za2 za3 za4 za5 za6 za7 za8 za9 zaa mp mt ml md np_28 nt_29 nl_30 nP_31 nS_32 nD_33 so ac mk mn mx nx_42 mq_43 mv_44 1 ts_38 sn sF sB sS mm]) C fp_X9_74 dX9_item_105 0 rfl (Nat.le_of_ble_eq_true rfl) rfl rfl rfl ?_
        have hf : fX9_item np nt nl nP nS nD mn mx nx mq mv ts c mj = (np_28, nt_29, nl_30, nP_31, nS_32, nD_33, nx_42, mq_43, mv_44, 1, ts_38) := by first | (simp only [fX9_item, ← e_np_28, ← e_nt_29, ← e_nl_30, ← e_nP_31, ← e_nS_32, ← e_nD_33, ← e_nx_34, ← e_mq_35, ← e_mv_36, ← e_wr_37, ← e_ts_38, ← e_r_41, ← e_nx_42, ← e_mq_43, ← e_mv_44, if_pos c_40, if_neg c_46]; done) | (subst e_np_28 e_nt_29 e_nl_30 e_nP_31 e_nS_32 e_nD_33 e_nx_34 e_mq_35 e_mv_36 e_wr_37 e_ts_38 e_r_41 e_nx_42 e_mq_43 e_mv_44; simp only [fX9_item, if_pos c_40, if_neg c_46]; done) | (subst e_np_28 e_nt_29 e_nl_30 e_nP_31 e_nS_32 e_nD_33 e_nx_34 e_mq_35 e_mv_36 e_wr_37 e_ts_38 e_r_41 e_nx_42 e_mq_43 e_mv_44; rfl) | (subst e_np_28 e_nt_29 e_nl_30 e_nP_31 e_nS_32 e_nD_33 e_nx_34 e_mq_35 e_mv_36 e_wr_37 e_ts_38 e_r_41 e_nx_42 e_mq_43 e_mv_44; simp [fX9_item, if_pos c_40, if_neg c_46]; done)
        rw [hf] at hR
        exact hR _ _ dX9_item_108
  refine r_icmpne (pc := 3) 33 C dX9_item_3 (by decide) (fun c_1 => ?_) (fun c_1 => ?_)
  · refine r_iload_n (pc := 33) C dX9_item_33 1 rfl ?_
    refine r_bipush (pc := 34) 116 C dX9_item_34 rfl ?_
    refine r_icmpne (pc := 36) 46 C dX9_item_36 (by decide) (fun c_2 => ?_) (fun c_2 => ?_)
    · refine r_iload_n (pc := 46) C dX9_item_46 1 rfl ?_
      refine r_bipush (pc := 47) 108 C dX9_item_47 rfl ?_
      refine r_icmpne (pc := 49) 79 C dX9_item_49 (by decide) (fun c_3 => ?_) (fun c_3 => ?_)
      · refine r_aload_n (pc := 79) C dX9_item_79 0 rfl ?_
        refine r_iconst (pc := 80) 1 C dX9_item_80 rfl ?_
        refine r_put (pc := 81) (fl [wMod g zm za1 za2 za3 za4 za5 za6 za7 za8 za9 zaa mp mt ml md np nt nl nP nS nD so ac mk mn mx nx mq mv 1 ts sn sF sB sS mm]) C fp_X9_74 dX9_item_81 0 rfl (Nat.le_of_ble_eq_true rfl) rfl rfl rfl ?_
        refine u_lv [(0, .ref zm)] [0] rfl ?_
        exact hJ_39 _ _ _ _ _ _ _ _ _ _ _ (by first | (simp only [if_neg c_1, if_neg c_2, if_neg c_3]; done) | rfl | (simp [if_neg c_1, if_neg c_2, if_neg c_3]; done)) (by first | (simp only [if_neg c_1, if_neg c_2, if_neg c_3]; done) | rfl | (simp [if_neg c_1, if_neg c_2, if_neg c_3]; done)) (by first | (simp only [if_neg c_1, if_neg c_2, if_neg c_3]; done) | rfl | (simp [if_neg c_1, if_neg c_2, if_neg c_3]; done)) (by first | (simp only [if_neg c_1, if_neg c_2, if_neg c_3]; done) | rfl | (simp [if_neg c_1, if_neg c_2, if_neg c_3]; done)) (by first | (simp only [if_neg c_1, if_neg c_2, if_neg c_3]; done) | rfl | (simp [if_neg c_1, if_neg c_2, if_neg c_3]; done)) (by first | (simp only [if_neg c_1, if_neg c_2, if_neg c_3]; done) | rfl | (simp [if_neg c_1, if_neg c_2, if_neg c_3]; done)) (by first | (simp only [if_neg c_1, if_neg c_2, if_neg c_3]; done) | rfl | (simp [if_neg c_1, if_neg c_2, if_neg c_3]; done)) (by first | (simp only [if_neg c_1, if_neg c_2, if_neg c_3]; done) | rfl | (simp [if_neg c_1, if_neg c_2, if_neg c_3]; done)) (by first | (simp only [if_neg c_1, if_neg c_2, if_neg c_3]; done) | rfl | (simp [if_neg c_1, if_neg c_2, if_neg c_3]; done)) (by first | (simp only [if_neg c_1, if_neg c_2, if_neg c_3]; done) | rfl | (simp [if_neg c_1, if_neg c_2, if_neg c_3]; done)) (by first | (simp only [if_neg c_1, if_neg c_2, if_neg c_3]; done) | rfl | (simp [if_neg c_1, if_neg c_2, if_neg c_3]; done)) (by omega) (by omega)
      · refine r_aload_n (pc := 52) C dX9_item_52 0 rfl ?_
        refine r_aload_n (pc := 53) C dX9_item_53 0 rfl ?_
        refine r_get (pc := 54) C fl_X9_95 dX9_item_54 0 rfl rfl ?_
        refine r_put (pc := 57) (fl [wMod g zm za1 za2 za3 za4 za5 za6 za7 za8 za9 zaa mp mt ml md np nt nl nP nS nD so ac mk mn mx nx mq mv ts ts sn sF sB sS mm]) C fp_X9_74 dX9_item_57 0 rfl (Nat.le_of_ble_eq_true rfl) (nar_b q3) (fit_b q3) rfl ?_
        refine r_aload_n (pc := 60) C dX9_item_60 0 rfl ?_
        refine r_aload_n (pc := 61) C dX9_item_61 0 rfl ?_
        refine r_iconst (pc := 62) 0 C dX9_item_62 rfl ?_
        refine r_bipush (pc := 63) 30 C dX9_item_63 rfl ?_
        obtain ⟨r_4, e_r_4⟩ : ∃ z : Int32, z = (fX9_wants mn mx nx mq mv ts 0 30).1 := ⟨_, rfl⟩
        obtain ⟨nx_5, e_nx_5⟩ : ∃ z : Nat, z = (fX9_wants mn mx nx mq mv ts 0 30).2.1 := ⟨_, rfl⟩
        obtain ⟨mq_6, e_mq_6⟩ : ∃ z : Nat, z = (fX9_wants mn mx nx mq mv ts 0 30).2.2.1 := ⟨_, rfl⟩
        obtain ⟨mv_7, e_mv_7⟩ : ∃ z : Int32, z = (fX9_wants mn mx nx mq mv ts 0 30).2.2.2.1 := ⟨_, rfl⟩
        obtain ⟨wr_8, e_wr_8⟩ : ∃ z : Int32, z = (fX9_wants mn mx nx mq mv ts 0 30).2.2.2.2 := ⟨_, rfl⟩
        have K_9 := ctX9_wants l g zm za1 za2 za3 za4 za5 za6 za7 za8 za9 zaa mp mt ml md np nt nl nP nS nD so ac mk mn mx nx mq mv ts ts sn sF sB sS mm 0 30 (by omega) (by omega)
        rw [← e_r_4, ← e_nx_5, ← e_mq_6, ← e_mv_7, ← e_wr_8] at K_9
        refine w_cI (pc := 65) [wMod g zm za1 za2 za3 za4 za5 za6 za7 za8 za9 zaa mp mt ml md np nt nl nP nS nD so ac mk mn mx nx_5 mq_6 mv_7 wr_8 ts sn sF sB sS mm] C mv_X9_88 K_9 dX9_item_65 (by decide) [0] rfl (by decide) (by simp only [List.map_cons, List.map_nil, adMod]) rfl 0 rfl rfl (Nat.le_of_ble_eq_true rfl) ⟨Nat.zero_le _, Nat.zero_le _⟩ ?_
        have po0_65 : nx_5 ≤ mn := by rw [e_nx_5]; exact wants_le mn mx nx mq mv ts 0 30 (by omega)
        have po1_65 : wr_8 = 0 → ts = 0 := by rw [e_wr_8]; exact wants_wr mn mx nx mq mv ts 0 30
        refine r_put (pc := 68) (fl [wMod g zm za1 za2 za3 za4 za5 za6 za7 za8 za9 zaa mp mt ml md np nt r_4 nP nS nD so ac mk mn mx nx_5 mq_6 mv_7 wr_8 ts sn sF sB sS mm]) C fp_X9_98 dX9_item_68 0 rfl (Nat.le_of_ble_eq_true rfl) rfl rfl rfl ?_
        refine r_aload_n (pc := 71) C dX9_item_71 0 rfl ?_
        refine r_iconst (pc := 72) 1 C dX9_item_72 rfl ?_
        refine r_put (pc := 73) (fl [wMod g zm za1 za2 za3 za4 za5 za6 za7 za8 za9 zaa mp mt ml md np nt r_4 nP nS nD so ac mk mn mx nx_5 mq_6 mv_7 wr_8 1 sn sF sB sS mm]) C fp_X9_95 dX9_item_73 0 rfl (Nat.le_of_ble_eq_true rfl) rfl rfl rfl ?_
        refine r_goto (pc := 76) 84 C dX9_item_76 (by decide) ?_
        refine u_lv [(0, .ref zm)] [0] rfl ?_
        exact hJ_39 _ _ _ _ _ _ _ _ _ _ _ (by first | (simp only [← e_r_4, ← e_nx_5, ← e_mq_6, ← e_mv_7, ← e_wr_8, if_neg c_1, if_neg c_2, if_pos c_3]; done) | (subst e_r_4 e_nx_5 e_mq_6 e_mv_7 e_wr_8; simp only [if_neg c_1, if_neg c_2, if_pos c_3]; done) | (subst e_r_4 e_nx_5 e_mq_6 e_mv_7 e_wr_8; rfl) | (subst e_r_4 e_nx_5 e_mq_6 e_mv_7 e_wr_8; simp [if_neg c_1, if_neg c_2, if_pos c_3]; done)) (by first | (simp only [← e_r_4, ← e_nx_5, ← e_mq_6, ← e_mv_7, ← e_wr_8, if_neg c_1, if_neg c_2, if_pos c_3]; done) | (subst e_r_4 e_nx_5 e_mq_6 e_mv_7 e_wr_8; simp only [if_neg c_1, if_neg c_2, if_pos c_3]; done) | (subst e_r_4 e_nx_5 e_mq_6 e_mv_7 e_wr_8; rfl) | (subst e_r_4 e_nx_5 e_mq_6 e_mv_7 e_wr_8; simp [if_neg c_1, if_neg c_2, if_pos c_3]; done)) (by first | (simp only [← e_r_4, ← e_nx_5, ← e_mq_6, ← e_mv_7, ← e_wr_8, if_neg c_1, if_neg c_2, if_pos c_3]; done) | (subst e_r_4 e_nx_5 e_mq_6 e_mv_7 e_wr_8; simp only [if_neg c_1, if_neg c_2, if_pos c_3]; done) | (subst e_r_4 e_nx_5 e_mq_6 e_mv_7 e_wr_8; rfl) | (subst e_r_4 e_nx_5 e_mq_6 e_mv_7 e_wr_8; simp [if_neg c_1, if_neg c_2, if_pos c_3]; done)) (by first | (simp only [← e_r_4, ← e_nx_5, ← e_mq_6, ← e_mv_7, ← e_wr_8, if_neg c_1, if_neg c_2, if_pos c_3]; done) | (subst e_r_4 e_nx_5 e_mq_6 e_mv_7 e_wr_8; simp only [if_neg c_1, if_neg c_2, if_pos c_3]; done) | (subst e_r_4 e_nx_5 e_mq_6 e_mv_7 e_wr_8; rfl) | (subst e_r_4 e_nx_5 e_mq_6 e_mv_7 e_wr_8; simp [if_neg c_1, if_neg c_2, if_pos c_3]; done)) (by first | (simp only [← e_r_4, ← e_nx_5, ← e_mq_6, ← e_mv_7, ← e_wr_8, if_neg c_1, if_neg c_2, if_pos c_3]; done) | (subst e_r_4 e_nx_5 e_mq_6 e_mv_7 e_wr_8; simp only [if_neg c_1, if_neg c_2, if_pos c_3]; done) | (subst e_r_4 e_nx_5 e_mq_6 e_mv_7 e_wr_8; rfl) | (subst e_r_4 e_nx_5 e_mq_6 e_mv_7 e_wr_8; simp [if_neg c_1, if_neg c_2, if_pos c_3]; done)) (by first | (simp only [← e_r_4, ← e_nx_5, ← e_mq_6, ← e_mv_7, ← e_wr_8, if_neg c_1, if_neg c_2, if_pos c_3]; done) | (subst e_r_4 e_nx_5 e_mq_6 e_mv_7 e_wr_8; simp only [if_neg c_1, if_neg c_2, if_pos c_3]; done) | (subst e_r_4 e_nx_5 e_mq_6 e_mv_7 e_wr_8; rfl) | (subst e_r_4 e_nx_5 e_mq_6 e_mv_7 e_wr_8; simp [if_neg c_1, if_neg c_2, if_pos c_3]; done)) (by first | (simp only [← e_r_4, ← e_nx_5, ← e_mq_6, ← e_mv_7, ← e_wr_8, if_neg c_1, if_neg c_2, if_pos c_3]; done) | (subst e_r_4 e_nx_5 e_mq_6 e_mv_7 e_wr_8; simp only [if_neg c_1, if_neg c_2, if_pos c_3]; done) | (subst e_r_4 e_nx_5 e_mq_6 e_mv_7 e_wr_8; rfl) | (subst e_r_4 e_nx_5 e_mq_6 e_mv_7 e_wr_8; simp [if_neg c_1, if_neg c_2, if_pos c_3]; done)) (by first | (simp only [← e_r_4, ← e_nx_5, ← e_mq_6, ← e_mv_7, ← e_wr_8, if_neg c_1, if_neg c_2, if_pos c_3]; done) | (subst e_r_4 e_nx_5 e_mq_6 e_mv_7 e_wr_8; simp only [if_neg c_1, if_neg c_2, if_pos c_3]; done) | (subst e_r_4 e_nx_5 e_mq_6 e_mv_7 e_wr_8; rfl) | (subst e_r_4 e_nx_5 e_mq_6 e_mv_7 e_wr_8; simp [if_neg c_1, if_neg c_2, if_pos c_3]; done)) (by first | (simp only [← e_r_4, ← e_nx_5, ← e_mq_6, ← e_mv_7, ← e_wr_8, if_neg c_1, if_neg c_2, if_pos c_3]; done) | (subst e_r_4 e_nx_5 e_mq_6 e_mv_7 e_wr_8; simp only [if_neg c_1, if_neg c_2, if_pos c_3]; done) | (subst e_r_4 e_nx_5 e_mq_6 e_mv_7 e_wr_8; rfl) | (subst e_r_4 e_nx_5 e_mq_6 e_mv_7 e_wr_8; simp [if_neg c_1, if_neg c_2, if_pos c_3]; done)) (by first | (simp only [← e_r_4, ← e_nx_5, ← e_mq_6, ← e_mv_7, ← e_wr_8, if_neg c_1, if_neg c_2, if_pos c_3]; done) | (subst e_r_4 e_nx_5 e_mq_6 e_mv_7 e_wr_8; simp only [if_neg c_1, if_neg c_2, if_pos c_3]; done) | (subst e_r_4 e_nx_5 e_mq_6 e_mv_7 e_wr_8; rfl) | (subst e_r_4 e_nx_5 e_mq_6 e_mv_7 e_wr_8; simp [if_neg c_1, if_neg c_2, if_pos c_3]; done)) (by first | (simp only [← e_r_4, ← e_nx_5, ← e_mq_6, ← e_mv_7, ← e_wr_8, if_neg c_1, if_neg c_2, if_pos c_3]; done) | (subst e_r_4 e_nx_5 e_mq_6 e_mv_7 e_wr_8; simp only [if_neg c_1, if_neg c_2, if_pos c_3]; done) | (subst e_r_4 e_nx_5 e_mq_6 e_mv_7 e_wr_8; rfl) | (subst e_r_4 e_nx_5 e_mq_6 e_mv_7 e_wr_8; simp [if_neg c_1, if_neg c_2, if_pos c_3]; done)) (by omega) (by omega)
    · refine r_aload_n (pc := 39) C dX9_item_39 0 rfl ?_
      obtain ⟨nt_10, e_nt_10⟩ : ∃ z : Nat, z = (fX9_topItem np nt nP nS nD mn mx nx mq mv).1 := ⟨_, rfl⟩
      obtain ⟨nP_11, e_nP_11⟩ : ∃ z : Nat → Int32, z = (fX9_topItem np nt nP nS nD mn mx nx mq mv).2.1 := ⟨_, rfl⟩
      obtain ⟨nS_12, e_nS_12⟩ : ∃ z : Nat → Int32, z = (fX9_topItem np nt nP nS nD mn mx nx mq mv).2.2.1 := ⟨_, rfl⟩
      obtain ⟨nD_13, e_nD_13⟩ : ∃ z : Nat → Int32, z = (fX9_topItem np nt nP nS nD mn mx nx mq mv).2.2.2.1 := ⟨_, rfl⟩
      obtain ⟨nx_14, e_nx_14⟩ : ∃ z : Nat, z = (fX9_topItem np nt nP nS nD mn mx nx mq mv).2.2.2.2.1 := ⟨_, rfl⟩
      obtain ⟨mq_15, e_mq_15⟩ : ∃ z : Nat, z = (fX9_topItem np nt nP nS nD mn mx nx mq mv).2.2.2.2.2.1 := ⟨_, rfl⟩
      obtain ⟨mv_16, e_mv_16⟩ : ∃ z : Int32, z = (fX9_topItem np nt nP nS nD mn mx nx mq mv).2.2.2.2.2.2.1 := ⟨_, rfl⟩
      obtain ⟨wr_17, e_wr_17⟩ : ∃ z : Int32, z = (fX9_topItem np nt nP nS nD mn mx nx mq mv).2.2.2.2.2.2.2 := ⟨_, rfl⟩
      have K_18 := ctX9_topItem l g zm za1 za2 za3 za4 za5 za6 za7 za8 za9 zaa mp mt ml md np nt nl nP nS nD so ac mk mn mx nx mq mv wr ts sn sF sB sS mm  (by omega) (by omega) (by omega)
      rw [← e_nt_10, ← e_nP_11, ← e_nS_12, ← e_nD_13, ← e_nx_14, ← e_mq_15, ← e_mv_16, ← e_wr_17] at K_18
      refine w_cV (pc := 40) [wMod g zm za1 za2 za3 za4 za5 za6 za7 za8 za9 zaa mp mt ml md np nt_10 nl nP_11 nS_12 nD_13 so ac mk mn mx nx_14 mq_15 mv_16 wr_17 ts sn sF sB sS mm] C mv_X9_92 K_18 dX9_item_40 (by decide) [0] rfl (by decide) (by simp only [List.map_cons, List.map_nil, adMod]) rfl 0 rfl rfl (Nat.le_of_ble_eq_true rfl) ⟨Nat.zero_le _, Nat.zero_le _⟩ ?_
      have po0_40 : nx_14 ≤ mn := by rw [e_nx_14]; exact topItem_le np nt nP nS nD mn mx nx mq mv (by omega)
      have po1_40 : nt_10 ≤ 6 := by rw [e_nt_10]; exact topItem_nt np nt nP nS nD mn mx nx mq mv (by omega)
      refine r_goto (pc := 43) 84 C dX9_item_43 (by decide) ?_
      refine u_lv [(0, .ref zm)] [0] rfl ?_
      exact hJ_39 _ _ _ _ _ _ _ _ _ _ _ (by first | (simp only [← e_nt_10, ← e_nP_11, ← e_nS_12, ← e_nD_13, ← e_nx_14, ← e_mq_15, ← e_mv_16, ← e_wr_17, if_neg c_1, if_pos c_2]; done) | (subst e_nt_10 e_nP_11 e_nS_12 e_nD_13 e_nx_14 e_mq_15 e_mv_16 e_wr_17; simp only [if_neg c_1, if_pos c_2]; done) | (subst e_nt_10 e_nP_11 e_nS_12 e_nD_13 e_nx_14 e_mq_15 e_mv_16 e_wr_17; rfl) | (subst e_nt_10 e_nP_11 e_nS_12 e_nD_13 e_nx_14 e_mq_15 e_mv_16 e_wr_17; simp [if_neg c_1, if_pos c_2]; done)) (by first | (simp only [← e_nt_10, ← e_nP_11, ← e_nS_12, ← e_nD_13, ← e_nx_14, ← e_mq_15, ← e_mv_16, ← e_wr_17, if_neg c_1, if_pos c_2]; done) | (subst e_nt_10 e_nP_11 e_nS_12 e_nD_13 e_nx_14 e_mq_15 e_mv_16 e_wr_17; simp only [if_neg c_1, if_pos c_2]; done) | (subst e_nt_10 e_nP_11 e_nS_12 e_nD_13 e_nx_14 e_mq_15 e_mv_16 e_wr_17; rfl) | (subst e_nt_10 e_nP_11 e_nS_12 e_nD_13 e_nx_14 e_mq_15 e_mv_16 e_wr_17; simp [if_neg c_1, if_pos c_2]; done)) (by first | (simp only [← e_nt_10, ← e_nP_11, ← e_nS_12, ← e_nD_13, ← e_nx_14, ← e_mq_15, ← e_mv_16, ← e_wr_17, if_neg c_1, if_pos c_2]; done) | (subst e_nt_10 e_nP_11 e_nS_12 e_nD_13 e_nx_14 e_mq_15 e_mv_16 e_wr_17; simp only [if_neg c_1, if_pos c_2]; done) | (subst e_nt_10 e_nP_11 e_nS_12 e_nD_13 e_nx_14 e_mq_15 e_mv_16 e_wr_17; rfl) | (subst e_nt_10 e_nP_11 e_nS_12 e_nD_13 e_nx_14 e_mq_15 e_mv_16 e_wr_17; simp [if_neg c_1, if_pos c_2]; done)) (by first | (simp only [← e_nt_10, ← e_nP_11, ← e_nS_12, ← e_nD_13, ← e_nx_14, ← e_mq_15, ← e_mv_16, ← e_wr_17, if_neg c_1, if_pos c_2]; done) | (subst e_nt_10 e_nP_11 e_nS_12 e_nD_13 e_nx_14 e_mq_15 e_mv_16 e_wr_17; simp only [if_neg c_1, if_pos c_2]; done) | (subst e_nt_10 e_nP_11 e_nS_12 e_nD_13 e_nx_14 e_mq_15 e_mv_16 e_wr_17; rfl) | (subst e_nt_10 e_nP_11 e_nS_12 e_nD_13 e_nx_14 e_mq_15 e_mv_16 e_wr_17; simp [if_neg c_1, if_pos c_2]; done)) (by first | (simp only [← e_nt_10, ← e_nP_11, ← e_nS_12, ← e_nD_13, ← e_nx_14, ← e_mq_15, ← e_mv_16, ← e_wr_17, if_neg c_1, if_pos c_2]; done) | (subst e_nt_10 e_nP_11 e_nS_12 e_nD_13 e_nx_14 e_mq_15 e_mv_16 e_wr_17; simp only [if_neg c_1, if_pos c_2]; done) | (subst e_nt_10 e_nP_11 e_nS_12 e_nD_13 e_nx_14 e_mq_15 e_mv_16 e_wr_17; rfl) | (subst e_nt_10 e_nP_11 e_nS_12 e_nD_13 e_nx_14 e_mq_15 e_mv_16 e_wr_17; simp [if_neg c_1, if_pos c_2]; done)) (by first | (simp only [← e_nt_10, ← e_nP_11, ← e_nS_12, ← e_nD_13, ← e_nx_14, ← e_mq_15, ← e_mv_16, ← e_wr_17, if_neg c_1, if_pos c_2]; done) | (subst e_nt_10 e_nP_11 e_nS_12 e_nD_13 e_nx_14 e_mq_15 e_mv_16 e_wr_17; simp only [if_neg c_1, if_pos c_2]; done) | (subst e_nt_10 e_nP_11 e_nS_12 e_nD_13 e_nx_14 e_mq_15 e_mv_16 e_wr_17; rfl) | (subst e_nt_10 e_nP_11 e_nS_12 e_nD_13 e_nx_14 e_mq_15 e_mv_16 e_wr_17; simp [if_neg c_1, if_pos c_2]; done)) (by first | (simp only [← e_nt_10, ← e_nP_11, ← e_nS_12, ← e_nD_13, ← e_nx_14, ← e_mq_15, ← e_mv_16, ← e_wr_17, if_neg c_1, if_pos c_2]; done) | (subst e_nt_10 e_nP_11 e_nS_12 e_nD_13 e_nx_14 e_mq_15 e_mv_16 e_wr_17; simp only [if_neg c_1, if_pos c_2]; done) | (subst e_nt_10 e_nP_11 e_nS_12 e_nD_13 e_nx_14 e_mq_15 e_mv_16 e_wr_17; rfl) | (subst e_nt_10 e_nP_11 e_nS_12 e_nD_13 e_nx_14 e_mq_15 e_mv_16 e_wr_17; simp [if_neg c_1, if_pos c_2]; done)) (by first | (simp only [← e_nt_10, ← e_nP_11, ← e_nS_12, ← e_nD_13, ← e_nx_14, ← e_mq_15, ← e_mv_16, ← e_wr_17, if_neg c_1, if_pos c_2]; done) | (subst e_nt_10 e_nP_11 e_nS_12 e_nD_13 e_nx_14 e_mq_15 e_mv_16 e_wr_17; simp only [if_neg c_1, if_pos c_2]; done) | (subst e_nt_10 e_nP_11 e_nS_12 e_nD_13 e_nx_14 e_mq_15 e_mv_16 e_wr_17; rfl) | (subst e_nt_10 e_nP_11 e_nS_12 e_nD_13 e_nx_14 e_mq_15 e_mv_16 e_wr_17; simp [if_neg c_1, if_pos c_2]; done)) (by first | (simp only [← e_nt_10, ← e_nP_11, ← e_nS_12, ← e_nD_13, ← e_nx_14, ← e_mq_15, ← e_mv_16, ← e_wr_17, if_neg c_1, if_pos c_2]; done) | (subst e_nt_10 e_nP_11 e_nS_12 e_nD_13 e_nx_14 e_mq_15 e_mv_16 e_wr_17; simp only [if_neg c_1, if_pos c_2]; done) | (subst e_nt_10 e_nP_11 e_nS_12 e_nD_13 e_nx_14 e_mq_15 e_mv_16 e_wr_17; rfl) | (subst e_nt_10 e_nP_11 e_nS_12 e_nD_13 e_nx_14 e_mq_15 e_mv_16 e_wr_17; simp [if_neg c_1, if_pos c_2]; done)) (by first | (simp only [← e_nt_10, ← e_nP_11, ← e_nS_12, ← e_nD_13, ← e_nx_14, ← e_mq_15, ← e_mv_16, ← e_wr_17, if_neg c_1, if_pos c_2]; done) | (subst e_nt_10 e_nP_11 e_nS_12 e_nD_13 e_nx_14 e_mq_15 e_mv_16 e_wr_17; simp only [if_neg c_1, if_pos c_2]; done) | (subst e_nt_10 e_nP_11 e_nS_12 e_nD_13 e_nx_14 e_mq_15 e_mv_16 e_wr_17; rfl) | (subst e_nt_10 e_nP_11 e_nS_12 e_nD_13 e_nx_14 e_mq_15 e_mv_16 e_wr_17; simp [if_neg c_1, if_pos c_2]; done)) (by first | (simp only [← e_nt_10, ← e_nP_11, ← e_nS_12, ← e_nD_13, ← e_nx_14, ← e_mq_15, ← e_mv_16, ← e_wr_17, if_neg c_1, if_pos c_2]; done) | (subst e_nt_10 e_nP_11 e_nS_12 e_nD_13 e_nx_14 e_mq_15 e_mv_16 e_wr_17; simp only [if_neg c_1, if_pos c_2]; done) | (subst e_nt_10 e_nP_11 e_nS_12 e_nD_13 e_nx_14 e_mq_15 e_mv_16 e_wr_17; rfl) | (subst e_nt_10 e_nP_11 e_nS_12 e_nD_13 e_nx_14 e_mq_15 e_mv_16 e_wr_17; simp [if_neg c_1, if_pos c_2]; done)) (by omega) (by omega)
  · refine r_aload_n (pc := 6) C dX9_item_6 0 rfl ?_
    refine r_iload_n (pc := 7) C dX9_item_7 2 rfl ?_
    have hJ_21 : ∀ (w_20 : Int32) , (w_20 = (if mj ≤ 0 then (0) else (1))) → (nx ≤ mn) → (nt ≤ 6) → Vw g X 3 0 0 (fl [wMod g zm za1 za2 za3 za4 za5 za6 za7 za8 za9 zaa mp mt ml md np nt nl nP nS nD so ac mk mn mx nx mq mv wr ts sn sF sB sS mm]) 16 [(0, .ref zm)] [.int w_20, .ref zm] := by
      intro w_20 e_w_20 fJ_21_0 fJ_21_1
      have m_w_20 : w_20 = 0 ∨ w_20 = 1 := by rw [e_w_20]; (repeat' split) <;> simp
      refine r_put (pc := 16) (fl [wMod g zm za1 za2 za3 za4 za5 za6 za7 za8 za9 zaa mp mt ml md np nt nl nP nS nD so ac mk mn mx nx mq mv w_20 ts sn sF sB sS mm]) C fp_X9_74 dX9_item_16 0 rfl (Nat.le_of_ble_eq_true rfl) (nar_b m_w_20) (fit_b m_w_20) rfl ?_
      refine r_aload_n (pc := 19) C dX9_item_19 0 rfl ?_
      refine r_aload_n (pc := 20) C dX9_item_20 0 rfl ?_
      refine r_iconst (pc := 21) 4 C dX9_item_21 rfl ?_
      refine r_bipush (pc := 22) 10 C dX9_item_22 rfl ?_
      obtain ⟨r_22, e_r_22⟩ : ∃ z : Int32, z = (fX9_wants mn mx nx mq mv w_20 4 10).1 := ⟨_, rfl⟩
      obtain ⟨nx_23, e_nx_23⟩ : ∃ z : Nat, z = (fX9_wants mn mx nx mq mv w_20 4 10).2.1 := ⟨_, rfl⟩
      obtain ⟨mq_24, e_mq_24⟩ : ∃ z : Nat, z = (fX9_wants mn mx nx mq mv w_20 4 10).2.2.1 := ⟨_, rfl⟩
      obtain ⟨mv_25, e_mv_25⟩ : ∃ z : Int32, z = (fX9_wants mn mx nx mq mv w_20 4 10).2.2.2.1 := ⟨_, rfl⟩
      obtain ⟨wr_26, e_wr_26⟩ : ∃ z : Int32, z = (fX9_wants mn mx nx mq mv w_20 4 10).2.2.2.2 := ⟨_, rfl⟩
      have K_27 := ctX9_wants l g zm za1 za2 za3 za4 za5 za6 za7 za8 za9 zaa mp mt ml md np nt nl nP nS nD so ac mk mn mx nx mq mv w_20 ts sn sF sB sS mm 4 10 (by omega) (by omega)
      rw [← e_r_22, ← e_nx_23, ← e_mq_24, ← e_mv_25, ← e_wr_26] at K_27
      refine w_cI (pc := 24) [wMod g zm za1 za2 za3 za4 za5 za6 za7 za8 za9 zaa mp mt ml md np nt nl nP nS nD so ac mk mn mx nx_23 mq_24 mv_25 wr_26 ts sn sF sB sS mm] C mv_X9_88 K_27 dX9_item_24 (by decide) [0] rfl (by decide) (by simp only [List.map_cons, List.map_nil, adMod]) rfl 0 rfl rfl (Nat.le_of_ble_eq_true rfl) ⟨Nat.zero_le _, Nat.zero_le _⟩ ?_
      have po0_24 : nx_23 ≤ mn := by rw [e_nx_23]; exact wants_le mn mx nx mq mv w_20 4 10 (by omega)
      have po1_24 : wr_26 = 0 → w_20 = 0 := by rw [e_wr_26]; exact wants_wr mn mx nx mq mv w_20 4 10
      refine r_put (pc := 27) (fl [wMod g zm za1 za2 za3 za4 za5 za6 za7 za8 za9 zaa mp mt ml md r_22 nt nl nP nS nD so ac mk mn mx nx_23 mq_24 mv_25 wr_26 ts sn sF sB sS mm]) C fp_X9_85 dX9_item_27 0 rfl (Nat.le_of_ble_eq_true rfl) rfl rfl rfl ?_
      refine r_goto (pc := 30) 84 C dX9_item_30 (by decide) ?_
      exact hJ_39 _ _ _ _ _ _ _ _ _ _ _ (by first | (simp only [← e_w_20, ← e_r_22, ← e_nx_23, ← e_mq_24, ← e_mv_25, ← e_wr_26, if_pos c_1]; done) | (subst e_w_20 e_r_22 e_nx_23 e_mq_24 e_mv_25 e_wr_26; simp only [if_pos c_1]; done) | (subst e_w_20 e_r_22 e_nx_23 e_mq_24 e_mv_25 e_wr_26; rfl) | (subst e_w_20 e_r_22 e_nx_23 e_mq_24 e_mv_25 e_wr_26; simp [if_pos c_1]; done)) (by first | (simp only [← e_w_20, ← e_r_22, ← e_nx_23, ← e_mq_24, ← e_mv_25, ← e_wr_26, if_pos c_1]; done) | (subst e_w_20 e_r_22 e_nx_23 e_mq_24 e_mv_25 e_wr_26; simp only [if_pos c_1]; done) | (subst e_w_20 e_r_22 e_nx_23 e_mq_24 e_mv_25 e_wr_26; rfl) | (subst e_w_20 e_r_22 e_nx_23 e_mq_24 e_mv_25 e_wr_26; simp [if_pos c_1]; done)) (by first | (simp only [← e_w_20, ← e_r_22, ← e_nx_23, ← e_mq_24, ← e_mv_25, ← e_wr_26, if_pos c_1]; done) | (subst e_w_20 e_r_22 e_nx_23 e_mq_24 e_mv_25 e_wr_26; simp only [if_pos c_1]; done) | (subst e_w_20 e_r_22 e_nx_23 e_mq_24 e_mv_25 e_wr_26; rfl) | (subst e_w_20 e_r_22 e_nx_23 e_mq_24 e_mv_25 e_wr_26; simp [if_pos c_1]; done)) (by first | (simp only [← e_w_20, ← e_r_22, ← e_nx_23, ← e_mq_24, ← e_mv_25, ← e_wr_26, if_pos c_1]; done) | (subst e_w_20 e_r_22 e_nx_23 e_mq_24 e_mv_25 e_wr_26; simp only [if_pos c_1]; done) | (subst e_w_20 e_r_22 e_nx_23 e_mq_24 e_mv_25 e_wr_26; rfl) | (subst e_w_20 e_r_22 e_nx_23 e_mq_24 e_mv_25 e_wr_26; simp [if_pos c_1]; done)) (by first | (simp only [← e_w_20, ← e_r_22, ← e_nx_23, ← e_mq_24, ← e_mv_25, ← e_wr_26, if_pos c_1]; done) | (subst e_w_20 e_r_22 e_nx_23 e_mq_24 e_mv_25 e_wr_26; simp only [if_pos c_1]; done) | (subst e_w_20 e_r_22 e_nx_23 e_mq_24 e_mv_25 e_wr_26; rfl) | (subst e_w_20 e_r_22 e_nx_23 e_mq_24 e_mv_25 e_wr_26; simp [if_pos c_1]; done)) (by first | (simp only [← e_w_20, ← e_r_22, ← e_nx_23, ← e_mq_24, ← e_mv_25, ← e_wr_26, if_pos c_1]; done) | (subst e_w_20 e_r_22 e_nx_23 e_mq_24 e_mv_25 e_wr_26; simp only [if_pos c_1]; done) | (subst e_w_20 e_r_22 e_nx_23 e_mq_24 e_mv_25 e_wr_26; rfl) | (subst e_w_20 e_r_22 e_nx_23 e_mq_24 e_mv_25 e_wr_26; simp [if_pos c_1]; done)) (by first | (simp only [← e_w_20, ← e_r_22, ← e_nx_23, ← e_mq_24, ← e_mv_25, ← e_wr_26, if_pos c_1]; done) | (subst e_w_20 e_r_22 e_nx_23 e_mq_24 e_mv_25 e_wr_26; simp only [if_pos c_1]; done) | (subst e_w_20 e_r_22 e_nx_23 e_mq_24 e_mv_25 e_wr_26; rfl) | (subst e_w_20 e_r_22 e_nx_23 e_mq_24 e_mv_25 e_wr_26; simp [if_pos c_1]; done)) (by first | (simp only [← e_w_20, ← e_r_22, ← e_nx_23, ← e_mq_24, ← e_mv_25, ← e_wr_26, if_pos c_1]; done) | (subst e_w_20 e_r_22 e_nx_23 e_mq_24 e_mv_25 e_wr_26; simp only [if_pos c_1]; done) | (subst e_w_20 e_r_22 e_nx_23 e_mq_24 e_mv_25 e_wr_26; rfl) | (subst e_w_20 e_r_22 e_nx_23 e_mq_24 e_mv_25 e_wr_26; simp [if_pos c_1]; done)) (by first | (simp only [← e_w_20, ← e_r_22, ← e_nx_23, ← e_mq_24, ← e_mv_25, ← e_wr_26, if_pos c_1]; done) | (subst e_w_20 e_r_22 e_nx_23 e_mq_24 e_mv_25 e_wr_26; simp only [if_pos c_1]; done) | (subst e_w_20 e_r_22 e_nx_23 e_mq_24 e_mv_25 e_wr_26; rfl) | (subst e_w_20 e_r_22 e_nx_23 e_mq_24 e_mv_25 e_wr_26; simp [if_pos c_1]; done)) (by first | (simp only [← e_w_20, ← e_r_22, ← e_nx_23, ← e_mq_24, ← e_mv_25, ← e_wr_26, if_pos c_1]; done) | (subst e_w_20 e_r_22 e_nx_23 e_mq_24 e_mv_25 e_wr_26; simp only [if_pos c_1]; done) | (subst e_w_20 e_r_22 e_nx_23 e_mq_24 e_mv_25 e_wr_26; rfl) | (subst e_w_20 e_r_22 e_nx_23 e_mq_24 e_mv_25 e_wr_26; simp [if_pos c_1]; done)) (by first | (simp only [← e_w_20, ← e_r_22, ← e_nx_23, ← e_mq_24, ← e_mv_25, ← e_wr_26, if_pos c_1]; done) | (subst e_w_20 e_r_22 e_nx_23 e_mq_24 e_mv_25 e_wr_26; simp only [if_pos c_1]; done) | (subst e_w_20 e_r_22 e_nx_23 e_mq_24 e_mv_25 e_wr_26; rfl) | (subst e_w_20 e_r_22 e_nx_23 e_mq_24 e_mv_25 e_wr_26; simp [if_pos c_1]; done)) (by omega) (by omega)
    refine r_ifle (pc := 8) 15 C dX9_item_8 (by decide) (fun c_19 => ?_) (fun c_19 => ?_)
    · refine r_iconst (pc := 15) 0 C dX9_item_15 rfl ?_
      refine u_lv [(0, .ref zm)] [0] rfl ?_
      exact hJ_21 _ (by first | (simp only [if_pos c_19]; done) | rfl | (simp [if_pos c_19]; done)) (by omega) (by omega)
    · refine r_iconst (pc := 11) 1 C dX9_item_11 rfl ?_
      refine r_goto (pc := 12) 16 C dX9_item_12 (by decide) ?_
      refine u_lv [(0, .ref zm)] [0] rfl ?_
      exact hJ_21 _ (by first | (simp only [if_neg c_19]; done) | rfl | (simp [if_neg c_19]; done)) (by omega) (by omega)
theorem ctX9_item (l : Launch) (g : Gl) (zm : Nat) (za1 : Nat) (za2 : Nat) (za3 : Nat) (za4 : Nat) (za5 : Nat) (za6 : Nat) (za7 : Nat) (za8 : Nat) (za9 : Nat) (zaa : Nat) (mp : Int32) (mt : Nat) (ml : Int32) (md : Nat → Int32) (np : Int32) (nt : Nat) (nl : Int32) (nP : Nat → Int32) (nS : Nat → Int32) (nD : Nat → Int32) (so : Nat → Int32) (ac : Nat) (mk : Nat → Int32) (mn : Nat) (mx : Nat → Int32) (nx : Nat) (mq : Nat) (mv : Int32) (wr : Int32) (ts : Int32) (sn : Nat) (sF : Nat → Int32) (sB : Nat → Int32) (sS : Nat → Int32) (mm : Int64) (c : Int32) (mj : Int32) (q0 : nx ≤ mn) (q1 : mn ≤ 120) (q2 : nt ≤ 6) (q3 : ts = 0 ∨ ts = 1) : CtV l g yX9_item cX9_item 3 4 [.ref zm, .int c, .int mj] (fl [wMod g zm za1 za2 za3 za4 za5 za6 za7 za8 za9 zaa mp mt ml md np nt nl nP nS nD so ac mk mn mx nx mq mv wr ts sn sF sB sS mm]) (fl [wMod g zm za1 za2 za3 za4 za5 za6 za7 za8 za9 zaa mp mt ml md ((fX9_item np nt nl nP nS nD mn mx nx mq mv ts c mj).1) ((fX9_item np nt nl nP nS nD mn mx nx mq mv ts c mj).2.1) ((fX9_item np nt nl nP nS nD mn mx nx mq mv ts c mj).2.2.1) ((fX9_item np nt nl nP nS nD mn mx nx mq mv ts c mj).2.2.2.1) ((fX9_item np nt nl nP nS nD mn mx nx mq mv ts c mj).2.2.2.2.1) ((fX9_item np nt nl nP nS nD mn mx nx mq mv ts c mj).2.2.2.2.2.1) so ac mk mn mx ((fX9_item np nt nl nP nS nD mn mx nx mq mv ts c mj).2.2.2.2.2.2.1) ((fX9_item np nt nl nP nS nD mn mx nx mq mv ts c mj).2.2.2.2.2.2.2.1) ((fX9_item np nt nl nP nS nD mn mx nx mq mv ts c mj).2.2.2.2.2.2.2.2.1) ((fX9_item np nt nl nP nS nD mn mx nx mq mv ts c mj).2.2.2.2.2.2.2.2.2.1) ((fX9_item np nt nl nP nS nD mn mx nx mq mv ts c mj).2.2.2.2.2.2.2.2.2.2) sn sF sB sS mm]) := mkV [(0, .ref zm), (1, .int c), (2, .int mj)] (by decide) (Nat.le_of_ble_eq_true rfl) rfl (fun X C hR => bX9_item C zm za1 za2 za3 za4 za5 za6 za7 za8 za9 zaa mp mt ml md np nt nl nP nS nD so ac mk mn mx nx mq mv wr ts sn sF sB sS mm c mj q0 q1 q2 q3 hR)
theorem item_all (np : Int32) (nt : Nat) (nl : Int32) (nP nS nD : Nat → Int32) (mn : Nat) (mx : Nat → Int32) (nx mq : Nat) (mv ts c mj : Int32) : (nx ≤ mn → (fX9_item np nt nl nP nS nD mn mx nx mq mv ts c mj).2.2.2.2.2.2.1 ≤ mn) ∧ (nt ≤ 6 → (fX9_item np nt nl nP nS nD mn mx nx mq mv ts c mj).2.1 ≤ 6) ∧ ((ts = 0 ∨ ts = 1) → ((fX9_item np nt nl nP nS nD mn mx nx mq mv ts c mj).2.2.2.2.2.2.2.2.2.2 = 0 ∨ (fX9_item np nt nl nP nS nD mn mx nx mq mv ts c mj).2.2.2.2.2.2.2.2.2.2 = 1)) ∧ ((fX9_item np nt nl nP nS nD mn mx nx mq mv ts c mj).2.2.2.2.2.2.2.2.2.1 = 0 → nx + 1 ≤ (fX9_item np nt nl nP nS nD mn mx nx mq mv ts c mj).2.2.2.2.2.2.1) := by
  by_cases c1 : c = 110
  · rcases h1 : fX9_wants mn mx nx mq mv (if mj ≤ 0 then 0 else 1) 4 10 with ⟨r1, n1, q1, v1, w1⟩
    have a1 := wants_le mn mx nx mq mv (if mj ≤ 0 then 0 else 1) 4 10
    have b1 := wants_ge mn mx nx mq mv (if mj ≤ 0 then 0 else 1) 4 10
    rw [h1] at a1 b1
    simp only at a1 b1
    have a2 := token_le mn mx n1 v1
    have b2 := token_ge mn mx n1 v1
    have d2 := token_2 mn mx n1 v1
    rcases h2 : fX9_token mn mx n1 v1 with ⟨r2, n2, q2, v2⟩
    rw [h2] at a2 b2 d2
    simp only at a2 b2 d2
    simp only [fX9_item, if_pos c1, h1, h2]
    by_cases c5 : w1 = 0
    · simp only [if_pos c5]
      by_cases c6 : r2 = 2
      · simp only [if_pos c6]
        exact ⟨fun h => a2 (a1 h), fun h => h, fun h => h, fun _ => Nat.le_trans (Nat.succ_le_succ b1) (d2 c6)⟩
      · simp only [if_neg c6]
        exact ⟨fun h => a2 (a1 h), fun h => h, fun h => h, fun h => absurd h (by decide)⟩
    · simp only [if_neg c5]
      exact ⟨fun h => a1 h, fun h => h, fun h => h, fun h => absurd h (by decide)⟩
  · by_cases c2 : c = 116
    · rcases h1 : fX9_topItem np nt nP nS nD mn mx nx mq mv with ⟨t1, P1, S1, D1, n1, q1, v1, w1⟩
      have a1 := topItem_le np nt nP nS nD mn mx nx mq mv
      have b1 := topItem_ge np nt nP nS nD mn mx nx mq mv
      have e1 := topItem_nt np nt nP nS nD mn mx nx mq mv
      rw [h1] at a1 b1 e1
      simp only at a1 b1 e1
      have a2 := token_le mn mx n1 v1
      have b2 := token_ge mn mx n1 v1
      have d2 := token_2 mn mx n1 v1
      rcases h2 : fX9_token mn mx n1 v1 with ⟨r2, n2, q2, v2⟩
      rw [h2] at a2 b2 d2
      simp only at a2 b2 d2
      simp only [fX9_item, if_neg c1, if_pos c2, h1, h2]
      by_cases c5 : w1 = 0
      · simp only [if_pos c5]
        by_cases c6 : r2 = 2
        · simp only [if_pos c6]
          exact ⟨fun h => a2 (a1 h), e1, fun h => h, fun _ => Nat.le_trans (Nat.succ_le_succ b1) (d2 c6)⟩
        · simp only [if_neg c6]
          exact ⟨fun h => a2 (a1 h), e1, fun h => h, fun h => absurd h (by decide)⟩
      · simp only [if_neg c5]
        exact ⟨fun h => a1 h, e1, fun h => h, fun h => absurd h (by decide)⟩
    · by_cases c3 : c = 108
      · rcases h1 : fX9_wants mn mx nx mq mv ts 0 30 with ⟨r1, n1, q1, v1, w1⟩
        have a1 := wants_le mn mx nx mq mv ts 0 30
        have b1 := wants_ge mn mx nx mq mv ts 0 30
        rw [h1] at a1 b1
        simp only at a1 b1
        have a2 := token_le mn mx n1 v1
        have b2 := token_ge mn mx n1 v1
        have d2 := token_2 mn mx n1 v1
        rcases h2 : fX9_token mn mx n1 v1 with ⟨r2, n2, q2, v2⟩
        rw [h2] at a2 b2 d2
        simp only at a2 b2 d2
        simp only [fX9_item, if_neg c1, if_neg c2, if_pos c3, h1, h2]
        by_cases c5 : w1 = 0
        · simp only [if_pos c5]
          by_cases c6 : r2 = 2
          · simp only [if_pos c6]
            exact ⟨fun h => a2 (a1 h), fun h => h, fun _ => by simp, fun _ => Nat.le_trans (Nat.succ_le_succ b1) (d2 c6)⟩
          · simp only [if_neg c6]
            exact ⟨fun h => a2 (a1 h), fun h => h, fun _ => by simp, fun h => absurd h (by decide)⟩
        · simp only [if_neg c5]
          exact ⟨fun h => a1 h, fun h => h, fun _ => by simp, fun h => absurd h (by decide)⟩
      · simp only [fX9_item, if_neg c1, if_neg c2, if_neg c3, if_neg (show ¬ (1 : Int32) = 0 by decide)]
        exact ⟨fun h => h, fun h => h, fun h => h, fun h => absurd h (by decide)⟩
theorem item_le (np : Int32) (nt : Nat) (nl : Int32) (nP nS nD : Nat → Int32) (mn : Nat) (mx : Nat → Int32) (nx mq : Nat) (mv ts c mj : Int32) (h : nx ≤ mn) : (fX9_item np nt nl nP nS nD mn mx nx mq mv ts c mj).2.2.2.2.2.2.1 ≤ mn := (item_all np nt nl nP nS nD mn mx nx mq mv ts c mj).1 h
theorem item_nt (np : Int32) (nt : Nat) (nl : Int32) (nP nS nD : Nat → Int32) (mn : Nat) (mx : Nat → Int32) (nx mq : Nat) (mv ts c mj : Int32) (h : nt ≤ 6) : (fX9_item np nt nl nP nS nD mn mx nx mq mv ts c mj).2.1 ≤ 6 := (item_all np nt nl nP nS nD mn mx nx mq mv ts c mj).2.1 h
theorem item_ts (np : Int32) (nt : Nat) (nl : Int32) (nP nS nD : Nat → Int32) (mn : Nat) (mx : Nat → Int32) (nx mq : Nat) (mv ts c mj : Int32) (h : ts = 0 ∨ ts = 1) : (fX9_item np nt nl nP nS nD mn mx nx mq mv ts c mj).2.2.2.2.2.2.2.2.2.2 = 0 ∨ (fX9_item np nt nl nP nS nD mn mx nx mq mv ts c mj).2.2.2.2.2.2.2.2.2.2 = 1 := (item_all np nt nl nP nS nD mn mx nx mq mv ts c mj).2.2.1 h
theorem item_prog (np : Int32) (nt : Nat) (nl : Int32) (nP nS nD : Nat → Int32) (mn : Nat) (mx : Nat → Int32) (nx mq : Nat) (mv ts c mj : Int32) : (fX9_item np nt nl nP nS nD mn mx nx mq mv ts c mj).2.2.2.2.2.2.2.2.2.1 = 0 → nx + 1 ≤ (fX9_item np nt nl nP nS nD mn mx nx mq mv ts c mj).2.2.2.2.2.2.1 := (item_all np nt nl nP nS nD mn mx nx mq mv ts c mj).2.2.2

def lX9_tray_39 (mn : Nat) (mx : Nat → Int32) : Nat → (Int32) → (Int32) → (Int32) → (Nat) → (Int32) → (Nat → Int32) → (Nat → Int32) → (Nat → Int32) → (Nat) → (Nat) → (Int32) → (Int32) → (Int32) → (Int32) × (Int32) × (Nat) × (Int32) × (Nat → Int32) × (Nat → Int32) × (Nat → Int32) × (Nat) × (Nat) × (Int32) × (Int32) × (Int32)
  | 0, x1_6, x2_6, np0_6, nt0_6, nl0_6, nP0_6, nS0_6, nD0_6, nx0_6, mq0_6, mv0_6, wr0_6, ts0_6 => ((x1_6, np0_6, nt0_6, nl0_6, nP0_6, nS0_6, nD0_6, nx0_6, mq0_6, mv0_6, wr0_6, ts0_6))
  | n + 1, x1_6, x2_6, np0_6, nt0_6, nl0_6, nP0_6, nS0_6, nD0_6, nx0_6, mq0_6, mv0_6, wr0_6, ts0_6 => (if x2_6 = 4 then ((x1_6, np0_6, nt0_6, nl0_6, nP0_6, nS0_6, nD0_6, nx0_6, mq0_6, mv0_6, wr0_6, ts0_6)) else (if wr0_6 = 0 then (let w_10 : Int32 := (if 5 ≤ x2_6 then (x2_6) else (0)); let np_12 : Int32 := (fX9_item np0_6 nt0_6 nl0_6 nP0_6 nS0_6 nD0_6 mn mx nx0_6 mq0_6 mv0_6 ts0_6 w_10 x1_6).1; let nt_13 : Nat := (fX9_item np0_6 nt0_6 nl0_6 nP0_6 nS0_6 nD0_6 mn mx nx0_6 mq0_6 mv0_6 ts0_6 w_10 x1_6).2.1; let nl_14 : Int32 := (fX9_item np0_6 nt0_6 nl0_6 nP0_6 nS0_6 nD0_6 mn mx nx0_6 mq0_6 mv0_6 ts0_6 w_10 x1_6).2.2.1; let nP_15 : Nat → Int32 := (fX9_item np0_6 nt0_6 nl0_6 nP0_6 nS0_6 nD0_6 mn mx nx0_6 mq0_6 mv0_6 ts0_6 w_10 x1_6).2.2.2.1; let nS_16 : Nat → Int32 := (fX9_item np0_6 nt0_6 nl0_6 nP0_6 nS0_6 nD0_6 mn mx nx0_6 mq0_6 mv0_6 ts0_6 w_10 x1_6).2.2.2.2.1; let nD_17 : Nat → Int32 := (fX9_item np0_6 nt0_6 nl0_6 nP0_6 nS0_6 nD0_6 mn mx nx0_6 mq0_6 mv0_6 ts0_6 w_10 x1_6).2.2.2.2.2.1; let nx_18 : Nat := (fX9_item np0_6 nt0_6 nl0_6 nP0_6 nS0_6 nD0_6 mn mx nx0_6 mq0_6 mv0_6 ts0_6 w_10 x1_6).2.2.2.2.2.2.1; let mq_19 : Nat := (fX9_item np0_6 nt0_6 nl0_6 nP0_6 nS0_6 nD0_6 mn mx nx0_6 mq0_6 mv0_6 ts0_6 w_10 x1_6).2.2.2.2.2.2.2.1; let mv_20 : Int32 := (fX9_item np0_6 nt0_6 nl0_6 nP0_6 nS0_6 nD0_6 mn mx nx0_6 mq0_6 mv0_6 ts0_6 w_10 x1_6).2.2.2.2.2.2.2.2.1; let wr_21 : Int32 := (fX9_item np0_6 nt0_6 nl0_6 nP0_6 nS0_6 nD0_6 mn mx nx0_6 mq0_6 mv0_6 ts0_6 w_10 x1_6).2.2.2.2.2.2.2.2.2.1; let ts_22 : Int32 := (fX9_item np0_6 nt0_6 nl0_6 nP0_6 nS0_6 nD0_6 mn mx nx0_6 mq0_6 mv0_6 ts0_6 w_10 x1_6).2.2.2.2.2.2.2.2.2.2; if wr_21 = 0 then (let r_25 : Int32 := (fX9_token mn mx nx_18 mv_20).1; let nx_26 : Nat := (fX9_token mn mx nx_18 mv_20).2.1; let mq_27 : Nat := (fX9_token mn mx nx_18 mv_20).2.2.1; let mv_28 : Int32 := (fX9_token mn mx nx_18 mv_20).2.2.2; lX9_tray_39 mn mx n (x1_6 + 1) r_25 np_12 nt_13 nl_14 nP_15 nS_16 nD_17 nx_26 mq_27 mv_28 wr_21 ts_22) else (lX9_tray_39 mn mx n (x1_6 + 1) x2_6 np_12 nt_13 nl_14 nP_15 nS_16 nD_17 nx_18 mq_19 mv_20 wr_21 ts_22)) else ((x1_6, np0_6, nt0_6, nl0_6, nP0_6, nS0_6, nD0_6, nx0_6, mq0_6, mv0_6, wr0_6, ts0_6))))
def fX9_tray (mp : Int32) (mt : Nat) (ml : Int32) (md : Nat → Int32) (nP : Nat → Int32) (nS : Nat → Int32) (nD : Nat → Int32) (so : Nat → Int32) (ac : Nat) (mk : Nat → Int32) (mn : Nat) (mx : Nat → Int32) (mv : Int32) (sn : Nat) : (Int32) × (Int32) × (Nat) × (Int32) × (Nat → Int32) × (Int32) × (Nat) × (Int32) × (Nat → Int32) × (Nat → Int32) × (Nat → Int32) × (Nat → Int32) × (Nat) × (Nat → Int32) × (Nat) × (Nat) × (Nat) × (Int32) × (Int32) × (Int32) × (Nat) := (let r_1 : Int32 := (fX9_token mn mx 0 mv).1; let nx_2 : Nat := (fX9_token mn mx 0 mv).2.1; let mq_3 : Nat := (fX9_token mn mx 0 mv).2.2.1; let mv_4 : Int32 := (fX9_token mn mx 0 mv).2.2.2; let o6 := lX9_tray_39 mn mx (mn + 2) 0 r_1 8 0 10 nP nS nD nx_2 mq_3 mv_4 0 0; let x1_30 : Int32 := o6.1; let np0_31 : Int32 := o6.2.1; let nt0_32 : Nat := o6.2.2.1; let nl0_33 : Int32 := o6.2.2.2.1; let nP0_34 : Nat → Int32 := o6.2.2.2.2.1; let nS0_35 : Nat → Int32 := o6.2.2.2.2.2.1; let nD0_36 : Nat → Int32 := o6.2.2.2.2.2.2.1; let nx0_37 : Nat := o6.2.2.2.2.2.2.2.1; let mq0_38 : Nat := o6.2.2.2.2.2.2.2.2.1; let mv0_39 : Int32 := o6.2.2.2.2.2.2.2.2.2.1; let wr0_40 : Int32 := o6.2.2.2.2.2.2.2.2.2.2.1; let ts0_41 : Int32 := o6.2.2.2.2.2.2.2.2.2.2.2; if wr0_40 = 0 then (let mp_43 : Int32 := (fX9_settles md np0_31 nt0_32 nl0_33 nP0_34 nS0_35 nD0_36 so mk).1; let mt_44 : Nat := (fX9_settles md np0_31 nt0_32 nl0_33 nP0_34 nS0_35 nD0_36 so mk).2.1; let ml_45 : Int32 := (fX9_settles md np0_31 nt0_32 nl0_33 nP0_34 nS0_35 nD0_36 so mk).2.2.1; let md_46 : Nat → Int32 := (fX9_settles md np0_31 nt0_32 nl0_33 nP0_34 nS0_35 nD0_36 so mk).2.2.2.1; let so_47 : Nat → Int32 := (fX9_settles md np0_31 nt0_32 nl0_33 nP0_34 nS0_35 nD0_36 so mk).2.2.2.2.1; let ac_48 : Nat := (fX9_settles md np0_31 nt0_32 nl0_33 nP0_34 nS0_35 nD0_36 so mk).2.2.2.2.2.1; let mk_49 : Nat → Int32 := (fX9_settles md np0_31 nt0_32 nl0_33 nP0_34 nS0_35 nD0_36 so mk).2.2.2.2.2.2.1; let mn_50 : Nat := (fX9_settles md np0_31 nt0_32 nl0_33 nP0_34 nS0_35 nD0_36 so mk).2.2.2.2.2.2.2.1; let sn_51 : Nat := (fX9_settles md np0_31 nt0_32 nl0_33 nP0_34 nS0_35 nD0_36 so mk).2.2.2.2.2.2.2.2; (x1_30, mp_43, mt_44, ml_45, md_46, np0_31, nt0_32, nl0_33, nP0_34, nS0_35, nD0_36, so_47, ac_48, mk_49, mn_50, nx0_37, mq0_38, mv0_39, wr0_40, ts0_41, sn_51)) else ((((-10) - (nI mq0_38)), mp, mt, ml, md, np0_31, nt0_32, nl0_33, nP0_34, nS0_35, nD0_36, so, ac, mk, mn, nx0_37, mq0_38, mv0_39, wr0_40, ts0_41, sn)))
set_option maxHeartbeats 4000000 in
set_option maxRecDepth 100000 in
theorem bX9_tray {l : Launch} {g : Gl} {X : Cx} (C : Ok l g X RX9 cX9_tray 3 5) (zm : Nat) (za1 : Nat) (za2 : Nat) (za3 : Nat) (za4 : Nat) (za5 : Nat) (za6 : Nat) (za7 : Nat) (za8 : Nat) (za9 : Nat) (zaa : Nat) (mp : Int32) (mt : Nat) (ml : Int32) (md : Nat → Int32) (np : Int32) (nt : Nat) (nl : Int32) (nP : Nat → Int32) (nS : Nat → Int32) (nD : Nat → Int32) (so : Nat → Int32) (ac : Nat) (mk : Nat → Int32) (mn : Nat) (mx : Nat → Int32) (nx : Nat) (mq : Nat) (mv : Int32) (wr : Int32) (ts : Int32) (sn : Nat) (sF : Nat → Int32) (sB : Nat → Int32) (sS : Nat → Int32) (mm : Int64) (q0 : mn ≤ 120) (hR : RetI g X cX9_tray 3 0 0 ((fX9_tray mp mt ml md nP nS nD so ac mk mn mx mv sn).1) (fl [wMod g zm za1 za2 za3 za4 za5 za6 za7 za8 za9 zaa ((fX9_tray mp mt ml md nP nS nD so ac mk mn mx mv sn).2.1) ((fX9_tray mp mt ml md nP nS nD so ac mk mn mx mv sn).2.2.1) ((fX9_tray mp mt ml md nP nS nD so ac mk mn mx mv sn).2.2.2.1) ((fX9_tray mp mt ml md nP nS nD so ac mk mn mx mv sn).2.2.2.2.1) ((fX9_tray mp mt ml md nP nS nD so ac mk mn mx mv sn).2.2.2.2.2.1) ((fX9_tray mp mt ml md nP nS nD so ac mk mn mx mv sn).2.2.2.2.2.2.1) ((fX9_tray mp mt ml md nP nS nD so ac mk mn mx mv sn).2.2.2.2.2.2.2.1) ((fX9_tray mp mt ml md nP nS nD so ac mk mn mx mv sn).2.2.2.2.2.2.2.2.1) ((fX9_tray mp mt ml md nP nS nD so ac mk mn mx mv sn).2.2.2.2.2.2.2.2.2.1) ((fX9_tray mp mt ml md nP nS nD so ac mk mn mx mv sn).2.2.2.2.2.2.2.2.2.2.1) ((fX9_tray mp mt ml md nP nS nD so ac mk mn mx mv sn).2.2.2.2.2.2.2.2.2.2.2.1) ((fX9_tray mp mt ml md nP nS nD so ac mk mn mx mv sn).2.2.2.2.2.2.2.2.2.2.2.2.1) ((fX9_tray mp mt ml md nP nS nD so ac mk mn mx mv sn).2.2.2.2.2.2.2.2.2.2.2.2.2.1) ((fX9_tray mp mt ml md nP nS nD so ac mk mn mx mv sn).2.2.2.2.2.2.2.2.2.2.2.2.2.2.1) mx ((fX9_tray mp mt ml md nP nS nD so ac mk mn mx mv sn).2.2.2.2.2.2.2.2.2.2.2.2.2.2.2.1) ((fX9_tray mp mt ml md nP nS nD so ac mk mn mx mv sn).2.2.2.2.2.2.2.2.2.2.2.2.2.2.2.2.1) ((fX9_tray mp mt ml md nP nS nD so ac mk mn mx mv sn).2.2.2.2.2.2.2.2.2.2.2.2.2.2.2.2.2.1) ((fX9_tray mp mt ml md nP nS nD so ac mk mn mx mv sn).2.2.2.2.2.2.2.2.2.2.2.2.2.2.2.2.2.2.1) ((fX9_tray mp mt ml md nP nS nD so ac mk mn mx mv sn).2.2.2.2.2.2.2.2.2.2.2.2.2.2.2.2.2.2.2.1) ((fX9_tray mp mt ml md nP nS nD so ac mk mn mx mv sn).2.2.2.2.2.2.2.2.2.2.2.2.2.2.2.2.2.2.2.2) sF sB sS mm])) : Vw g X 3 0 0 (fl [wMod g zm za1 za2 za3 za4 za5 za6 za7 za8 za9 zaa mp mt ml md np nt nl nP nS nD so ac mk mn mx nx mq mv wr ts sn sF sB sS mm]) 0 [(0, .ref zm)] [] := by
  refine r_aload_n (pc := 0) C dX9_tray_0 0 rfl ?_
  refine r_bipush (pc := 1) 8 C dX9_tray_1 rfl ?_
  refine r_put (pc := 3) (fl [wMod g zm za1 za2 za3 za4 za5 za6 za7 za8 za9 zaa mp mt ml md 8 nt nl nP nS nD so ac mk mn mx nx mq mv wr ts sn sF sB sS mm]) C fp_X9_85 dX9_tray_3 0 rfl (Nat.le_of_ble_eq_true rfl) rfl rfl rfl ?_
  refine r_aload_n (pc := 6) C dX9_tray_6 0 rfl ?_
  refine r_iconst (pc := 7) 0 C dX9_tray_7 rfl ?_
  refine r_put (pc := 8) (fl [wMod g zm za1 za2 za3 za4 za5 za6 za7 za8 za9 zaa mp mt ml md 8 0 nl nP nS nD so ac mk mn mx nx mq mv wr ts sn sF sB sS mm]) C fp_X9_82 dX9_tray_8 0 rfl (Nat.le_of_ble_eq_true rfl) rfl rfl rfl ?_
  refine r_aload_n (pc := 11) C dX9_tray_11 0 rfl ?_
  refine r_bipush (pc := 12) 10 C dX9_tray_12 rfl ?_
  refine r_put (pc := 14) (fl [wMod g zm za1 za2 za3 za4 za5 za6 za7 za8 za9 zaa mp mt ml md 8 0 10 nP nS nD so ac mk mn mx nx mq mv wr ts sn sF sB sS mm]) C fp_X9_98 dX9_tray_14 0 rfl (Nat.le_of_ble_eq_true rfl) rfl rfl rfl ?_
  refine r_aload_n (pc := 17) C dX9_tray_17 0 rfl ?_
  refine r_iconst (pc := 18) 0 C dX9_tray_18 rfl ?_
  refine r_put (pc := 19) (fl [wMod g zm za1 za2 za3 za4 za5 za6 za7 za8 za9 zaa mp mt ml md 8 0 10 nP nS nD so ac mk mn mx 0 mq mv wr ts sn sF sB sS mm]) C fp_X9_57 dX9_tray_19 0 rfl (Nat.le_of_ble_eq_true rfl) rfl rfl rfl ?_
  refine r_aload_n (pc := 22) C dX9_tray_22 0 rfl ?_
  refine r_iconst (pc := 23) 0 C dX9_tray_23 rfl ?_
  refine r_put (pc := 24) (fl [wMod g zm za1 za2 za3 za4 za5 za6 za7 za8 za9 zaa mp mt ml md 8 0 10 nP nS nD so ac mk mn mx 0 mq mv 0 ts sn sF sB sS mm]) C fp_X9_74 dX9_tray_24 0 rfl (Nat.le_of_ble_eq_true rfl) rfl rfl rfl ?_
  refine r_aload_n (pc := 27) C dX9_tray_27 0 rfl ?_
  refine r_iconst (pc := 28) 0 C dX9_tray_28 rfl ?_
  refine r_put (pc := 29) (fl [wMod g zm za1 za2 za3 za4 za5 za6 za7 za8 za9 zaa mp mt ml md 8 0 10 nP nS nD so ac mk mn mx 0 mq mv 0 0 sn sF sB sS mm]) C fp_X9_95 dX9_tray_29 0 rfl (Nat.le_of_ble_eq_true rfl) rfl rfl rfl ?_
  refine r_iconst (pc := 32) 0 C dX9_tray_32 rfl ?_
  refine r_istore_n (pc := 33) [(1, .int 0), (0, .ref zm)] C dX9_tray_33 (by decide) rfl ?_
  refine r_aload_n (pc := 34) C dX9_tray_34 1 rfl ?_
  obtain ⟨r_1, e_r_1⟩ : ∃ z : Int32, z = (fX9_token mn mx 0 mv).1 := ⟨_, rfl⟩
  obtain ⟨nx_2, e_nx_2⟩ : ∃ z : Nat, z = (fX9_token mn mx 0 mv).2.1 := ⟨_, rfl⟩
  obtain ⟨mq_3, e_mq_3⟩ : ∃ z : Nat, z = (fX9_token mn mx 0 mv).2.2.1 := ⟨_, rfl⟩
  obtain ⟨mv_4, e_mv_4⟩ : ∃ z : Int32, z = (fX9_token mn mx 0 mv).2.2.2 := ⟨_, rfl⟩
  have K_5 := ctX9_token l g zm za1 za2 za3 za4 za5 za6 za7 za8 za9 zaa mp mt ml md 8 0 10 nP nS nD so ac mk mn mx 0 mq mv 0 0 sn sF sB sS mm  (by omega) (by omega)
  rw [← e_r_1, ← e_nx_2, ← e_mq_3, ← e_mv_4] at K_5
  refine w_cI (pc := 35) [wMod g zm za1 za2 za3 za4 za5 za6 za7 za8 za9 zaa mp mt ml md 8 0 10 nP nS nD so ac mk mn mx nx_2 mq_3 mv_4 0 0 sn sF sB sS mm] C mv_X9_78 K_5 dX9_tray_35 (by decide) [0] rfl (by decide) (by simp only [List.map_cons, List.map_nil, adMod]) rfl 0 rfl rfl (Nat.le_of_ble_eq_true rfl) ⟨Nat.zero_le _, Nat.zero_le _⟩ ?_
  have po0_35 : nx_2 ≤ mn := by rw [e_nx_2]; exact token_le mn mx 0 mv (by omega)
  have po1_35 : 0 ≤ nx_2 := by rw [e_nx_2]; exact token_ge mn mx 0 mv
  refine r_istore_n (pc := 38) [(2, .int r_1), (1, .int 0), (0, .ref zm)] C dX9_tray_38 (by decide) rfl ?_
  have hX6 : ∀ (x1_30 : Int32) (np0_31 : Int32) (nt0_32 : Nat) (nl0_33 : Int32) (nP0_34 : Nat → Int32) (nS0_35 : Nat → Int32) (nD0_36 : Nat → Int32) (nx0_37 : Nat) (mq0_38 : Nat) (mv0_39 : Int32) (wr0_40 : Int32) (ts0_41 : Int32) , (x1_30 = (lX9_tray_39 mn mx (mn + 2) 0 r_1 8 0 10 nP nS nD nx_2 mq_3 mv_4 0 0).1) → (np0_31 = (lX9_tray_39 mn mx (mn + 2) 0 r_1 8 0 10 nP nS nD nx_2 mq_3 mv_4 0 0).2.1) → (nt0_32 = (lX9_tray_39 mn mx (mn + 2) 0 r_1 8 0 10 nP nS nD nx_2 mq_3 mv_4 0 0).2.2.1) → (nl0_33 = (lX9_tray_39 mn mx (mn + 2) 0 r_1 8 0 10 nP nS nD nx_2 mq_3 mv_4 0 0).2.2.2.1) → (nP0_34 = (lX9_tray_39 mn mx (mn + 2) 0 r_1 8 0 10 nP nS nD nx_2 mq_3 mv_4 0 0).2.2.2.2.1) → (nS0_35 = (lX9_tray_39 mn mx (mn + 2) 0 r_1 8 0 10 nP nS nD nx_2 mq_3 mv_4 0 0).2.2.2.2.2.1) → (nD0_36 = (lX9_tray_39 mn mx (mn + 2) 0 r_1 8 0 10 nP nS nD nx_2 mq_3 mv_4 0 0).2.2.2.2.2.2.1) → (nx0_37 = (lX9_tray_39 mn mx (mn + 2) 0 r_1 8 0 10 nP nS nD nx_2 mq_3 mv_4 0 0).2.2.2.2.2.2.2.1) → (mq0_38 = (lX9_tray_39 mn mx (mn + 2) 0 r_1 8 0 10 nP nS nD nx_2 mq_3 mv_4 0 0).2.2.2.2.2.2.2.2.1) → (mv0_39 = (lX9_tray_39 mn mx (mn + 2) 0 r_1 8 0 10 nP nS nD nx_2 mq_3 mv_4 0 0).2.2.2.2.2.2.2.2.2.1) → (wr0_40 = (lX9_tray_39 mn mx (mn + 2) 0 r_1 8 0 10 nP nS nD nx_2 mq_3 mv_4 0 0).2.2.2.2.2.2.2.2.2.2.1) → (ts0_41 = (lX9_tray_39 mn mx (mn + 2) 0 r_1 8 0 10 nP nS nD nx_2 mq_3 mv_4 0 0).2.2.2.2.2.2.2.2.2.2.2) → (nt0_32 ≤ 6) → Vw g X 3 0 0 (fl [wMod g zm za1 za2 za3 za4 za5 za6 za7 za8 za9 zaa mp mt ml md np0_31 nt0_32 nl0_33 nP0_34 nS0_35 nD0_36 so ac mk mn mx nx0_37 mq0_38 mv0_39 wr0_40 ts0_41 sn sF sB sS mm]) 88 [(0, .ref zm), (1, .int x1_30)] [] := by
    intro x1_30 np0_31 nt0_32 nl0_33 nP0_34 nS0_35 nD0_36 nx0_37 mq0_38 mv0_39 wr0_40 ts0_41 e_x1_30 e_np0_31 e_nt0_32 e_nl0_33 e_nP0_34 e_nS0_35 e_nD0_36 e_nx0_37 e_mq0_38 e_mv0_39 e_wr0_40 e_ts0_41 hp6_0
    refine r_aload_n (pc := 88) C dX9_tray_88 0 rfl ?_
    refine r_get (pc := 89) C fl_X9_74 dX9_tray_89 0 rfl rfl ?_
    refine r_ifeq (pc := 92) 103 C dX9_tray_92 (by decide) (fun c_42 => ?_) (fun c_42 => ?_)
    · refine r_aload_n (pc := 103) C dX9_tray_103 0 rfl ?_
      obtain ⟨mp_43, e_mp_43⟩ : ∃ z : Int32, z = (fX9_settles md np0_31 nt0_32 nl0_33 nP0_34 nS0_35 nD0_36 so mk).1 := ⟨_, rfl⟩
      obtain ⟨mt_44, e_mt_44⟩ : ∃ z : Nat, z = (fX9_settles md np0_31 nt0_32 nl0_33 nP0_34 nS0_35 nD0_36 so mk).2.1 := ⟨_, rfl⟩
      obtain ⟨ml_45, e_ml_45⟩ : ∃ z : Int32, z = (fX9_settles md np0_31 nt0_32 nl0_33 nP0_34 nS0_35 nD0_36 so mk).2.2.1 := ⟨_, rfl⟩
      obtain ⟨md_46, e_md_46⟩ : ∃ z : Nat → Int32, z = (fX9_settles md np0_31 nt0_32 nl0_33 nP0_34 nS0_35 nD0_36 so mk).2.2.2.1 := ⟨_, rfl⟩
      obtain ⟨so_47, e_so_47⟩ : ∃ z : Nat → Int32, z = (fX9_settles md np0_31 nt0_32 nl0_33 nP0_34 nS0_35 nD0_36 so mk).2.2.2.2.1 := ⟨_, rfl⟩
      obtain ⟨ac_48, e_ac_48⟩ : ∃ z : Nat, z = (fX9_settles md np0_31 nt0_32 nl0_33 nP0_34 nS0_35 nD0_36 so mk).2.2.2.2.2.1 := ⟨_, rfl⟩
      obtain ⟨mk_49, e_mk_49⟩ : ∃ z : Nat → Int32, z = (fX9_settles md np0_31 nt0_32 nl0_33 nP0_34 nS0_35 nD0_36 so mk).2.2.2.2.2.2.1 := ⟨_, rfl⟩
      obtain ⟨mn_50, e_mn_50⟩ : ∃ z : Nat, z = (fX9_settles md np0_31 nt0_32 nl0_33 nP0_34 nS0_35 nD0_36 so mk).2.2.2.2.2.2.2.1 := ⟨_, rfl⟩
      obtain ⟨sn_51, e_sn_51⟩ : ∃ z : Nat, z = (fX9_settles md np0_31 nt0_32 nl0_33 nP0_34 nS0_35 nD0_36 so mk).2.2.2.2.2.2.2.2 := ⟨_, rfl⟩
      have K_52 := ctX9_settles l g zm za1 za2 za3 za4 za5 za6 za7 za8 za9 zaa mp mt ml md np0_31 nt0_32 nl0_33 nP0_34 nS0_35 nD0_36 so ac mk mn mx nx0_37 mq0_38 mv0_39 wr0_40 ts0_41 sn sF sB sS mm  (by omega)
      rw [← e_mp_43, ← e_mt_44, ← e_ml_45, ← e_md_46, ← e_so_47, ← e_ac_48, ← e_mk_49, ← e_mn_50, ← e_sn_51] at K_52
      refine w_cV (pc := 104) [wMod g zm za1 za2 za3 za4 za5 za6 za7 za8 za9 zaa mp_43 mt_44 ml_45 md_46 np0_31 nt0_32 nl0_33 nP0_34 nS0_35 nD0_36 so_47 ac_48 mk_49 mn_50 mx nx0_37 mq0_38 mv0_39 wr0_40 ts0_41 sn_51 sF sB sS mm] C mv_X9_105 K_52 dX9_tray_104 (by decide) [0] rfl (by decide) (by simp only [List.map_cons, List.map_nil, adMod]) rfl 0 rfl rfl (Nat.le_of_ble_eq_true rfl) ⟨Nat.zero_le _, Nat.zero_le _⟩ ?_
      refine r_iload_n (pc := 107) C dX9_tray_107 1 rfl ?_
      have hf : fX9_tray mp mt ml md nP nS nD so ac mk mn mx mv sn = (x1_30, mp_43, mt_44, ml_45, md_46, np0_31, nt0_32, nl0_33, nP0_34, nS0_35, nD0_36, so_47, ac_48, mk_49, mn_50, nx0_37, mq0_38, mv0_39, wr0_40, ts0_41, sn_51) := by first | (simp only [fX9_tray, ← e_r_1, ← e_nx_2, ← e_mq_3, ← e_mv_4, ← e_x1_30, ← e_np0_31, ← e_nt0_32, ← e_nl0_33, ← e_nP0_34, ← e_nS0_35, ← e_nD0_36, ← e_nx0_37, ← e_mq0_38, ← e_mv0_39, ← e_wr0_40, ← e_ts0_41, ← e_mp_43, ← e_mt_44, ← e_ml_45, ← e_md_46, ← e_so_47, ← e_ac_48, ← e_mk_49, ← e_mn_50, ← e_sn_51, if_pos c_42]; done) | (subst e_r_1 e_nx_2 e_mq_3 e_mv_4 e_x1_30 e_np0_31 e_nt0_32 e_nl0_33 e_nP0_34 e_nS0_35 e_nD0_36 e_nx0_37 e_mq0_38 e_mv0_39 e_wr0_40 e_ts0_41 e_mp_43 e_mt_44 e_ml_45 e_md_46 e_so_47 e_ac_48 e_mk_49 e_mn_50 e_sn_51; simp only [fX9_tray, if_pos c_42]; done) | (subst e_r_1 e_nx_2 e_mq_3 e_mv_4 e_x1_30 e_np0_31 e_nt0_32 e_nl0_33 e_nP0_34 e_nS0_35 e_nD0_36 e_nx0_37 e_mq0_38 e_mv0_39 e_wr0_40 e_ts0_41 e_mp_43 e_mt_44 e_ml_45 e_md_46 e_so_47 e_ac_48 e_mk_49 e_mn_50 e_sn_51; rfl) | (subst e_r_1 e_nx_2 e_mq_3 e_mv_4 e_x1_30 e_np0_31 e_nt0_32 e_nl0_33 e_nP0_34 e_nS0_35 e_nD0_36 e_nx0_37 e_mq0_38 e_mv0_39 e_wr0_40 e_ts0_41 e_mp_43 e_mt_44 e_ml_45 e_md_46 e_so_47 e_ac_48 e_mk_49 e_mn_50 e_sn_51; simp [fX9_tray, if_pos c_42]; done)
      rw [hf] at hR
      exact hR _ _ dX9_tray_108
    · refine r_bipush (pc := 95) (-10) C dX9_tray_95 rfl ?_
      refine r_aload_n (pc := 97) C dX9_tray_97 0 rfl ?_
      refine r_get (pc := 98) C fl_X9_64 dX9_tray_98 0 rfl rfl ?_
      refine r_isub (pc := 101) C dX9_tray_101 ?_
      have hf : fX9_tray mp mt ml md nP nS nD so ac mk mn mx mv sn = (((-10) - (nI mq0_38)), mp, mt, ml, md, np0_31, nt0_32, nl0_33, nP0_34, nS0_35, nD0_36, so, ac, mk, mn, nx0_37, mq0_38, mv0_39, wr0_40, ts0_41, sn) := by first | (simp only [fX9_tray, ← e_r_1, ← e_nx_2, ← e_mq_3, ← e_mv_4, ← e_x1_30, ← e_np0_31, ← e_nt0_32, ← e_nl0_33, ← e_nP0_34, ← e_nS0_35, ← e_nD0_36, ← e_nx0_37, ← e_mq0_38, ← e_mv0_39, ← e_wr0_40, ← e_ts0_41, if_neg c_42]; done) | (subst e_r_1 e_nx_2 e_mq_3 e_mv_4 e_x1_30 e_np0_31 e_nt0_32 e_nl0_33 e_nP0_34 e_nS0_35 e_nD0_36 e_nx0_37 e_mq0_38 e_mv0_39 e_wr0_40 e_ts0_41; simp only [fX9_tray, if_neg c_42]; done) | (subst e_r_1 e_nx_2 e_mq_3 e_mv_4 e_x1_30 e_np0_31 e_nt0_32 e_nl0_33 e_nP0_34 e_nS0_35 e_nD0_36 e_nx0_37 e_mq0_38 e_mv0_39 e_wr0_40 e_ts0_41; rfl) | (subst e_r_1 e_nx_2 e_mq_3 e_mv_4 e_x1_30 e_np0_31 e_nt0_32 e_nl0_33 e_nP0_34 e_nS0_35 e_nD0_36 e_nx0_37 e_mq0_38 e_mv0_39 e_wr0_40 e_ts0_41; simp [fX9_tray, if_neg c_42]; done)
      rw [hf] at hR
      exact hR _ _ dX9_tray_102
  have hL6 : ∀ (n : Nat) (x1_6 : Int32) (x2_6 : Int32) (np0_6 : Int32) (nt0_6 : Nat) (nl0_6 : Int32) (nP0_6 : Nat → Int32) (nS0_6 : Nat → Int32) (nD0_6 : Nat → Int32) (nx0_6 : Nat) (mq0_6 : Nat) (mv0_6 : Int32) (wr0_6 : Int32) (ts0_6 : Int32) , (trm wr0_6 (mn + 2 - nx0_6) ≤ n) → (nx0_6 ≤ mn) → (nt0_6 ≤ 6) → (ts0_6 = 0 ∨ ts0_6 = 1) → lX9_tray_39 mn mx n x1_6 x2_6 np0_6 nt0_6 nl0_6 nP0_6 nS0_6 nD0_6 nx0_6 mq0_6 mv0_6 wr0_6 ts0_6 = lX9_tray_39 mn mx (mn + 2) 0 r_1 8 0 10 nP nS nD nx_2 mq_3 mv_4 0 0 → Vw g X 3 0 0 (fl [wMod g zm za1 za2 za3 za4 za5 za6 za7 za8 za9 zaa mp mt ml md np0_6 nt0_6 nl0_6 nP0_6 nS0_6 nD0_6 so ac mk mn mx nx0_6 mq0_6 mv0_6 wr0_6 ts0_6 sn sF sB sS mm]) 39 [(0, .ref zm), (1, .int x1_6), (2, .int x2_6)] [] := by
    intro n
    induction n with
    | zero =>
      intro x1_6 x2_6 np0_6 nt0_6 nl0_6 nP0_6 nS0_6 nD0_6 nx0_6 mq0_6 mv0_6 wr0_6 ts0_6 hr6 hi6_0 hi6_1 hi6_2 hV6
      exact absurd hr6 (trm_p (by omega))
    | succ n ih =>
      intro x1_6 x2_6 np0_6 nt0_6 nl0_6 nP0_6 nS0_6 nD0_6 nx0_6 mq0_6 mv0_6 wr0_6 ts0_6 hr6 hi6_0 hi6_1 hi6_2 hV6
      refine r_iload_n (pc := 39) C dX9_tray_39 2 rfl ?_
      refine r_iconst (pc := 40) 4 C dX9_tray_40 rfl ?_
      refine r_icmpeq (pc := 41) 88 C dX9_tray_41 (by decide) (fun c_7 => ?_) (fun c_7 => ?_)
      · refine u_lv [(0, .ref zm), (1, .int x1_6)] [0, 1] rfl ?_
        exact hX6 _ _ _ _ _ _ _ _ _ _ _ _ (by rw [← hV6]; first | (simp only [lX9_tray_39, if_pos c_7]; done) | rfl | (simp [lX9_tray_39, if_pos c_7]; done)) (by rw [← hV6]; first | (simp only [lX9_tray_39, if_pos c_7]; done) | rfl | (simp [lX9_tray_39, if_pos c_7]; done)) (by rw [← hV6]; first | (simp only [lX9_tray_39, if_pos c_7]; done) | rfl | (simp [lX9_tray_39, if_pos c_7]; done)) (by rw [← hV6]; first | (simp only [lX9_tray_39, if_pos c_7]; done) | rfl | (simp [lX9_tray_39, if_pos c_7]; done)) (by rw [← hV6]; first | (simp only [lX9_tray_39, if_pos c_7]; done) | rfl | (simp [lX9_tray_39, if_pos c_7]; done)) (by rw [← hV6]; first | (simp only [lX9_tray_39, if_pos c_7]; done) | rfl | (simp [lX9_tray_39, if_pos c_7]; done)) (by rw [← hV6]; first | (simp only [lX9_tray_39, if_pos c_7]; done) | rfl | (simp [lX9_tray_39, if_pos c_7]; done)) (by rw [← hV6]; first | (simp only [lX9_tray_39, if_pos c_7]; done) | rfl | (simp [lX9_tray_39, if_pos c_7]; done)) (by rw [← hV6]; first | (simp only [lX9_tray_39, if_pos c_7]; done) | rfl | (simp [lX9_tray_39, if_pos c_7]; done)) (by rw [← hV6]; first | (simp only [lX9_tray_39, if_pos c_7]; done) | rfl | (simp [lX9_tray_39, if_pos c_7]; done)) (by rw [← hV6]; first | (simp only [lX9_tray_39, if_pos c_7]; done) | rfl | (simp [lX9_tray_39, if_pos c_7]; done)) (by rw [← hV6]; first | (simp only [lX9_tray_39, if_pos c_7]; done) | rfl | (simp [lX9_tray_39, if_pos c_7]; done)) (by omega)
      · refine r_aload_n (pc := 44) C dX9_tray_44 0 rfl ?_
        refine r_get (pc := 45) C fl_X9_74 dX9_tray_45 0 rfl rfl ?_
        refine r_ifne (pc := 48) 88 C dX9_tray_48 (by decide) (fun c_8 => ?_) (fun c_8 => ?_)
        · refine u_lv [(0, .ref zm), (1, .int x1_6)] [0, 1] rfl ?_
          exact hX6 _ _ _ _ _ _ _ _ _ _ _ _ (by rw [← hV6]; first | (simp only [lX9_tray_39, if_neg c_7, if_neg c_8]; done) | rfl | (simp [lX9_tray_39, if_neg c_7, if_neg c_8]; done)) (by rw [← hV6]; first | (simp only [lX9_tray_39, if_neg c_7, if_neg c_8]; done) | rfl | (simp [lX9_tray_39, if_neg c_7, if_neg c_8]; done)) (by rw [← hV6]; first | (simp only [lX9_tray_39, if_neg c_7, if_neg c_8]; done) | rfl | (simp [lX9_tray_39, if_neg c_7, if_neg c_8]; done)) (by rw [← hV6]; first | (simp only [lX9_tray_39, if_neg c_7, if_neg c_8]; done) | rfl | (simp [lX9_tray_39, if_neg c_7, if_neg c_8]; done)) (by rw [← hV6]; first | (simp only [lX9_tray_39, if_neg c_7, if_neg c_8]; done) | rfl | (simp [lX9_tray_39, if_neg c_7, if_neg c_8]; done)) (by rw [← hV6]; first | (simp only [lX9_tray_39, if_neg c_7, if_neg c_8]; done) | rfl | (simp [lX9_tray_39, if_neg c_7, if_neg c_8]; done)) (by rw [← hV6]; first | (simp only [lX9_tray_39, if_neg c_7, if_neg c_8]; done) | rfl | (simp [lX9_tray_39, if_neg c_7, if_neg c_8]; done)) (by rw [← hV6]; first | (simp only [lX9_tray_39, if_neg c_7, if_neg c_8]; done) | rfl | (simp [lX9_tray_39, if_neg c_7, if_neg c_8]; done)) (by rw [← hV6]; first | (simp only [lX9_tray_39, if_neg c_7, if_neg c_8]; done) | rfl | (simp [lX9_tray_39, if_neg c_7, if_neg c_8]; done)) (by rw [← hV6]; first | (simp only [lX9_tray_39, if_neg c_7, if_neg c_8]; done) | rfl | (simp [lX9_tray_39, if_neg c_7, if_neg c_8]; done)) (by rw [← hV6]; first | (simp only [lX9_tray_39, if_neg c_7, if_neg c_8]; done) | rfl | (simp [lX9_tray_39, if_neg c_7, if_neg c_8]; done)) (by rw [← hV6]; first | (simp only [lX9_tray_39, if_neg c_7, if_neg c_8]; done) | rfl | (simp [lX9_tray_39, if_neg c_7, if_neg c_8]; done)) (by omega)
        · have hr2 : mn + 2 - nx0_6 ≤ n + 1 := trm_e c_8 hr6
          refine r_aload_n (pc := 51) C dX9_tray_51 0 rfl ?_
          refine r_iload_n (pc := 52) C dX9_tray_52 2 rfl ?_
          refine r_iconst (pc := 53) 5 C dX9_tray_53 rfl ?_
          have hJ_11 : ∀ (w_10 : Int32) , (w_10 = (if 5 ≤ x2_6 then (x2_6) else (0))) → Vw g X 3 0 0 (fl [wMod g zm za1 za2 za3 za4 za5 za6 za7 za8 za9 zaa mp mt ml md np0_6 nt0_6 nl0_6 nP0_6 nS0_6 nD0_6 so ac mk mn mx nx0_6 mq0_6 mv0_6 wr0_6 ts0_6 sn sF sB sS mm]) 62 [(0, .ref zm), (1, .int x1_6), (2, .int x2_6)] [.int w_10, .ref zm] := by
            intro w_10 e_w_10
            refine r_iload_n (pc := 62) C dX9_tray_62 1 rfl ?_
            obtain ⟨np_12, e_np_12⟩ : ∃ z : Int32, z = (fX9_item np0_6 nt0_6 nl0_6 nP0_6 nS0_6 nD0_6 mn mx nx0_6 mq0_6 mv0_6 ts0_6 w_10 x1_6).1 := ⟨_, rfl⟩
            obtain ⟨nt_13, e_nt_13⟩ : ∃ z : Nat, z = (fX9_item np0_6 nt0_6 nl0_6 nP0_6 nS0_6 nD0_6 mn mx nx0_6 mq0_6 mv0_6 ts0_6 w_10 x1_6).2.1 := ⟨_, rfl⟩
            obtain ⟨nl_14, e_nl_14⟩ : ∃ z : Int32, z = (fX9_item np0_6 nt0_6 nl0_6 nP0_6 nS0_6 nD0_6 mn mx nx0_6 mq0_6 mv0_6 ts0_6 w_10 x1_6).2.2.1 := ⟨_, rfl⟩
            obtain ⟨nP_15, e_nP_15⟩ : ∃ z : Nat → Int32, z = (fX9_item np0_6 nt0_6 nl0_6 nP0_6 nS0_6 nD0_6 mn mx nx0_6 mq0_6 mv0_6 ts0_6 w_10 x1_6).2.2.2.1 := ⟨_, rfl⟩
            obtain ⟨nS_16, e_nS_16⟩ : ∃ z : Nat → Int32, z = (fX9_item np0_6 nt0_6 nl0_6 nP0_6 nS0_6 nD0_6 mn mx nx0_6 mq0_6 mv0_6 ts0_6 w_10 x1_6).2.2.2.2.1 := ⟨_, rfl⟩
            obtain ⟨nD_17, e_nD_17⟩ : ∃ z : Nat → Int32, z = (fX9_item np0_6 nt0_6 nl0_6 nP0_6 nS0_6 nD0_6 mn mx nx0_6 mq0_6 mv0_6 ts0_6 w_10 x1_6).2.2.2.2.2.1 := ⟨_, rfl⟩
            obtain ⟨nx_18, e_nx_18⟩ : ∃ z : Nat, z = (fX9_item np0_6 nt0_6 nl0_6 nP0_6 nS0_6 nD0_6 mn mx nx0_6 mq0_6 mv0_6 ts0_6 w_10 x1_6).2.2.2.2.2.2.1 := ⟨_, rfl⟩
            obtain ⟨mq_19, e_mq_19⟩ : ∃ z : Nat, z = (fX9_item np0_6 nt0_6 nl0_6 nP0_6 nS0_6 nD0_6 mn mx nx0_6 mq0_6 mv0_6 ts0_6 w_10 x1_6).2.2.2.2.2.2.2.1 := ⟨_, rfl⟩
            obtain ⟨mv_20, e_mv_20⟩ : ∃ z : Int32, z = (fX9_item np0_6 nt0_6 nl0_6 nP0_6 nS0_6 nD0_6 mn mx nx0_6 mq0_6 mv0_6 ts0_6 w_10 x1_6).2.2.2.2.2.2.2.2.1 := ⟨_, rfl⟩
            obtain ⟨wr_21, e_wr_21⟩ : ∃ z : Int32, z = (fX9_item np0_6 nt0_6 nl0_6 nP0_6 nS0_6 nD0_6 mn mx nx0_6 mq0_6 mv0_6 ts0_6 w_10 x1_6).2.2.2.2.2.2.2.2.2.1 := ⟨_, rfl⟩
            obtain ⟨ts_22, e_ts_22⟩ : ∃ z : Int32, z = (fX9_item np0_6 nt0_6 nl0_6 nP0_6 nS0_6 nD0_6 mn mx nx0_6 mq0_6 mv0_6 ts0_6 w_10 x1_6).2.2.2.2.2.2.2.2.2.2 := ⟨_, rfl⟩
            have K_23 := ctX9_item l g zm za1 za2 za3 za4 za5 za6 za7 za8 za9 zaa mp mt ml md np0_6 nt0_6 nl0_6 nP0_6 nS0_6 nD0_6 so ac mk mn mx nx0_6 mq0_6 mv0_6 wr0_6 ts0_6 sn sF sB sS mm w_10 x1_6 (by omega) (by omega) (by omega) (by assumption)
            rw [← e_np_12, ← e_nt_13, ← e_nl_14, ← e_nP_15, ← e_nS_16, ← e_nD_17, ← e_nx_18, ← e_mq_19, ← e_mv_20, ← e_wr_21, ← e_ts_22] at K_23
            refine w_cV (pc := 63) [wMod g zm za1 za2 za3 za4 za5 za6 za7 za8 za9 zaa mp mt ml md np_12 nt_13 nl_14 nP_15 nS_16 nD_17 so ac mk mn mx nx_18 mq_19 mv_20 wr_21 ts_22 sn sF sB sS mm] C mv_X9_101 K_23 dX9_tray_63 (by decide) [0] rfl (by decide) (by simp only [List.map_cons, List.map_nil, adMod]) rfl 0 rfl rfl (Nat.le_of_ble_eq_true rfl) ⟨Nat.zero_le _, Nat.zero_le _⟩ ?_
            have po0_63 : nx_18 ≤ mn := by rw [e_nx_18]; exact item_le np0_6 nt0_6 nl0_6 nP0_6 nS0_6 nD0_6 mn mx nx0_6 mq0_6 mv0_6 ts0_6 w_10 x1_6 (by omega)
            have po1_63 : nt_13 ≤ 6 := by rw [e_nt_13]; exact item_nt np0_6 nt0_6 nl0_6 nP0_6 nS0_6 nD0_6 mn mx nx0_6 mq0_6 mv0_6 ts0_6 w_10 x1_6 (by omega)
            have po2_63 : ts_22 = 0 ∨ ts_22 = 1 := by rw [e_ts_22]; exact item_ts np0_6 nt0_6 nl0_6 nP0_6 nS0_6 nD0_6 mn mx nx0_6 mq0_6 mv0_6 ts0_6 w_10 x1_6 (by assumption)
            have po3_63 : wr_21 = 0 → nx0_6 + 1 ≤ nx_18 := by rw [e_wr_21, e_nx_18]; exact item_prog np0_6 nt0_6 nl0_6 nP0_6 nS0_6 nD0_6 mn mx nx0_6 mq0_6 mv0_6 ts0_6 w_10 x1_6
            refine r_iinc (pc := 66) (x1_6 + 1) [(1, .int (x1_6 + 1)), (0, .ref zm), (2, .int x2_6)] C dX9_tray_66 1 rfl rfl (by decide) rfl ?_
            refine r_aload_n (pc := 69) C dX9_tray_69 1 rfl ?_
            refine r_get (pc := 70) C fl_X9_74 dX9_tray_70 0 rfl rfl ?_
            refine r_ifeq (pc := 73) 80 C dX9_tray_73 (by decide) (fun c_24 => ?_) (fun c_24 => ?_)
            · refine r_aload_n (pc := 80) C dX9_tray_80 1 rfl ?_
              obtain ⟨r_25, e_r_25⟩ : ∃ z : Int32, z = (fX9_token mn mx nx_18 mv_20).1 := ⟨_, rfl⟩
              obtain ⟨nx_26, e_nx_26⟩ : ∃ z : Nat, z = (fX9_token mn mx nx_18 mv_20).2.1 := ⟨_, rfl⟩
              obtain ⟨mq_27, e_mq_27⟩ : ∃ z : Nat, z = (fX9_token mn mx nx_18 mv_20).2.2.1 := ⟨_, rfl⟩
              obtain ⟨mv_28, e_mv_28⟩ : ∃ z : Int32, z = (fX9_token mn mx nx_18 mv_20).2.2.2 := ⟨_, rfl⟩
              have K_29 := ctX9_token l g zm za1 za2 za3 za4 za5 za6 za7 za8 za9 zaa mp mt ml md np_12 nt_13 nl_14 nP_15 nS_16 nD_17 so ac mk mn mx nx_18 mq_19 mv_20 wr_21 ts_22 sn sF sB sS mm  (by omega) (by omega)
              rw [← e_r_25, ← e_nx_26, ← e_mq_27, ← e_mv_28] at K_29
              refine w_cI (pc := 81) [wMod g zm za1 za2 za3 za4 za5 za6 za7 za8 za9 zaa mp mt ml md np_12 nt_13 nl_14 nP_15 nS_16 nD_17 so ac mk mn mx nx_26 mq_27 mv_28 wr_21 ts_22 sn sF sB sS mm] C mv_X9_78 K_29 dX9_tray_81 (by decide) [0] rfl (by decide) (by simp only [List.map_cons, List.map_nil, adMod]) rfl 0 rfl rfl (Nat.le_of_ble_eq_true rfl) ⟨Nat.zero_le _, Nat.zero_le _⟩ ?_
              have po0_81 : nx_26 ≤ mn := by rw [e_nx_26]; exact token_le mn mx nx_18 mv_20 (by omega)
              have po1_81 : nx_18 ≤ nx_26 := by rw [e_nx_26]; exact token_ge mn mx nx_18 mv_20
              refine r_istore_n (pc := 84) [(2, .int r_25), (1, .int (x1_6 + 1)), (0, .ref zm)] C dX9_tray_84 (by decide) rfl ?_
              refine r_goto (pc := 85) 39 C dX9_tray_85 (by decide) ?_
              refine u_lv [(0, .ref zm), (1, .int (x1_6 + 1)), (2, .int r_25)] [2, 1, 0] rfl ?_
              exact ih (x1_6 + 1) r_25 np_12 nt_13 nl_14 nP_15 nS_16 nD_17 nx_26 mq_27 mv_28 wr_21 ts_22 (trm_0 c_24 (by have := po3_63 c_24; omega)) (by omega) (by omega) po2_63 (by rw [← hV6]; first | (simp only [lX9_tray_39, ← e_w_10, ← e_np_12, ← e_nt_13, ← e_nl_14, ← e_nP_15, ← e_nS_16, ← e_nD_17, ← e_nx_18, ← e_mq_19, ← e_mv_20, ← e_wr_21, ← e_ts_22, ← e_r_25, ← e_nx_26, ← e_mq_27, ← e_mv_28, if_neg c_7, if_pos c_8, if_pos c_24]; done) | (subst e_w_10 e_np_12 e_nt_13 e_nl_14 e_nP_15 e_nS_16 e_nD_17 e_nx_18 e_mq_19 e_mv_20 e_wr_21 e_ts_22 e_r_25 e_nx_26 e_mq_27 e_mv_28; simp only [lX9_tray_39, if_neg c_7, if_pos c_8, if_pos c_24]; done) | (subst e_w_10 e_np_12 e_nt_13 e_nl_14 e_nP_15 e_nS_16 e_nD_17 e_nx_18 e_mq_19 e_mv_20 e_wr_21 e_ts_22 e_r_25 e_nx_26 e_mq_27 e_mv_28; rfl) | (subst e_w_10 e_np_12 e_nt_13 e_nl_14 e_nP_15 e_nS_16 e_nD_17 e_nx_18 e_mq_19 e_mv_20 e_wr_21 e_ts_22 e_r_25 e_nx_26 e_mq_27 e_mv_28; simp [lX9_tray_39, if_neg c_7, if_pos c_8, if_pos c_24]; done))
            · refine r_iload_n (pc := 76) C dX9_tray_76 2 rfl ?_
              refine r_goto (pc := 77) 84 C dX9_tray_77 (by decide) ?_
              refine r_istore_n (pc := 84) [(2, .int x2_6), (1, .int (x1_6 + 1)), (0, .ref zm)] C dX9_tray_84 (by decide) rfl ?_
              refine r_goto (pc := 85) 39 C dX9_tray_85 (by decide) ?_
              refine u_lv [(0, .ref zm), (1, .int (x1_6 + 1)), (2, .int x2_6)] [2, 1, 0] rfl ?_
              exact ih (x1_6 + 1) x2_6 np_12 nt_13 nl_14 nP_15 nS_16 nD_17 nx_18 mq_19 mv_20 wr_21 ts_22 (trm_1 c_24 (by omega)) (by omega) (by omega) po2_63 (by rw [← hV6]; first | (simp only [lX9_tray_39, ← e_w_10, ← e_np_12, ← e_nt_13, ← e_nl_14, ← e_nP_15, ← e_nS_16, ← e_nD_17, ← e_nx_18, ← e_mq_19, ← e_mv_20, ← e_wr_21, ← e_ts_22, if_neg c_7, if_pos c_8, if_neg c_24]; done) | (subst e_w_10 e_np_12 e_nt_13 e_nl_14 e_nP_15 e_nS_16 e_nD_17 e_nx_18 e_mq_19 e_mv_20 e_wr_21 e_ts_22; simp only [lX9_tray_39, if_neg c_7, if_pos c_8, if_neg c_24]; done) | (subst e_w_10 e_np_12 e_nt_13 e_nl_14 e_nP_15 e_nS_16 e_nD_17 e_nx_18 e_mq_19 e_mv_20 e_wr_21 e_ts_22; rfl) | (subst e_w_10 e_np_12 e_nt_13 e_nl_14 e_nP_15 e_nS_16 e_nD_17 e_nx_18 e_mq_19 e_mv_20 e_wr_21 e_ts_22; simp [lX9_tray_39, if_neg c_7, if_pos c_8, if_neg c_24]; done))
          refine r_icmpge (pc := 54) 61 C dX9_tray_54 (by decide) (fun c_9 => ?_) (fun c_9 => ?_)
          · refine r_iload_n (pc := 61) C dX9_tray_61 2 rfl ?_
            exact hJ_11 _ (by first | (simp only [if_pos c_9]; done) | rfl | (simp [if_pos c_9]; done))
          · refine r_iconst (pc := 57) 0 C dX9_tray_57 rfl ?_
            refine r_goto (pc := 58) 62 C dX9_tray_58 (by decide) ?_
            exact hJ_11 _ (by first | (simp only [if_neg c_9]; done) | rfl | (simp [if_neg c_9]; done))
  refine u_lv [(0, .ref zm), (1, .int 0), (2, .int r_1)] [2, 1, 0] rfl ?_
  exact hL6 (mn + 2) 0 r_1 8 0 10 nP nS nD nx_2 mq_3 mv_4 0 0 (trm_0 rfl (by omega)) (by omega) (by omega) (Or.inl rfl) rfl
theorem ctX9_tray (l : Launch) (g : Gl) (zm : Nat) (za1 : Nat) (za2 : Nat) (za3 : Nat) (za4 : Nat) (za5 : Nat) (za6 : Nat) (za7 : Nat) (za8 : Nat) (za9 : Nat) (zaa : Nat) (mp : Int32) (mt : Nat) (ml : Int32) (md : Nat → Int32) (np : Int32) (nt : Nat) (nl : Int32) (nP : Nat → Int32) (nS : Nat → Int32) (nD : Nat → Int32) (so : Nat → Int32) (ac : Nat) (mk : Nat → Int32) (mn : Nat) (mx : Nat → Int32) (nx : Nat) (mq : Nat) (mv : Int32) (wr : Int32) (ts : Int32) (sn : Nat) (sF : Nat → Int32) (sB : Nat → Int32) (sS : Nat → Int32) (mm : Int64) (q0 : mn ≤ 120) : CtI l g yX9_tray cX9_tray 3 (some .int) 5 [.ref zm] (fl [wMod g zm za1 za2 za3 za4 za5 za6 za7 za8 za9 zaa mp mt ml md np nt nl nP nS nD so ac mk mn mx nx mq mv wr ts sn sF sB sS mm]) ((fX9_tray mp mt ml md nP nS nD so ac mk mn mx mv sn).1) (fl [wMod g zm za1 za2 za3 za4 za5 za6 za7 za8 za9 zaa ((fX9_tray mp mt ml md nP nS nD so ac mk mn mx mv sn).2.1) ((fX9_tray mp mt ml md nP nS nD so ac mk mn mx mv sn).2.2.1) ((fX9_tray mp mt ml md nP nS nD so ac mk mn mx mv sn).2.2.2.1) ((fX9_tray mp mt ml md nP nS nD so ac mk mn mx mv sn).2.2.2.2.1) ((fX9_tray mp mt ml md nP nS nD so ac mk mn mx mv sn).2.2.2.2.2.1) ((fX9_tray mp mt ml md nP nS nD so ac mk mn mx mv sn).2.2.2.2.2.2.1) ((fX9_tray mp mt ml md nP nS nD so ac mk mn mx mv sn).2.2.2.2.2.2.2.1) ((fX9_tray mp mt ml md nP nS nD so ac mk mn mx mv sn).2.2.2.2.2.2.2.2.1) ((fX9_tray mp mt ml md nP nS nD so ac mk mn mx mv sn).2.2.2.2.2.2.2.2.2.1) ((fX9_tray mp mt ml md nP nS nD so ac mk mn mx mv sn).2.2.2.2.2.2.2.2.2.2.1) ((fX9_tray mp mt ml md nP nS nD so ac mk mn mx mv sn).2.2.2.2.2.2.2.2.2.2.2.1) ((fX9_tray mp mt ml md nP nS nD so ac mk mn mx mv sn).2.2.2.2.2.2.2.2.2.2.2.2.1) ((fX9_tray mp mt ml md nP nS nD so ac mk mn mx mv sn).2.2.2.2.2.2.2.2.2.2.2.2.2.1) ((fX9_tray mp mt ml md nP nS nD so ac mk mn mx mv sn).2.2.2.2.2.2.2.2.2.2.2.2.2.2.1) mx ((fX9_tray mp mt ml md nP nS nD so ac mk mn mx mv sn).2.2.2.2.2.2.2.2.2.2.2.2.2.2.2.1) ((fX9_tray mp mt ml md nP nS nD so ac mk mn mx mv sn).2.2.2.2.2.2.2.2.2.2.2.2.2.2.2.2.1) ((fX9_tray mp mt ml md nP nS nD so ac mk mn mx mv sn).2.2.2.2.2.2.2.2.2.2.2.2.2.2.2.2.2.1) ((fX9_tray mp mt ml md nP nS nD so ac mk mn mx mv sn).2.2.2.2.2.2.2.2.2.2.2.2.2.2.2.2.2.2.1) ((fX9_tray mp mt ml md nP nS nD so ac mk mn mx mv sn).2.2.2.2.2.2.2.2.2.2.2.2.2.2.2.2.2.2.2.1) ((fX9_tray mp mt ml md nP nS nD so ac mk mn mx mv sn).2.2.2.2.2.2.2.2.2.2.2.2.2.2.2.2.2.2.2.2) sF sB sS mm]) := mkI .int rfl rfl [(0, .ref zm)] (by decide) (Nat.le_of_ble_eq_true rfl) rfl (fun X C hR => bX9_tray C zm za1 za2 za3 za4 za5 za6 za7 za8 za9 zaa mp mt ml md np nt nl nP nS nD so ac mk mn mx nx mq mv wr ts sn sF sB sS mm q0 hR)
