set_option maxHeartbeats 4000000 in
set_option maxRecDepth 100000 in
theorem law_loop {l : Launch} {g : Gl} {X : Cx} {cN cK : Nat} (C : Ok l g X RL cL_law 4 8) {b L : Nat} {xs : Nat → Int32} (hX : SCR X b L xs) (hL : L ≤ 2560) (hnk : cN ≤ cellsX X ∧ cK ≤ slotsX X) {zo zx zr ztb zna zps zim zkp zf zs zk zxa zb za zd zp zq ztd znp znq zi0 zi1 zip ziq zjp zjq zt3 zp3 zq3 zsa zsb zsc zma : Nat} {zmo zmp zmq : Nat → Nat} {zm za1 za2 za3 za4 za5 za6 za7 za8 za9 zaa : Nat} (hE : ∀ (ws : va_W) (lv : List (Nat × Value)), Vw g X 4 cN cK ws 754 lv [.int 1]) : ∀ (f i : Nat) (le : Nat → Int32) (ln : Nat) (it : Int32) (st : Int32) (tk : Int32) (vl : Int32) (bg : Nat) (bh : Nat) (drD : Nat → Int32) (pzD : Int32) (slD : Int32) (tpD : Nat) (plS : Nat → Int32) (spS : Nat → Int32) (beS : Int32) (tiS : Int32) (dr : Nat → Int32) (pz : Int32) (sl : Int32) (tp : Nat) (pl : Nat → Int32) (sp : Nat → Int32) (be : Int32) (ti : Int32) (plI : Nat → Int32) (spI : Nat → Int32) (beI : Int32) (tiI : Int32) (plJ : Nat → Int32) (spJ : Nat → Int32) (beJ : Int32) (tiJ : Int32) (ke : Nat → Int32) (rs : Int32) (rb : Nat) (ou : Int32) (ol : Int32) (pl3 : Nat → Int32) (sp3 : Nat → Int32) (be3 : Int32) (ti3 : Int32) (fiE : Nat → Int32) (btE : Nat → Int32) (suE : Nat → Int32) (knE : Nat) (tr : Int64) (PLP : Nat → Nat → Int32) (SPP : Nat → Nat → Int32) (BEP : Nat → Int32) (TIP : Nat → Int32) (nxP : Nat) (knP : Nat) (mp : Int32) (mt : Nat) (ml : Int32) (md : Nat → Int32) (np : Int32) (nt : Nat) (nl : Int32) (nP : Nat → Int32) (nS : Nat → Int32) (nD : Nat → Int32) (so : Nat → Int32) (ac : Nat) (mk : Nat → Int32) (mn : Nat) (mx : Nat → Int32) (nx : Nat) (mq : Nat) (mv : Int32) (wr : Int32) (ts : Int32) (sn : Nat) (sF : Nat → Int32) (sB : Nat → Int32) (sS : Nat → Int32) (mm : Int64), i < 100000 → L < i + f → INV le ln dr pz sl tp pl sp be ti PLP SPP BEP TIP nxP knP plI spI beI tiI plJ spJ beJ tiJ ke fiE btE suE knE tr mp mt ml md so ac mk mn mx sn sF sB sS mm → Vw g X 4 cN cK (fl [wSpn zo zx zr ztb zna zps zim zkp zf zs zk, wTex g zx zxa le ln, wRea zr zx zb za it st tk vl bg bh, wTol g zb zd drD pzD slD tpD, wMom g za zp zq plS spS beS tiS, wTol g ztb ztd dr pz sl tp, wMom g zna znp znq pl sp be ti, wImg g zim zi0 zi1, wMom g zi0 zip ziq plI spI beI tiI, wMom g zi1 zjp zjq plJ spJ beJ tiJ, wKep g zkp ke, wFut zf zt3 rs rb ou ol, wMom g zt3 zp3 zq3 pl3 sp3 be3 ti3, wSee g zs zsa zsb zsc fiE btE suE knE, wKin zk tr, wPas g zps zma zmo zmp zmq PLP SPP BEP TIP nxP knP, wMod g zm za1 za2 za3 za4 za5 za6 za7 za8 za9 zaa mp mt ml md np nt nl nP nS nD so ac mk mn mx nx mq mv wr ts sn sF sB sS mm]) 18 [(0, .ref b), (1, .ref zo), (2, .ref zm), (3, .int (nI i))] [] := by
  intro f
  induction f with
  | zero =>
    intro i le ln it st tk vl bg bh drD pzD slD tpD plS spS beS tiS dr pz sl tp pl sp be ti plI spI beI tiI plJ spJ beJ tiJ ke rs rb ou ol pl3 sp3 be3 ti3 fiE btE suE knE tr PLP SPP BEP TIP nxP knP mp mt ml md np nt nl nP nS nD so ac mk mn mx nx mq mv wr ts sn sF sB sS mm hi hf h
    refine r_iload_n (pc := 18) C dL_law_18 3 rfl ?_
    refine r_aload_n (pc := 19) C dL_law_19 0 rfl ?_
    refine r_slen (pc := 20) C hX dL_law_20 ?_
    refine r_iconst (pc := 21) 5 C dL_law_21 rfl ?_
    refine r_isub (pc := 22) C dL_law_22 ?_
    refine r_icmpgt (pc := 23) 753 C dL_law_23 (by decide) (fun _ => ?_) (fun cz => absurd (law_in hi hL cz) (by omega))
    refine r_iconst (pc := 753) 1 C dL_law_753 rfl ?_
    exact hE _ _
  | succ f ih =>
    intro i le ln it st tk vl bg bh drD pzD slD tpD plS spS beS tiS dr pz sl tp pl sp be ti plI spI beI tiI plJ spJ beJ tiJ ke rs rb ou ol pl3 sp3 be3 ti3 fiE btE suE knE tr PLP SPP BEP TIP nxP knP mp mt ml md np nt nl nP nS nD so ac mk mn mx nx mq mv wr ts sn sF sB sS mm hi hf h
    refine r_iload_n (pc := 18) C dL_law_18 3 rfl ?_
    refine r_aload_n (pc := 19) C dL_law_19 0 rfl ?_
    refine r_slen (pc := 20) C hX dL_law_20 ?_
    refine r_iconst (pc := 21) 5 C dL_law_21 rfl ?_
    refine r_isub (pc := 22) C dL_law_22 ?_
    refine r_icmpgt (pc := 23) 753 C dL_law_23 (by decide) (fun _ => ?_) (fun cz => ?_)
    · refine r_iconst (pc := 753) 1 C dL_law_753 rfl ?_
      exact hE _ _
    have hin := law_in hi hL cz
    have hnx : ∀ (le : Nat → Int32) (ln : Nat) (it : Int32) (st : Int32) (tk : Int32) (vl : Int32) (bg : Nat) (bh : Nat) (drD : Nat → Int32) (pzD : Int32) (slD : Int32) (tpD : Nat) (plS : Nat → Int32) (spS : Nat → Int32) (beS : Int32) (tiS : Int32) (dr : Nat → Int32) (pz : Int32) (sl : Int32) (tp : Nat) (pl : Nat → Int32) (sp : Nat → Int32) (be : Int32) (ti : Int32) (plI : Nat → Int32) (spI : Nat → Int32) (beI : Int32) (tiI : Int32) (plJ : Nat → Int32) (spJ : Nat → Int32) (beJ : Int32) (tiJ : Int32) (ke : Nat → Int32) (rs : Int32) (rb : Nat) (ou : Int32) (ol : Int32) (pl3 : Nat → Int32) (sp3 : Nat → Int32) (be3 : Int32) (ti3 : Int32) (fiE : Nat → Int32) (btE : Nat → Int32) (suE : Nat → Int32) (knE : Nat) (tr : Int64) (PLP : Nat → Nat → Int32) (SPP : Nat → Nat → Int32) (BEP : Nat → Int32) (TIP : Nat → Int32) (nxP : Nat) (knP : Nat) (mp : Int32) (mt : Nat) (ml : Int32) (md : Nat → Int32) (np : Int32) (nt : Nat) (nl : Int32) (nP : Nat → Int32) (nS : Nat → Int32) (nD : Nat → Int32) (so : Nat → Int32) (ac : Nat) (mk : Nat → Int32) (mn : Nat) (mx : Nat → Int32) (nx : Nat) (mq : Nat) (mv : Int32) (wr : Int32) (ts : Int32) (sn : Nat) (sF : Nat → Int32) (sB : Nat → Int32) (sS : Nat → Int32) (mm : Int64), INV le ln dr pz sl tp pl sp be ti PLP SPP BEP TIP nxP knP plI spI beI tiI plJ spJ beJ tiJ ke fiE btE suE knE tr mp mt ml md so ac mk mn mx sn sF sB sS mm → Vw g X 4 cN cK (fl [wSpn zo zx zr ztb zna zps zim zkp zf zs zk, wTex g zx zxa le ln, wRea zr zx zb za it st tk vl bg bh, wTol g zb zd drD pzD slD tpD, wMom g za zp zq plS spS beS tiS, wTol g ztb ztd dr pz sl tp, wMom g zna znp znq pl sp be ti, wImg g zim zi0 zi1, wMom g zi0 zip ziq plI spI beI tiI, wMom g zi1 zjp zjq plJ spJ beJ tiJ, wKep g zkp ke, wFut zf zt3 rs rb ou ol, wMom g zt3 zp3 zq3 pl3 sp3 be3 ti3, wSee g zs zsa zsb zsc fiE btE suE knE, wKin zk tr, wPas g zps zma zmo zmp zmq PLP SPP BEP TIP nxP knP, wMod g zm za1 za2 za3 za4 za5 za6 za7 za8 za9 zaa mp mt ml md np nt nl nP nS nD so ac mk mn mx nx mq mv wr ts sn sF sB sS mm]) 747 [(0, .ref b), (1, .ref zo), (2, .ref zm), (3, .int (nI i))] [] := by
      intro le ln it st tk vl bg bh drD pzD slD tpD plS spS beS tiS dr pz sl tp pl sp be ti plI spI beI tiI plJ spJ beJ tiJ ke rs rb ou ol pl3 sp3 be3 ti3 fiE btE suE knE tr PLP SPP BEP TIP nxP knP mp mt ml md np nt nl nP nS nD so ac mk mn mx nx mq mv wr ts sn sF sB sS mm h
      refine r_iinc (pc := 747) (nI (i + 5)) [(3, .int (nI (i + 5))), (0, .ref b), (1, .ref zo), (2, .ref zm)] C dL_law_747 3 rfl (law_5 i) (by decide) rfl ?_
      refine r_goto (pc := 750) 18 C dL_law_750 (by decide) ?_
      refine u_lv [(0, .ref b), (1, .ref zo), (2, .ref zm), (3, .int (nI (i + 5)))] [1, 2, 3, 0] rfl ?_
      exact ih (i + 5) _ _ _ _ _ _ _ _ _ _ _ _ _ _ _ _ _ _ _ _ _ _ _ _ _ _ _ _ _ _ _ _ _ _ _ _ _ _ _ _ _ _ _ _ _ _ _ _ _ _ _ _ _ _ _ _ _ _ _ _ _ _ _ _ _ _ _ _ _ _ _ _ _ _ _ _ _ (by omega) (by omega) h
    refine r_aload_n (pc := 26) C dL_law_26 0 rfl ?_
    refine r_iload_n (pc := 27) C dL_law_27 3 rfl ?_
    refine r_sld (pc := 28) i C hX dL_law_28 rfl (by omega) (by omega) ?_
    refine r_bipush (pc := 29) 31 C dL_law_29 rfl ?_
    refine r_iand (pc := 31) C dL_law_31 ?_
    refine u_int (fun v ev => ?_)
    clear ev
    by_cases z0 : v = 0
    · exact r_tabIn (pc := 32) 0 112 144 C dL_law_32 z0 (by decide) (by decide) (by decide) (by decide) (L_type C hX hL hnk hin h hnx)
    by_cases z1 : v = 1
    · exact r_tabIn (pc := 32) 1 135 167 C dL_law_32 z1 (by decide) (by decide) (by decide) (by decide) (L_clear C hX hL hnk hin h hnx)
    by_cases z2 : v = 2
    · exact r_tabIn (pc := 32) 2 148 180 C dL_law_32 z2 (by decide) (by decide) (by decide) (by decide) (L_tray C hX hL hnk hin h hnx)
    by_cases z3 : v = 3
    · exact r_tabIn (pc := 32) 3 161 193 C dL_law_32 z3 (by decide) (by decide) (by decide) (by decide) (L_top C hX hL hnk hin h hnx)
    by_cases z4 : v = 4
    · exact r_tabIn (pc := 32) 4 194 226 C dL_law_32 z4 (by decide) (by decide) (by decide) (by decide) (L_at C hX hL hnk hin h hnx)
    by_cases z5 : v = 5
    · exact r_tabIn (pc := 32) 5 217 249 C dL_law_32 z5 (by decide) (by decide) (by decide) (by decide) (L_now C hX hL hnk hin h hnx)
    by_cases z6 : v = 6
    · exact r_tabIn (pc := 32) 6 240 272 C dL_law_32 z6 (by decide) (by decide) (by decide) (by decide) (L_beats C hX hL hnk hin h hnx)
    by_cases z7 : v = 7
    · exact r_tabIn (pc := 32) 7 253 285 C dL_law_32 z7 (by decide) (by decide) (by decide) (by decide) (L_whips C hX hL hnk hin h hnx)
    by_cases z8 : v = 8
    · exact r_tabIn (pc := 32) 8 286 318 C dL_law_32 z8 (by decide) (by decide) (by decide) (by decide) (L_tilts C hX hL hnk hin h hnx)
    by_cases z9 : v = 9
    · exact r_tabIn (pc := 32) 9 309 341 C dL_law_32 z9 (by decide) (by decide) (by decide) (by decide) (L_sets C hX hL hnk hin h hnx)
    by_cases z10 : v = 10
    · exact r_tabIn (pc := 32) 10 342 374 C dL_law_32 z10 (by decide) (by decide) (by decide) (by decide) (L_undo C hX hL hnk hin h hnx)
    by_cases z11 : v = 11
    · exact r_tabIn (pc := 32) 11 355 387 C dL_law_32 z11 (by decide) (by decide) (by decide) (by decide) (L_stand C hX hL hnk hin h hnx)
    by_cases z12 : v = 12
    · exact r_tabIn (pc := 32) 12 378 410 C dL_law_32 z12 (by decide) (by decide) (by decide) (by decide) (L_whip C hX hL hnk hin h hnx)
    by_cases z13 : v = 13
    · exact r_tabIn (pc := 32) 13 411 443 C dL_law_32 z13 (by decide) (by decide) (by decide) (by decide) (L_row C hX hL hnk hin h hnx)
    by_cases z14 : v = 14
    · exact r_tabIn (pc := 32) 14 444 476 C dL_law_32 z14 (by decide) (by decide) (by decide) (by decide) (L_odds C hX hL hnk hin h hnx)
    by_cases z15 : v = 15
    · exact r_tabIn (pc := 32) 15 497 529 C dL_law_32 z15 (by decide) (by decide) (by decide) (by decide) (L_sees C hX hL hnk hin h hnx)
    by_cases z16 : v = 16
    · exact r_tabIn (pc := 32) 16 540 572 C dL_law_32 z16 (by decide) (by decide) (by decide) (by decide) (L_forget C hX hL hnk hin h hnx)
    by_cases z17 : v = 17
    · exact r_tabIn (pc := 32) 17 553 585 C dL_law_32 z17 (by decide) (by decide) (by decide) (by decide) (L_drags C hX hL hnk hin h hnx)
    by_cases z18 : v = 18
    · exact r_tabIn (pc := 32) 18 576 608 C dL_law_32 z18 (by decide) (by decide) (by decide) (by decide) (L_look C hX hL hnk hin h hnx)
    by_cases z19 : v = 19
    · exact r_tabIn (pc := 32) 19 599 631 C dL_law_32 z19 (by decide) (by decide) (by decide) (by decide) (L_rate C hX hL hnk hin h hnx)
    by_cases z20 : v = 20
    · exact r_tabIn (pc := 32) 20 632 664 C dL_law_32 z20 (by decide) (by decide) (by decide) (by decide) (L_keep C hX hL hnk hin h hnx)
    by_cases z21 : v = 21
    · exact r_tabIn (pc := 32) 21 655 687 C dL_law_32 z21 (by decide) (by decide) (by decide) (by decide) (L_back C hX hL hnk hin h hnx)
    by_cases z22 : v = 22
    · exact r_tabIn (pc := 32) 22 678 710 C dL_law_32 z22 (by decide) (by decide) (by decide) (by decide) (L_count C hX hL hnk hin h hnx)
    by_cases z23 : v = 23
    · exact r_tabIn (pc := 32) 23 701 733 C dL_law_32 z23 (by decide) (by decide) (by decide) (by decide) (L_trace C hX hL hnk hin h hnx)
    have y0 : ¬ v.toInt = 0 := lv_neT z0 (by decide)
    have y1 : ¬ v.toInt = 1 := lv_neT z1 (by decide)
    have y2 : ¬ v.toInt = 2 := lv_neT z2 (by decide)
    have y3 : ¬ v.toInt = 3 := lv_neT z3 (by decide)
    have y4 : ¬ v.toInt = 4 := lv_neT z4 (by decide)
    have y5 : ¬ v.toInt = 5 := lv_neT z5 (by decide)
    have y6 : ¬ v.toInt = 6 := lv_neT z6 (by decide)
    have y7 : ¬ v.toInt = 7 := lv_neT z7 (by decide)
    have y8 : ¬ v.toInt = 8 := lv_neT z8 (by decide)
    have y9 : ¬ v.toInt = 9 := lv_neT z9 (by decide)
    have y10 : ¬ v.toInt = 10 := lv_neT z10 (by decide)
    have y11 : ¬ v.toInt = 11 := lv_neT z11 (by decide)
    have y12 : ¬ v.toInt = 12 := lv_neT z12 (by decide)
    have y13 : ¬ v.toInt = 13 := lv_neT z13 (by decide)
    have y14 : ¬ v.toInt = 14 := lv_neT z14 (by decide)
    have y15 : ¬ v.toInt = 15 := lv_neT z15 (by decide)
    have y16 : ¬ v.toInt = 16 := lv_neT z16 (by decide)
    have y17 : ¬ v.toInt = 17 := lv_neT z17 (by decide)
    have y18 : ¬ v.toInt = 18 := lv_neT z18 (by decide)
    have y19 : ¬ v.toInt = 19 := lv_neT z19 (by decide)
    have y20 : ¬ v.toInt = 20 := lv_neT z20 (by decide)
    have y21 : ¬ v.toInt = 21 := lv_neT z21 (by decide)
    have y22 : ¬ v.toInt = 22 := lv_neT z22 (by decide)
    have y23 : ¬ v.toInt = 23 := lv_neT z23 (by decide)
    exact r_tabOut (pc := 32) 747 C dL_law_32 (by omega) (by decide) (hnx _ _ _ _ _ _ _ _ _ _ _ _ _ _ _ _ _ _ _ _ _ _ _ _ _ _ _ _ _ _ _ _ _ _ _ _ _ _ _ _ _ _ _ _ _ _ _ _ _ _ _ _ _ _ _ _ _ _ _ _ _ _ _ _ _ _ _ _ _ _ _ _ _ _ _ _ _ h)
