def SCR (X : Cx) (b L : Nat) (xs : Nat → Int32) : Prop :=
  match X with
  | (_, _, _, _, s, _, _, _, _, _, _, A) => va_X b L xs s s.heap ∧ b < s.heap.size ∧ ¬ A b
theorem r_sld {l : Launch} {g : Gl} {X : Cx} {own : String} {cc : ByteArray} {nL d n k pc : Nat} {ws : va_W} {lv : List (Nat × Value)} {rest : List Value} {b L : Nat} {xs : Nat → Int32} {x : Int32} (j : Nat) (C : Ok l g X own cc nL d) (S : SCR X b L xs) (hd : decode cc pc = .ok (.iaload, 1)) (hxj : x = nI j) (hj : j < L) (hL : L < 2 ^ 31) (kk : Vw g X nL n k ws (pc + 1) lv (.int (xs j) :: rest)) : Vw g X nL n k ws pc lv (.int x :: .ref b :: rest) := by
  obtain ⟨p, l', e, R, s, m, args, below, meth, c, Q, A⟩ := X
  obtain ⟨rfl, hx, hb, hml, hown, hts, hK, hlk, hA, hfr, hlo⟩ := C
  obtain ⟨s1, s2, s3⟩ := S
  intro H locs ls hP hD hS hl
  subst hxj
  have kk' := kk H locs ls hP hD hS hl
  refine va_sld hx hb s1 s2 s3 hS (vp_in_nI hj hL) hd ?_
  rw [nI_clamp (Nat.lt_trans hj hL)]
  exact kk'
theorem r_slen {l : Launch} {g : Gl} {X : Cx} {own : String} {cc : ByteArray} {nL d n k pc : Nat} {ws : va_W} {lv : List (Nat × Value)} {rest : List Value} {b L : Nat} {xs : Nat → Int32} (C : Ok l g X own cc nL d) (S : SCR X b L xs) (hd : decode cc pc = .ok (.arraylength, 1)) (kk : Vw g X nL n k ws (pc + 1) lv (.int (nI L) :: rest)) : Vw g X nL n k ws pc lv (.ref b :: rest) := by
  obtain ⟨p, l', e, R, s, m, args, below, meth, c, Q, A⟩ := X
  obtain ⟨rfl, hx, hb, hml, hown, hts, hK, hlk, hA, hfr, hlo⟩ := C
  obtain ⟨s1, s2, s3⟩ := S
  intro H locs ls hP hD hS hl
  exact va_slen hx hb s1 s2 s3 hS hd (kk H locs ls hP hD hS hl)
theorem law_in {i L : Nat} (hi : i < 100000) (hL : L ≤ 2560) (h : ¬ nI L - 5 < nI i) : i + 5 ≤ L := by
  have e : (nI L - 5).toInt = (L : Int) - 5 := by
    rw [m_sub (by rw [nI_toInt (by omega)]; omega) (by rw [nI_toInt (by omega)]; omega) (by rw [m_5]; omega) (by rw [m_5]; omega), nI_toInt (by omega), m_5]
  rw [m_lt, e, nI_toInt (by omega)] at h
  omega
theorem law_5 (i : Nat) : nI i + Int32.ofInt 5 = nI (i + 5) := by rw [show Int32.ofInt 5 = nI 5 from by decide]; exact nI_add i 5
theorem pz_0 {mp : Int32} (h : PZ mp) : ¬ mp = 0 := by
  intro e
  rw [e] at h
  exact absurd h.1 (by decide)
theorem law_cmp_eq (x : Int64) : lg_cmp x x = 0 := by
  first | (simp [lg_cmp]; done) | (unfold lg_cmp; simp)
def WL (g : Gl) (zo : Nat) (zx : Nat) (zr : Nat) (ztb : Nat) (zna : Nat) (zps : Nat) (zim : Nat) (zkp : Nat) (zf : Nat) (zs : Nat) (zk : Nat) (zxa : Nat) (zb : Nat) (za : Nat) (zd : Nat) (zp : Nat) (zq : Nat) (ztd : Nat) (znp : Nat) (znq : Nat) (zi0 : Nat) (zi1 : Nat) (zip : Nat) (ziq : Nat) (zjp : Nat) (zjq : Nat) (zt3 : Nat) (zp3 : Nat) (zq3 : Nat) (zsa : Nat) (zsb : Nat) (zsc : Nat) (zma : Nat) (zmo : Nat → Nat) (zmp : Nat → Nat) (zmq : Nat → Nat) (zm : Nat) (za1 : Nat) (za2 : Nat) (za3 : Nat) (za4 : Nat) (za5 : Nat) (za6 : Nat) (za7 : Nat) (za8 : Nat) (za9 : Nat) (zaa : Nat) (le : Nat → Int32) (ln : Nat) (it : Int32) (st : Int32) (tk : Int32) (vl : Int32) (bg : Nat) (bh : Nat) (drD : Nat → Int32) (pzD : Int32) (slD : Int32) (tpD : Nat) (plS : Nat → Int32) (spS : Nat → Int32) (beS : Int32) (tiS : Int32) (dr : Nat → Int32) (pz : Int32) (sl : Int32) (tp : Nat) (pl : Nat → Int32) (sp : Nat → Int32) (be : Int32) (ti : Int32) (plI : Nat → Int32) (spI : Nat → Int32) (beI : Int32) (tiI : Int32) (plJ : Nat → Int32) (spJ : Nat → Int32) (beJ : Int32) (tiJ : Int32) (ke : Nat → Int32) (rs : Int32) (rb : Nat) (ou : Int32) (ol : Int32) (pl3 : Nat → Int32) (sp3 : Nat → Int32) (be3 : Int32) (ti3 : Int32) (fiE : Nat → Int32) (btE : Nat → Int32) (suE : Nat → Int32) (knE : Nat) (tr : Int64) (PLP : Nat → Nat → Int32) (SPP : Nat → Nat → Int32) (BEP : Nat → Int32) (TIP : Nat → Int32) (nxP : Nat) (knP : Nat) (mp : Int32) (mt : Nat) (ml : Int32) (md : Nat → Int32) (np : Int32) (nt : Nat) (nl : Int32) (nP : Nat → Int32) (nS : Nat → Int32) (nD : Nat → Int32) (so : Nat → Int32) (ac : Nat) (mk : Nat → Int32) (mn : Nat) (mx : Nat → Int32) (nx : Nat) (mq : Nat) (mv : Int32) (wr : Int32) (ts : Int32) (sn : Nat) (sF : Nat → Int32) (sB : Nat → Int32) (sS : Nat → Int32) (mm : Int64) : List va_W := [wSpn zo zx zr ztb zna zps zim zkp zf zs zk, wTex g zx zxa le ln, wRea zr zx zb za it st tk vl bg bh, wTol g zb zd drD pzD slD tpD, wMom g za zp zq plS spS beS tiS, wTol g ztb ztd dr pz sl tp, wMom g zna znp znq pl sp be ti, wImg g zim zi0 zi1, wMom g zi0 zip ziq plI spI beI tiI, wMom g zi1 zjp zjq plJ spJ beJ tiJ, wKep g zkp ke, wFut zf zt3 rs rb ou ol, wMom g zt3 zp3 zq3 pl3 sp3 be3 ti3, wSee g zs zsa zsb zsc fiE btE suE knE, wKin zk tr, wPas g zps zma zmo zmp zmq PLP SPP BEP TIP nxP knP, wMod g zm za1 za2 za3 za4 za5 za6 za7 za8 za9 zaa mp mt ml md np nt nl nP nS nD so ac mk mn mx nx mq mv wr ts sn sF sB sS mm]
def INVL (le : Nat → Int32) (ln : Nat) (it : Int32) (st : Int32) (tk : Int32) (vl : Int32) (bg : Nat) (bh : Nat) (drD : Nat → Int32) (pzD : Int32) (slD : Int32) (tpD : Nat) (plS : Nat → Int32) (spS : Nat → Int32) (beS : Int32) (tiS : Int32) (dr : Nat → Int32) (pz : Int32) (sl : Int32) (tp : Nat) (pl : Nat → Int32) (sp : Nat → Int32) (be : Int32) (ti : Int32) (plI : Nat → Int32) (spI : Nat → Int32) (beI : Int32) (tiI : Int32) (plJ : Nat → Int32) (spJ : Nat → Int32) (beJ : Int32) (tiJ : Int32) (ke : Nat → Int32) (rs : Int32) (rb : Nat) (ou : Int32) (ol : Int32) (pl3 : Nat → Int32) (sp3 : Nat → Int32) (be3 : Int32) (ti3 : Int32) (fiE : Nat → Int32) (btE : Nat → Int32) (suE : Nat → Int32) (knE : Nat) (tr : Int64) (PLP : Nat → Nat → Int32) (SPP : Nat → Nat → Int32) (BEP : Nat → Int32) (TIP : Nat → Int32) (nxP : Nat) (knP : Nat) (mp : Int32) (mt : Nat) (ml : Int32) (md : Nat → Int32) (np : Int32) (nt : Nat) (nl : Int32) (nP : Nat → Int32) (nS : Nat → Int32) (nD : Nat → Int32) (so : Nat → Int32) (ac : Nat) (mk : Nat → Int32) (mn : Nat) (mx : Nat → Int32) (nx : Nat) (mq : Nat) (mv : Int32) (wr : Int32) (ts : Int32) (sn : Nat) (sF : Nat → Int32) (sB : Nat → Int32) (sS : Nat → Int32) (mm : Int64) : Prop := INV le ln dr pz sl tp pl sp be ti PLP SPP BEP TIP nxP knP plI spI beI tiI plJ spJ beJ tiJ ke fiE btE suE knE tr mp mt ml md so ac mk mn mx sn sF sB sS mm
