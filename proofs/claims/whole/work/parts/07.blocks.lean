def fl (Bs : List va_W) : va_W := Bs.flatten
def setG {α : Type} : List α → List Nat → List α → List α
  | ws, i :: is, w :: w1 => setG (ws.set i w) is w1
  | ws, _, _ => ws
theorem setG_get {α : Type} : ∀ (is : List Nat) (w1 ws : List α) (j : Nat) (q : α), (setG ws is w1)[j]? = some q → q ∈ w1 ∨ ((j ∉ is ∨ w1.length < is.length) ∧ ws[j]? = some q)
  | [], _, ws, j, q, h => by
    rw [setG] at h
    · exact Or.inr ⟨Or.inl (List.not_mem_nil), h⟩
    · simp
  | i :: is, [], ws, j, q, h => by
    rw [setG] at h
    · exact Or.inr ⟨Or.inr (by simp), h⟩
    · simp
  | i :: is, w :: w1, ws, j, q, h => by
    rw [setG] at h
    rcases setG_get is w1 (ws.set i w) j q h with h1 | ⟨h1, h2⟩
    · exact Or.inl (List.mem_cons_of_mem _ h1)
    · by_cases hj : j = i
      · subst hj
        by_cases hlt : j < ws.length
        · rw [List.getElem?_set_self hlt] at h2
          cases h2
          exact Or.inl List.mem_cons_self
        · rw [List.getElem?_eq_none (by rw [List.length_set]; omega)] at h2
          cases h2
      · rw [List.getElem?_set_ne (fun e => hj e.symm)] at h2
        refine Or.inr ⟨?_, h2⟩
        rcases h1 with h1 | h1
        · exact Or.inl (by simp [hj, h1])
        · exact Or.inr (by simp only [List.length_cons]; omega)
theorem setG_map {α β : Type} (f : α → β) : ∀ (is : List Nat) (w1 ws : List α), is.map (fun i => (ws.map f)[i]?) = w1.map (fun q => some (f q)) → (setG ws is w1).map f = ws.map f
  | [], _, ws, h => by rw [setG]; simp
  | i :: is, [], ws, h => by simp at h
  | i :: is, w :: w1, ws, h => by
    rw [setG]
    simp only [List.map_cons, List.cons.injEq] at h
    have e : (ws.set i w).map f = ws.map f := by
      apply List.ext_getElem?
      intro j
      rw [List.map_set]
      by_cases hj : j = i
      · subst hj
        rw [h.1]
        have hlt := (List.getElem?_eq_some_iff.mp h.1).1
        rw [List.getElem?_set_self hlt]
      · rw [List.getElem?_set_ne (fun e => hj e.symm)]
    rw [setG_map f is w1 (ws.set i w) (by rw [e]; exact h.2), e]
theorem gi_at {α : Type} {ws wc : List α} {is : List Nat} (hs : is.map (fun i => ws[i]?) = wc.map some) (k : Nat) (q : α) (hq : wc[k]? = some q) : ∃ i, is[k]? = some i ∧ ws[i]? = some q := by
  have h1 : (is.map (fun i => ws[i]?))[k]? = some (some q) := by rw [hs, List.getElem?_map, hq]; rfl
  rw [List.getElem?_map] at h1
  cases hi : is[k]? with
  | none => rw [hi] at h1; cases h1
  | some i => rw [hi] at h1; exact ⟨i, rfl, Option.some.inj h1⟩
theorem gi_len {α : Type} {ws wc : List α} {is : List Nat} (hs : is.map (fun i => ws[i]?) = wc.map some) : is.length = wc.length := by
  have := congrArg List.length hs
  simpa using this
theorem va_P_mem {D : va_G} {cl : List vw_C} {ws : va_W} {H : Heap} : va_P D cl ws H ↔ ∀ q ∈ ws, va_at D cl q H := by
  constructor
  · intro h q hq
    obtain ⟨j, hj⟩ := List.getElem?_of_mem hq
    exact h j q hj
  · exact fun h k q hq => h q (List.mem_of_getElem? hq)
/-- blocks that are apart -/
theorem fl_apart {A : Nat → Prop} {Bs : List va_W} (hD : va_D A (fl Bs)) {i j : Nat} {b c : va_W} (hi : Bs[i]? = some b) (hj : Bs[j]? = some c) (hij : i ≠ j) {x y : Nat × va_E} (hx : x ∈ b) (hy : y ∈ c) : x.1 ≠ y.1 := by
  have h := ((List.pairwise_flatten (L := Bs)).mp (va_D_pw.mp hD).1).2
  obtain ⟨hi1, hi2⟩ := List.getElem?_eq_some_iff.mp hi
  obtain ⟨hj1, hj2⟩ := List.getElem?_eq_some_iff.mp hj
  have pw := List.pairwise_iff_getElem.mp h
  rcases Nat.lt_trichotomy i j with c1 | c1 | c1
  · exact pw i j hi1 hj1 c1 x (by rw [hi2]; exact hx) y (by rw [hj2]; exact hy)
  · exact absurd c1 hij
  · exact fun e => pw j i hj1 hi1 c1 y (by rw [hj2]; exact hy) x (by rw [hi2]; exact hx) e.symm
theorem fl_mem {Bs : List va_W} {i : Nat} {b : va_W} (hi : Bs[i]? = some b) {x : Nat × va_E} (hx : x ∈ b) : x ∈ fl Bs := List.mem_flatten.mpr ⟨b, List.mem_of_getElem? hi, hx⟩
theorem fl_subP {D : va_G} {cl : List vw_C} {Bs Cs : List va_W} {H : Heap} (hP : va_P D cl (fl Bs) H) {isB : List Nat} (hC : isB.map (fun i => Bs[i]?) = Cs.map some) : va_P D cl (fl Cs) H := by
  rw [va_P_mem] at hP ⊢
  intro q hq
  obtain ⟨c, hc, hqc⟩ := List.mem_flatten.mp hq
  obtain ⟨k, hk⟩ := List.getElem?_of_mem hc
  obtain ⟨i, -, hi⟩ := gi_at hC k c hk
  exact hP q (fl_mem hi hqc)
theorem fl_subD {A : Nat → Prop} {Bs Cs : List va_W} (hD : va_D A (fl Bs)) {isB : List Nat} (hnd : va_nd isB = true) (hC : isB.map (fun i => Bs[i]?) = Cs.map some) : va_D A (fl Cs) := by
  rw [va_D_pw]
  have hb := ((List.pairwise_flatten (L := Bs)).mp (va_D_pw.mp hD).1).1
  refine ⟨(List.pairwise_flatten (L := Cs)).mpr ⟨fun c hc => ?_, List.pairwise_iff_getElem.mpr (fun i j hi hj hij => ?_)⟩, fun q hq => ?_⟩
  · obtain ⟨k, hk⟩ := List.getElem?_of_mem hc
    obtain ⟨i, -, hi⟩ := gi_at hC k c hk
    exact hb c (List.mem_of_getElem? hi)
  · obtain ⟨i1, a1, a2⟩ := gi_at hC i _ (List.getElem?_eq_getElem hi)
    obtain ⟨j1, b1, b2⟩ := gi_at hC j _ (List.getElem?_eq_getElem hj)
    intro x hx y hy
    refine fl_apart hD a2 b2 (fun e => ?_) hx hy
    subst e
    have := va_nd_inj isB hnd i j _ a1 b1
    omega
  · obtain ⟨c, hc, hqc⟩ := List.mem_flatten.mp hq
    obtain ⟨k, hk⟩ := List.getElem?_of_mem hc
    obtain ⟨i, -, hi⟩ := gi_at hC k c hk
    exact (va_D_pw.mp hD).2 q (fl_mem hi hqc)
theorem fl_free {A0 : Nat → Prop} {Bs Cs : List va_W} {H0 H : Heap} {locs : List Loc} (hD : va_D A0 (fl Bs)) (hS : va_S A0 H0 H locs) (hA : ∀ q, H0.size ≤ q → A0 q) {isB : List Nat} (hC : isB.map (fun i => Bs[i]?) = Cs.map some) : ∀ q, va_A (fl Cs) H.size q → A0 q := by
  intro q h
  rcases h with ⟨k, e, h⟩ | h
  · obtain ⟨c, hc, hqc⟩ := List.mem_flatten.mp (List.mem_of_getElem? h)
    obtain ⟨k, hk⟩ := List.getElem?_of_mem hc
    obtain ⟨i, -, hi⟩ := gi_at hC k c hk
    exact (va_D_pw.mp hD).2 (q, e) (fl_mem hi hqc)
  · exact hA q (Nat.le_trans hS.1 h)
theorem fl_out {A0 : Nat → Prop} {D : va_G} {cl : List vw_C} {Bs Cs : List va_W} {H : Heap} (hP : va_P D cl (fl Bs) H) (hD : va_D A0 (fl Bs)) {isB : List Nat} (hC : isB.map (fun i => Bs[i]?) = Cs.map some) {j : Nat} {b : va_W} (hj : Bs[j]? = some b) (hn : j ∉ isB) {q : Nat × va_E} (hq : q ∈ b) : q.1 < H.size ∧ ¬ va_A (fl Cs) H.size q.1 := by
  have hl := (va_P_mem.mp hP q (fl_mem hj hq)).lt
  refine ⟨hl, fun hA => ?_⟩
  rcases hA with ⟨k2, e, h3⟩ | h3
  · obtain ⟨c, hc, hqc⟩ := List.mem_flatten.mp (List.mem_of_getElem? h3)
    obtain ⟨k, hk⟩ := List.getElem?_of_mem hc
    obtain ⟨i, h4, hi⟩ := gi_at hC k c hk
    exact fl_apart hD hj hi (fun e => hn (by rw [e]; exact List.mem_of_getElem? h4)) hq hqc rfl
  · omega
theorem fjB {A0 : Nat → Prop} {D : va_G} {cl : List vw_C} {Bs Cs Cs1 : List va_W} {H H1 : Heap} (hP : va_P D cl (fl Bs) H) (hD : va_D A0 (fl Bs)) (isB : List Nat) (hC : isB.map (fun i => Bs[i]?) = Cs.map some) (ha : Cs1.map (fun b => b.map Prod.fst) = Cs.map (fun b => b.map Prod.fst))
    (hk : ∀ q : Nat, q < H.size → ¬ va_A (fl Cs) H.size q → H1[q]? = H[q]?) (hP1 : va_P D cl (fl Cs1) H1) : va_P D cl (fl (setG Bs isB Cs1)) H1 ∧ va_D A0 (fl (setG Bs isB Cs1)) := by
  have hlen : Cs1.length = isB.length := by
    have h1 := congrArg List.length ha
    simp only [List.length_map] at h1
    rw [h1, gi_len hC]
  constructor
  · rw [va_P_mem]
    intro q hq
    obtain ⟨b, hb, hqb⟩ := List.mem_flatten.mp hq
    obtain ⟨j, hj⟩ := List.getElem?_of_mem hb
    rcases setG_get isB Cs1 Bs j b hj with h | ⟨h, h2⟩
    · exact va_P_mem.mp hP1 q (List.mem_flatten.mpr ⟨b, h, hqb⟩)
    · have hn : j ∉ isB := by
        rcases h with h | h
        · exact h
        · omega
      obtain ⟨g1, g2⟩ := fl_out hP hD hC h2 hn hqb
      exact (va_P_mem.mp hP q (fl_mem h2 hqb)).kept (hk q.1 g1 g2)
  · refine va_D_fst ?_ hD
    show (setG Bs isB Cs1).flatten.map Prod.fst = Bs.flatten.map Prod.fst
    rw [List.map_flatten, List.map_flatten]
    congr 1
    have e1 : isB.map (fun i => (Bs.map (fun b => b.map Prod.fst))[i]?) = (isB.map (fun i => Bs[i]?)).map (fun o => o.map (fun b => b.map Prod.fst)) := by
      rw [List.map_map]
      apply List.map_congr_left
      intro i _
      simp [List.getElem?_map]
    refine setG_map (fun b : va_W => b.map Prod.fst) isB Cs1 Bs ?_
    rw [e1, hC, List.map_map]
    have e2 : Cs1.map (fun q => some ((fun b : va_W => b.map Prod.fst) q)) = (Cs1.map (fun b => b.map Prod.fst)).map some := by rw [List.map_map]; rfl
    rw [e2, ha, List.map_map]
    rfl
theorem fjBP {A0 : Nat → Prop} {D : va_G} {cl : List vw_C} {Bs Cs : List va_W} {H H1 : Heap} (hP : va_P D cl (fl Bs) H) (hD : va_D A0 (fl Bs)) (isB : List Nat) (hC : isB.map (fun i => Bs[i]?) = Cs.map some)
    (hk : ∀ q : Nat, q < H.size → ¬ va_A (fl Cs) H.size q → H1[q]? = H[q]?) (hP1 : va_P D cl (fl Cs) H1) : va_P D cl (fl Bs) H1 := by
  rw [va_P_mem]
  intro q hq
  obtain ⟨b, hb, hqb⟩ := List.mem_flatten.mp hq
  obtain ⟨j, hj⟩ := List.getElem?_of_mem hb
  by_cases hn : j ∈ isB
  · obtain ⟨k, hk1⟩ := List.getElem?_of_mem hn
    have h1 : (isB.map (fun i => Bs[i]?))[k]? = some (some b) := by rw [List.getElem?_map, hk1]; exact congrArg some hj
    rw [hC, List.getElem?_map] at h1
    cases hc : Cs[k]? with
    | none => rw [hc] at h1; cases h1
    | some c =>
      rw [hc] at h1
      have : c = b := Option.some.inj (Option.some.inj h1)
      subst this
      exact va_P_mem.mp hP1 q (fl_mem hc hqb)
  · obtain ⟨g1, g2⟩ := fl_out hP hD hC hj hn hqb
    exact (va_P_mem.mp hP q (fl_mem hj hqb)).kept (hk q.1 g1 g2)
theorem adMom (g : Gl) (a p q : Nat) (pl sp : Nat → Int32) (be ti : Int32) : (wMom g a p q pl sp be ti).map Prod.fst = [a, p, q] := rfl
theorem adTol (g : Gl) (b d : Nat) (dr : Nat → Int32) (pc sl : Int32) (tp : Nat) : (wTol g b d dr pc sl tp).map Prod.fst = [b, d] := rfl
theorem adTex (g : Gl) (x xa : Nat) (le : Nat → Int32) (ln : Nat) : (wTex g x xa le ln).map Prod.fst = [x, xa] := rfl
theorem adRea (r x b a : Nat) (it st tk vl : Int32) (bg bh : Nat) : (wRea r x b a it st tk vl bg bh).map Prod.fst = [r] := rfl
theorem adFut (f a : Nat) (rs : Int32) (rb : Nat) (ou ol : Int32) : (wFut f a rs rb ou ol).map Prod.fst = [f] := rfl
theorem adSee (g : Gl) (s sa sb sc : Nat) (fi bt su : Nat → Int32) (kn : Nat) : (wSee g s sa sb sc fi bt su kn).map Prod.fst = [s, sa, sb, sc] := rfl
theorem adKin (k : Nat) (tr : Int64) : (wKin k tr).map Prod.fst = [k] := rfl
theorem adSpn (o x r tb na ps im kp f s k : Nat) : (wSpn o x r tb na ps im kp f s k).map Prod.fst = [o] := rfl
theorem adImg (g : Gl) (im i0 i1 : Nat) : (wImg g im i0 i1).map Prod.fst = [im] := rfl
theorem adKep (g : Gl) (kp : Nat) (ke : Nat → Int32) : (wKep g kp ke).map Prod.fst = [kp] := rfl
theorem adMod (g : Gl) (m a1 a2 a3 a4 a5 a6 a7 a8 a9 aa : Nat) (mp : Int32) (mt : Nat) (ml : Int32) (md : Nat → Int32) (np : Int32) (nt : Nat) (nl : Int32) (nP nS nD so : Nat → Int32) (ac : Nat) (mk : Nat → Int32) (mn : Nat) (mx : Nat → Int32) (nx mq : Nat) (mv wr ts : Int32) (sn : Nat) (sF sB sS : Nat → Int32) (mm : Int64) : (wMod g m a1 a2 a3 a4 a5 a6 a7 a8 a9 aa mp mt ml md np nt nl nP nS nD so ac mk mn mx nx mq mv wr ts sn sF sB sS mm).map Prod.fst = [m, a1, a2, a3, a4, a5, a6, a7, a8, a9, aa] := rfl
theorem adPa0 (g : Gl) (ps ma : Nat) (mo : Nat → Nat) (nx kn : Nat) : (wPa0 g ps ma mo nx kn).map Prod.fst = [ps, ma] := rfl
theorem adPas (g : Gl) (ps ma : Nat) (mo mp mq : Nat → Nat) (PL SP : Nat → Nat → Int32) (BE TI : Nat → Int32) (nx kn : Nat) : (wPas g ps ma mo mp mq PL SP BE TI nx kn).map Prod.fst = [ps, ma, mo 0, mp 0, mq 0, mo 1, mp 1, mq 1, mo 2, mp 2, mq 2, mo 3, mp 3, mq 3, mo 4, mp 4, mq 4, mo 5, mp 5, mq 5, mo 6, mp 6, mq 6, mo 7, mp 7, mq 7, mo 8, mp 8, mq 8, mo 9, mp 9, mq 9] := rfl
theorem pas_fl (g : Gl) (ps ma : Nat) (mo mp mq : Nat → Nat) (PL SP : Nat → Nat → Int32) (BE TI : Nat → Int32) (nx kn : Nat) {k : Nat} (hk : k < 10) (R : va_W) : (fl [wPas g ps ma mo mp mq PL SP BE TI nx kn, R]).Perm (fl [wPa0 g ps ma mo nx kn, wMom g (mo k) (mp k) (mq k) (PL k) (SP k) (BE k) (TI k), R, wPax g mo mp mq PL SP BE TI k]) := by
  have h := pas_in g ps ma mo mp mq PL SP BE TI nx kn hk R
  unfold fl
  simpa only [List.flatten_cons, List.flatten_nil, List.append_nil, List.append_assoc] using h

theorem w_cI {l : Launch} {g : Gl} {X : Cx} {own : String} {cc : ByteArray} {nL d n k pc : Nat} {Bs : List va_W} {lv : List (Nat × Value)} {rest : List Value} {index : Nat} {y : MethodName} {cc2 : ByteArray} {nL2 d2 b ci : Nat} {fs : List Value} {As st : List Value} {Cs : List va_W} {Cs1 : List va_W} (Bs' : List va_W) {r : Int32} {ret : Option FieldType} (C : Ok l g X own cc nL d) (L : MLV own index y cc2 nL2 ret As.length ci) (M : CtI l g y cc2 nL2 ret d2 (.ref b :: As) (fl Cs) r (fl Cs1)) (hd : decode cc pc = .ok (.invokevirtual index, 3)) (hdd : d2 < d) (isB : List Nat) (hC : isB.map (fun i => Bs[i]?) = Cs.map some) (hnd : va_nd isB = true) (ha : Cs1.map (fun b => b.map Prod.fst) = Cs.map (fun b => b.map Prod.fst)) (hw : setG Bs isB Cs1 = Bs') (q0 : Nat) (hrec : (fl Bs)[q0]? = some (b, .inr (ci, fs))) (hst : st = As.reverse ++ .ref b :: rest) (hcat : (rest.map fun v => v.category).sum ≤ 8) (hnk : n ≤ cellsX X ∧ k ≤ slotsX X) (kk : Vw g X nL n k (fl Bs') (pc + 3) lv (.int r :: rest)) : Vw g X nL n k (fl Bs) pc lv st := by
  obtain ⟨p, l', e, R, s, m, args, below, meth, c, Q, A⟩ := X
  obtain ⟨rfl, hx, hb, hml, hown, hts, hK, hlk, hA, hfr, hlo⟩ := C
  intro H locs ls hP hD hS hl
  subst hst
  obtain ⟨hlink, hin, hsel, hini, hcode, hy, ⟨Tc, Nc, hcl⟩, hnl⟩ := L
  have hPc := fl_subP hP hC
  have hDc := fl_subD hD hnd hC
  have hFc := fl_free hD hS hA hC
  have hp : PreV s H y.cls b (va_Pc (.ref b :: As) (PreW g (fl Cs) H.size)) As := ⟨PreW.blind, va_recv hK.1 hP hcl hrec, fun U hU hW => ⟨rfl, by rw [hU], by rw [hU]; exact hPc, hK.warm hW, hDc.weaken (fun _ _ _ _ => trivial)⟩⟩
  have hrm : (rmq d2 0 0).frames + 1 ≤ R.frames ∧ 8 + (nL2 + 11) + (rmq d2 0 0).locals ≤ R.locals := by
    show d2 + 1 ≤ R.frames ∧ 8 + (nL2 + 11) + 38 * d2 ≤ R.locals
    omega
  have hrun : va_Run p l' e R s m args below meth c H locs n k 0 0 (F0 m pc ls (As.reverse ++ .ref b :: rest)) rest (va_Qi (fun r' (_ : Unit) => r' = r) (fun _ t => va_P g.1 vwCl (fl Cs1) t.heap) (va_A (fl Cs) H.size) (Value.ref b :: As).toArray) (va_A (fl Cs) H.size) := by
    rcases hlink with hlink | ⟨host, hlink⟩
    · exact va_runV (As := As) (rest := rest) ⟨hx, hb, hml, hown, hts⟩ (M H.size) (cwV As.length hts (good_cons hlink (good_cons hin (good_cons hsel (good_cons hini (good_cons hcode good_BIG))))) rfl rfl rfl ⟨rfl, hy⟩ hrm) hp rfl rfl hl.1 rfl (lv_room hcat) hd hnk
    · exact va_runVN (As := As) (rest := rest) ⟨hx, hb, hml, hown, hts⟩ (M H.size) ⟨va_cnB As.length hts (good_cons hcode good_BIG) rfl rfl rfl (hK.2.1 _ hlink) (hts _ hini) hy hrm, hts _ hin, hts _ hsel⟩ hp rfl rfl hl.1 rfl (lv_room hcat) hd hnk
  refine va_calli hrun hS (fun q _ h => hFc q h) hFc (fun r1 u t H1 locs1 ht hvm hw1 hB hz1 hk1 hS1 => ?_)
  subst hw1
  have hB : va_P g.1 vwCl (fl Cs1) t.heap := hB
  rw [ht] at hB
  obtain ⟨hP2, hD2⟩ := fjB hP hD isB hC ha hk1 hB
  rw [hw] at hP2 hD2
  exact kk H1 locs1 ls hP2 hD2 hS1 hl

theorem x_cI {l : Launch} {g : Gl} {X : Cx} {own : String} {cc : ByteArray} {nL d n k pc : Nat} {Bs : List va_W} {lv : List (Nat × Value)} {rest : List Value} {index : Nat} {y : MethodName} {cc2 : ByteArray} {nL2 d2 : Nat} {As st : List Value} {Cs : List va_W} {Cs1 : List va_W} (Bs' : List va_W) {r : Int32} {ret : Option FieldType} (C : Ok l g X own cc nL d) (L : MLS own index y cc2 nL2 ret As.length) (M : CtI l g y cc2 nL2 ret d2 As (fl Cs) r (fl Cs1)) (hd : decode cc pc = .ok (.invokestatic index, 3)) (hdd : d2 < d) (isB : List Nat) (hC : isB.map (fun i => Bs[i]?) = Cs.map some) (hnd : va_nd isB = true) (ha : Cs1.map (fun b => b.map Prod.fst) = Cs.map (fun b => b.map Prod.fst)) (hw : setG Bs isB Cs1 = Bs')  (hst : st = As.reverse ++ rest) (hcat : (rest.map fun v => v.category).sum ≤ 8) (hnk : n ≤ cellsX X ∧ k ≤ slotsX X) (kk : Vw g X nL n k (fl Bs') (pc + 3) lv (.int r :: rest)) : Vw g X nL n k (fl Bs) pc lv st := by
  obtain ⟨p, l', e, R, s, m, args, below, meth, c, Q, A⟩ := X
  obtain ⟨rfl, hx, hb, hml, hown, hts, hK, hlk, hA, hfr, hlo⟩ := C
  intro H locs ls hP hD hS hl
  subst hst
  obtain ⟨hlink, hin, hini, hcode, hy, hnl⟩ := L
  have hPc := fl_subP hP hC
  have hDc := fl_subD hD hnd hC
  have hFc := fl_free hD hS hA hC
  have hp : PreS s H (va_Pc As (PreW g (fl Cs) H.size)) As := ⟨PreW.blind, fun U hU hW => ⟨rfl, by rw [hU], by rw [hU]; exact hPc, hK.warm hW, hDc.weaken (fun _ _ _ _ => trivial)⟩⟩
  have hrm : (rmq d2 0 0).frames + 1 ≤ R.frames ∧ 8 + (nL2 + 11) + (rmq d2 0 0).locals ≤ R.locals := by
    show d2 + 1 ≤ R.frames ∧ 8 + (nL2 + 11) + 38 * d2 ≤ R.locals
    omega
  have hrun : va_Run p l' e R s m args below meth c H locs n k 0 0 (F0 m pc ls (As.reverse ++ rest)) rest (va_Qi (fun r' (_ : Unit) => r' = r) (fun _ t => va_P g.1 vwCl (fl Cs1) t.heap) (va_A (fl Cs) H.size) As.toArray) (va_A (fl Cs) H.size) := by
    rcases hlink with hlink | ⟨host, hlink⟩
    · exact va_runS (As := As) (rest := rest) ⟨hx, hb, hml, hown, hts⟩ (M H.size) ⟨callB_of As.length hts (good_cons hcode good_BIG) rfl rfl rfl (hts _ hini) (hts _ hlink) hy hrm, hts _ hin⟩ hp rfl rfl hl.1 rfl (lv_room hcat) hd hnk
    · exact va_runSN (As := As) (rest := rest) ⟨hx, hb, hml, hown, hts⟩ (M H.size) ⟨va_cnB As.length hts (good_cons hcode good_BIG) rfl rfl rfl (hK.2.1 _ hlink) (hts _ hini) hy hrm, hts _ hin, trivial⟩ hp rfl rfl hl.1 rfl (lv_room hcat) hd hnk
  refine va_calli hrun hS (fun q _ h => hFc q h) hFc (fun r1 u t H1 locs1 ht hvm hw1 hB hz1 hk1 hS1 => ?_)
  subst hw1
  have hB : va_P g.1 vwCl (fl Cs1) t.heap := hB
  rw [ht] at hB
  obtain ⟨hP2, hD2⟩ := fjB hP hD isB hC ha hk1 hB
  rw [hw] at hP2 hD2
  exact kk H1 locs1 ls hP2 hD2 hS1 hl

theorem w_pI {l : Launch} {g : Gl} {X : Cx} {own : String} {cc : ByteArray} {nL d n k pc : Nat} {Bs : List va_W} {lv : List (Nat × Value)} {rest : List Value} {index : Nat} {y : MethodName} {cc2 : ByteArray} {nL2 d2 b ci : Nat} {fs : List Value} {As st : List Value} {Cs : List va_W}  {r : Int32} {ret : Option FieldType} (C : Ok l g X own cc nL d) (L : MLV own index y cc2 nL2 ret As.length ci) (M : CtI l g y cc2 nL2 ret d2 (.ref b :: As) (fl Cs) r (fl Cs)) (hd : decode cc pc = .ok (.invokevirtual index, 3)) (hdd : d2 < d) (isB : List Nat) (hC : isB.map (fun i => Bs[i]?) = Cs.map some) (hnd : va_nd isB = true)  (q0 : Nat) (hrec : (fl Bs)[q0]? = some (b, .inr (ci, fs))) (hst : st = As.reverse ++ .ref b :: rest) (hcat : (rest.map fun v => v.category).sum ≤ 8) (hnk : n ≤ cellsX X ∧ k ≤ slotsX X) (kk : Vw g X nL n k (fl Bs) (pc + 3) lv (.int r :: rest)) : Vw g X nL n k (fl Bs) pc lv st := by
  obtain ⟨p, l', e, R, s, m, args, below, meth, c, Q, A⟩ := X
  obtain ⟨rfl, hx, hb, hml, hown, hts, hK, hlk, hA, hfr, hlo⟩ := C
  intro H locs ls hP hD hS hl
  subst hst
  obtain ⟨hlink, hin, hsel, hini, hcode, hy, ⟨Tc, Nc, hcl⟩, hnl⟩ := L
  have hPc := fl_subP hP hC
  have hDc := fl_subD hD hnd hC
  have hFc := fl_free hD hS hA hC
  have hp : PreV s H y.cls b (va_Pc (.ref b :: As) (PreW g (fl Cs) H.size)) As := ⟨PreW.blind, va_recv hK.1 hP hcl hrec, fun U hU hW => ⟨rfl, by rw [hU], by rw [hU]; exact hPc, hK.warm hW, hDc.weaken (fun _ _ _ _ => trivial)⟩⟩
  have hrm : (rmq d2 0 0).frames + 1 ≤ R.frames ∧ 8 + (nL2 + 11) + (rmq d2 0 0).locals ≤ R.locals := by
    show d2 + 1 ≤ R.frames ∧ 8 + (nL2 + 11) + 38 * d2 ≤ R.locals
    omega
  have hrun : va_Run p l' e R s m args below meth c H locs n k 0 0 (F0 m pc ls (As.reverse ++ .ref b :: rest)) rest (va_Qi (fun r' (_ : Unit) => r' = r) (fun _ t => va_P g.1 vwCl (fl Cs) t.heap) (va_A (fl Cs) H.size) (Value.ref b :: As).toArray) (va_A (fl Cs) H.size) := by
    rcases hlink with hlink | ⟨host, hlink⟩
    · exact va_runV (As := As) (rest := rest) ⟨hx, hb, hml, hown, hts⟩ (M H.size) (cwV As.length hts (good_cons hlink (good_cons hin (good_cons hsel (good_cons hini (good_cons hcode good_BIG))))) rfl rfl rfl ⟨rfl, hy⟩ hrm) hp rfl rfl hl.1 rfl (lv_room hcat) hd hnk
    · exact va_runVN (As := As) (rest := rest) ⟨hx, hb, hml, hown, hts⟩ (M H.size) ⟨va_cnB As.length hts (good_cons hcode good_BIG) rfl rfl rfl (hK.2.1 _ hlink) (hts _ hini) hy hrm, hts _ hin, hts _ hsel⟩ hp rfl rfl hl.1 rfl (lv_room hcat) hd hnk
  refine va_calli hrun hS (fun q _ h => hFc q h) hFc (fun r1 u t H1 locs1 ht hvm hw1 hB hz1 hk1 hS1 => ?_)
  subst hw1
  have hB : va_P g.1 vwCl (fl Cs) t.heap := hB
  rw [ht] at hB
  have hP2 := fjBP hP hD isB hC hk1 hB
  exact kk H1 locs1 ls hP2 hD hS1 hl

theorem x_pI {l : Launch} {g : Gl} {X : Cx} {own : String} {cc : ByteArray} {nL d n k pc : Nat} {Bs : List va_W} {lv : List (Nat × Value)} {rest : List Value} {index : Nat} {y : MethodName} {cc2 : ByteArray} {nL2 d2 : Nat} {As st : List Value} {Cs : List va_W}  {r : Int32} {ret : Option FieldType} (C : Ok l g X own cc nL d) (L : MLS own index y cc2 nL2 ret As.length) (M : CtI l g y cc2 nL2 ret d2 As (fl Cs) r (fl Cs)) (hd : decode cc pc = .ok (.invokestatic index, 3)) (hdd : d2 < d) (isB : List Nat) (hC : isB.map (fun i => Bs[i]?) = Cs.map some) (hnd : va_nd isB = true)   (hst : st = As.reverse ++ rest) (hcat : (rest.map fun v => v.category).sum ≤ 8) (hnk : n ≤ cellsX X ∧ k ≤ slotsX X) (kk : Vw g X nL n k (fl Bs) (pc + 3) lv (.int r :: rest)) : Vw g X nL n k (fl Bs) pc lv st := by
  obtain ⟨p, l', e, R, s, m, args, below, meth, c, Q, A⟩ := X
  obtain ⟨rfl, hx, hb, hml, hown, hts, hK, hlk, hA, hfr, hlo⟩ := C
  intro H locs ls hP hD hS hl
  subst hst
  obtain ⟨hlink, hin, hini, hcode, hy, hnl⟩ := L
  have hPc := fl_subP hP hC
  have hDc := fl_subD hD hnd hC
  have hFc := fl_free hD hS hA hC
  have hp : PreS s H (va_Pc As (PreW g (fl Cs) H.size)) As := ⟨PreW.blind, fun U hU hW => ⟨rfl, by rw [hU], by rw [hU]; exact hPc, hK.warm hW, hDc.weaken (fun _ _ _ _ => trivial)⟩⟩
  have hrm : (rmq d2 0 0).frames + 1 ≤ R.frames ∧ 8 + (nL2 + 11) + (rmq d2 0 0).locals ≤ R.locals := by
    show d2 + 1 ≤ R.frames ∧ 8 + (nL2 + 11) + 38 * d2 ≤ R.locals
    omega
  have hrun : va_Run p l' e R s m args below meth c H locs n k 0 0 (F0 m pc ls (As.reverse ++ rest)) rest (va_Qi (fun r' (_ : Unit) => r' = r) (fun _ t => va_P g.1 vwCl (fl Cs) t.heap) (va_A (fl Cs) H.size) As.toArray) (va_A (fl Cs) H.size) := by
    rcases hlink with hlink | ⟨host, hlink⟩
    · exact va_runS (As := As) (rest := rest) ⟨hx, hb, hml, hown, hts⟩ (M H.size) ⟨callB_of As.length hts (good_cons hcode good_BIG) rfl rfl rfl (hts _ hini) (hts _ hlink) hy hrm, hts _ hin⟩ hp rfl rfl hl.1 rfl (lv_room hcat) hd hnk
    · exact va_runSN (As := As) (rest := rest) ⟨hx, hb, hml, hown, hts⟩ (M H.size) ⟨va_cnB As.length hts (good_cons hcode good_BIG) rfl rfl rfl (hK.2.1 _ hlink) (hts _ hini) hy hrm, hts _ hin, trivial⟩ hp rfl rfl hl.1 rfl (lv_room hcat) hd hnk
  refine va_calli hrun hS (fun q _ h => hFc q h) hFc (fun r1 u t H1 locs1 ht hvm hw1 hB hz1 hk1 hS1 => ?_)
  subst hw1
  have hB : va_P g.1 vwCl (fl Cs) t.heap := hB
  rw [ht] at hB
  have hP2 := fjBP hP hD isB hC hk1 hB
  exact kk H1 locs1 ls hP2 hD hS1 hl

theorem w_cL {l : Launch} {g : Gl} {X : Cx} {own : String} {cc : ByteArray} {nL d n k pc : Nat} {Bs : List va_W} {lv : List (Nat × Value)} {rest : List Value} {index : Nat} {y : MethodName} {cc2 : ByteArray} {nL2 d2 b ci : Nat} {fs : List Value} {As st : List Value} {Cs : List va_W} {Cs1 : List va_W} (Bs' : List va_W) {r : Int64} {ret : Option FieldType} (C : Ok l g X own cc nL d) (L : MLV own index y cc2 nL2 ret As.length ci) (M : CtL l g y cc2 nL2 ret d2 (.ref b :: As) (fl Cs) r (fl Cs1)) (hd : decode cc pc = .ok (.invokevirtual index, 3)) (hdd : d2 < d) (isB : List Nat) (hC : isB.map (fun i => Bs[i]?) = Cs.map some) (hnd : va_nd isB = true) (ha : Cs1.map (fun b => b.map Prod.fst) = Cs.map (fun b => b.map Prod.fst)) (hw : setG Bs isB Cs1 = Bs') (q0 : Nat) (hrec : (fl Bs)[q0]? = some (b, .inr (ci, fs))) (hst : st = As.reverse ++ .ref b :: rest) (hcat : (rest.map fun v => v.category).sum ≤ 8) (hnk : n ≤ cellsX X ∧ k ≤ slotsX X) (kk : Vw g X nL n k (fl Bs') (pc + 3) lv (.long r :: rest)) : Vw g X nL n k (fl Bs) pc lv st := by
  obtain ⟨p, l', e, R, s, m, args, below, meth, c, Q, A⟩ := X
  obtain ⟨rfl, hx, hb, hml, hown, hts, hK, hlk, hA, hfr, hlo⟩ := C
  intro H locs ls hP hD hS hl
  subst hst
  obtain ⟨hlink, hin, hsel, hini, hcode, hy, ⟨Tc, Nc, hcl⟩, hnl⟩ := L
  have hPc := fl_subP hP hC
  have hDc := fl_subD hD hnd hC
  have hFc := fl_free hD hS hA hC
  have hp : PreV s H y.cls b (va_Pc (.ref b :: As) (PreW g (fl Cs) H.size)) As := ⟨PreW.blind, va_recv hK.1 hP hcl hrec, fun U hU hW => ⟨rfl, by rw [hU], by rw [hU]; exact hPc, hK.warm hW, hDc.weaken (fun _ _ _ _ => trivial)⟩⟩
  have hrm : (rmq d2 0 0).frames + 1 ≤ R.frames ∧ 8 + (nL2 + 11) + (rmq d2 0 0).locals ≤ R.locals := by
    show d2 + 1 ≤ R.frames ∧ 8 + (nL2 + 11) + 38 * d2 ≤ R.locals
    omega
  have hrun : va_Run p l' e R s m args below meth c H locs n k 0 0 (F0 m pc ls (As.reverse ++ .ref b :: rest)) rest (va_Ql (fun r' (_ : Unit) => r' = r) (fun _ t => va_P g.1 vwCl (fl Cs1) t.heap) (va_A (fl Cs) H.size) (Value.ref b :: As).toArray) (va_A (fl Cs) H.size) := by
    rcases hlink with hlink | ⟨host, hlink⟩
    · exact va_runV (As := As) (rest := rest) ⟨hx, hb, hml, hown, hts⟩ (M H.size) (cwV As.length hts (good_cons hlink (good_cons hin (good_cons hsel (good_cons hini (good_cons hcode good_BIG))))) rfl rfl rfl ⟨rfl, hy⟩ hrm) hp rfl rfl hl.1 rfl (lv_room hcat) hd hnk
    · exact va_runVN (As := As) (rest := rest) ⟨hx, hb, hml, hown, hts⟩ (M H.size) ⟨va_cnB As.length hts (good_cons hcode good_BIG) rfl rfl rfl (hK.2.1 _ hlink) (hts _ hini) hy hrm, hts _ hin, hts _ hsel⟩ hp rfl rfl hl.1 rfl (lv_room hcat) hd hnk
  refine va_calll hrun hS (fun q _ h => hFc q h) hFc (fun r1 u t H1 locs1 ht hvm hw1 hB hz1 hk1 hS1 => ?_)
  subst hw1
  have hB : va_P g.1 vwCl (fl Cs1) t.heap := hB
  rw [ht] at hB
  obtain ⟨hP2, hD2⟩ := fjB hP hD isB hC ha hk1 hB
  rw [hw] at hP2 hD2
  exact kk H1 locs1 ls hP2 hD2 hS1 hl

theorem x_cL {l : Launch} {g : Gl} {X : Cx} {own : String} {cc : ByteArray} {nL d n k pc : Nat} {Bs : List va_W} {lv : List (Nat × Value)} {rest : List Value} {index : Nat} {y : MethodName} {cc2 : ByteArray} {nL2 d2 : Nat} {As st : List Value} {Cs : List va_W} {Cs1 : List va_W} (Bs' : List va_W) {r : Int64} {ret : Option FieldType} (C : Ok l g X own cc nL d) (L : MLS own index y cc2 nL2 ret As.length) (M : CtL l g y cc2 nL2 ret d2 As (fl Cs) r (fl Cs1)) (hd : decode cc pc = .ok (.invokestatic index, 3)) (hdd : d2 < d) (isB : List Nat) (hC : isB.map (fun i => Bs[i]?) = Cs.map some) (hnd : va_nd isB = true) (ha : Cs1.map (fun b => b.map Prod.fst) = Cs.map (fun b => b.map Prod.fst)) (hw : setG Bs isB Cs1 = Bs')  (hst : st = As.reverse ++ rest) (hcat : (rest.map fun v => v.category).sum ≤ 8) (hnk : n ≤ cellsX X ∧ k ≤ slotsX X) (kk : Vw g X nL n k (fl Bs') (pc + 3) lv (.long r :: rest)) : Vw g X nL n k (fl Bs) pc lv st := by
  obtain ⟨p, l', e, R, s, m, args, below, meth, c, Q, A⟩ := X
  obtain ⟨rfl, hx, hb, hml, hown, hts, hK, hlk, hA, hfr, hlo⟩ := C
  intro H locs ls hP hD hS hl
  subst hst
  obtain ⟨hlink, hin, hini, hcode, hy, hnl⟩ := L
  have hPc := fl_subP hP hC
  have hDc := fl_subD hD hnd hC
  have hFc := fl_free hD hS hA hC
  have hp : PreS s H (va_Pc As (PreW g (fl Cs) H.size)) As := ⟨PreW.blind, fun U hU hW => ⟨rfl, by rw [hU], by rw [hU]; exact hPc, hK.warm hW, hDc.weaken (fun _ _ _ _ => trivial)⟩⟩
  have hrm : (rmq d2 0 0).frames + 1 ≤ R.frames ∧ 8 + (nL2 + 11) + (rmq d2 0 0).locals ≤ R.locals := by
    show d2 + 1 ≤ R.frames ∧ 8 + (nL2 + 11) + 38 * d2 ≤ R.locals
    omega
  have hrun : va_Run p l' e R s m args below meth c H locs n k 0 0 (F0 m pc ls (As.reverse ++ rest)) rest (va_Ql (fun r' (_ : Unit) => r' = r) (fun _ t => va_P g.1 vwCl (fl Cs1) t.heap) (va_A (fl Cs) H.size) As.toArray) (va_A (fl Cs) H.size) := by
    rcases hlink with hlink | ⟨host, hlink⟩
    · exact va_runS (As := As) (rest := rest) ⟨hx, hb, hml, hown, hts⟩ (M H.size) ⟨callB_of As.length hts (good_cons hcode good_BIG) rfl rfl rfl (hts _ hini) (hts _ hlink) hy hrm, hts _ hin⟩ hp rfl rfl hl.1 rfl (lv_room hcat) hd hnk
    · exact va_runSN (As := As) (rest := rest) ⟨hx, hb, hml, hown, hts⟩ (M H.size) ⟨va_cnB As.length hts (good_cons hcode good_BIG) rfl rfl rfl (hK.2.1 _ hlink) (hts _ hini) hy hrm, hts _ hin, trivial⟩ hp rfl rfl hl.1 rfl (lv_room hcat) hd hnk
  refine va_calll hrun hS (fun q _ h => hFc q h) hFc (fun r1 u t H1 locs1 ht hvm hw1 hB hz1 hk1 hS1 => ?_)
  subst hw1
  have hB : va_P g.1 vwCl (fl Cs1) t.heap := hB
  rw [ht] at hB
  obtain ⟨hP2, hD2⟩ := fjB hP hD isB hC ha hk1 hB
  rw [hw] at hP2 hD2
  exact kk H1 locs1 ls hP2 hD2 hS1 hl

theorem w_pL {l : Launch} {g : Gl} {X : Cx} {own : String} {cc : ByteArray} {nL d n k pc : Nat} {Bs : List va_W} {lv : List (Nat × Value)} {rest : List Value} {index : Nat} {y : MethodName} {cc2 : ByteArray} {nL2 d2 b ci : Nat} {fs : List Value} {As st : List Value} {Cs : List va_W}  {r : Int64} {ret : Option FieldType} (C : Ok l g X own cc nL d) (L : MLV own index y cc2 nL2 ret As.length ci) (M : CtL l g y cc2 nL2 ret d2 (.ref b :: As) (fl Cs) r (fl Cs)) (hd : decode cc pc = .ok (.invokevirtual index, 3)) (hdd : d2 < d) (isB : List Nat) (hC : isB.map (fun i => Bs[i]?) = Cs.map some) (hnd : va_nd isB = true)  (q0 : Nat) (hrec : (fl Bs)[q0]? = some (b, .inr (ci, fs))) (hst : st = As.reverse ++ .ref b :: rest) (hcat : (rest.map fun v => v.category).sum ≤ 8) (hnk : n ≤ cellsX X ∧ k ≤ slotsX X) (kk : Vw g X nL n k (fl Bs) (pc + 3) lv (.long r :: rest)) : Vw g X nL n k (fl Bs) pc lv st := by
  obtain ⟨p, l', e, R, s, m, args, below, meth, c, Q, A⟩ := X
  obtain ⟨rfl, hx, hb, hml, hown, hts, hK, hlk, hA, hfr, hlo⟩ := C
  intro H locs ls hP hD hS hl
  subst hst
  obtain ⟨hlink, hin, hsel, hini, hcode, hy, ⟨Tc, Nc, hcl⟩, hnl⟩ := L
  have hPc := fl_subP hP hC
  have hDc := fl_subD hD hnd hC
  have hFc := fl_free hD hS hA hC
  have hp : PreV s H y.cls b (va_Pc (.ref b :: As) (PreW g (fl Cs) H.size)) As := ⟨PreW.blind, va_recv hK.1 hP hcl hrec, fun U hU hW => ⟨rfl, by rw [hU], by rw [hU]; exact hPc, hK.warm hW, hDc.weaken (fun _ _ _ _ => trivial)⟩⟩
  have hrm : (rmq d2 0 0).frames + 1 ≤ R.frames ∧ 8 + (nL2 + 11) + (rmq d2 0 0).locals ≤ R.locals := by
    show d2 + 1 ≤ R.frames ∧ 8 + (nL2 + 11) + 38 * d2 ≤ R.locals
    omega
  have hrun : va_Run p l' e R s m args below meth c H locs n k 0 0 (F0 m pc ls (As.reverse ++ .ref b :: rest)) rest (va_Ql (fun r' (_ : Unit) => r' = r) (fun _ t => va_P g.1 vwCl (fl Cs) t.heap) (va_A (fl Cs) H.size) (Value.ref b :: As).toArray) (va_A (fl Cs) H.size) := by
    rcases hlink with hlink | ⟨host, hlink⟩
    · exact va_runV (As := As) (rest := rest) ⟨hx, hb, hml, hown, hts⟩ (M H.size) (cwV As.length hts (good_cons hlink (good_cons hin (good_cons hsel (good_cons hini (good_cons hcode good_BIG))))) rfl rfl rfl ⟨rfl, hy⟩ hrm) hp rfl rfl hl.1 rfl (lv_room hcat) hd hnk
    · exact va_runVN (As := As) (rest := rest) ⟨hx, hb, hml, hown, hts⟩ (M H.size) ⟨va_cnB As.length hts (good_cons hcode good_BIG) rfl rfl rfl (hK.2.1 _ hlink) (hts _ hini) hy hrm, hts _ hin, hts _ hsel⟩ hp rfl rfl hl.1 rfl (lv_room hcat) hd hnk
  refine va_calll hrun hS (fun q _ h => hFc q h) hFc (fun r1 u t H1 locs1 ht hvm hw1 hB hz1 hk1 hS1 => ?_)
  subst hw1
  have hB : va_P g.1 vwCl (fl Cs) t.heap := hB
  rw [ht] at hB
  have hP2 := fjBP hP hD isB hC hk1 hB
  exact kk H1 locs1 ls hP2 hD hS1 hl

theorem x_pL {l : Launch} {g : Gl} {X : Cx} {own : String} {cc : ByteArray} {nL d n k pc : Nat} {Bs : List va_W} {lv : List (Nat × Value)} {rest : List Value} {index : Nat} {y : MethodName} {cc2 : ByteArray} {nL2 d2 : Nat} {As st : List Value} {Cs : List va_W}  {r : Int64} {ret : Option FieldType} (C : Ok l g X own cc nL d) (L : MLS own index y cc2 nL2 ret As.length) (M : CtL l g y cc2 nL2 ret d2 As (fl Cs) r (fl Cs)) (hd : decode cc pc = .ok (.invokestatic index, 3)) (hdd : d2 < d) (isB : List Nat) (hC : isB.map (fun i => Bs[i]?) = Cs.map some) (hnd : va_nd isB = true)   (hst : st = As.reverse ++ rest) (hcat : (rest.map fun v => v.category).sum ≤ 8) (hnk : n ≤ cellsX X ∧ k ≤ slotsX X) (kk : Vw g X nL n k (fl Bs) (pc + 3) lv (.long r :: rest)) : Vw g X nL n k (fl Bs) pc lv st := by
  obtain ⟨p, l', e, R, s, m, args, below, meth, c, Q, A⟩ := X
  obtain ⟨rfl, hx, hb, hml, hown, hts, hK, hlk, hA, hfr, hlo⟩ := C
  intro H locs ls hP hD hS hl
  subst hst
  obtain ⟨hlink, hin, hini, hcode, hy, hnl⟩ := L
  have hPc := fl_subP hP hC
  have hDc := fl_subD hD hnd hC
  have hFc := fl_free hD hS hA hC
  have hp : PreS s H (va_Pc As (PreW g (fl Cs) H.size)) As := ⟨PreW.blind, fun U hU hW => ⟨rfl, by rw [hU], by rw [hU]; exact hPc, hK.warm hW, hDc.weaken (fun _ _ _ _ => trivial)⟩⟩
  have hrm : (rmq d2 0 0).frames + 1 ≤ R.frames ∧ 8 + (nL2 + 11) + (rmq d2 0 0).locals ≤ R.locals := by
    show d2 + 1 ≤ R.frames ∧ 8 + (nL2 + 11) + 38 * d2 ≤ R.locals
    omega
  have hrun : va_Run p l' e R s m args below meth c H locs n k 0 0 (F0 m pc ls (As.reverse ++ rest)) rest (va_Ql (fun r' (_ : Unit) => r' = r) (fun _ t => va_P g.1 vwCl (fl Cs) t.heap) (va_A (fl Cs) H.size) As.toArray) (va_A (fl Cs) H.size) := by
    rcases hlink with hlink | ⟨host, hlink⟩
    · exact va_runS (As := As) (rest := rest) ⟨hx, hb, hml, hown, hts⟩ (M H.size) ⟨callB_of As.length hts (good_cons hcode good_BIG) rfl rfl rfl (hts _ hini) (hts _ hlink) hy hrm, hts _ hin⟩ hp rfl rfl hl.1 rfl (lv_room hcat) hd hnk
    · exact va_runSN (As := As) (rest := rest) ⟨hx, hb, hml, hown, hts⟩ (M H.size) ⟨va_cnB As.length hts (good_cons hcode good_BIG) rfl rfl rfl (hK.2.1 _ hlink) (hts _ hini) hy hrm, hts _ hin, trivial⟩ hp rfl rfl hl.1 rfl (lv_room hcat) hd hnk
  refine va_calll hrun hS (fun q _ h => hFc q h) hFc (fun r1 u t H1 locs1 ht hvm hw1 hB hz1 hk1 hS1 => ?_)
  subst hw1
  have hB : va_P g.1 vwCl (fl Cs) t.heap := hB
  rw [ht] at hB
  have hP2 := fjBP hP hD isB hC hk1 hB
  exact kk H1 locs1 ls hP2 hD hS1 hl

theorem w_cV {l : Launch} {g : Gl} {X : Cx} {own : String} {cc : ByteArray} {nL d n k pc : Nat} {Bs : List va_W} {lv : List (Nat × Value)} {rest : List Value} {index : Nat} {y : MethodName} {cc2 : ByteArray} {nL2 d2 b ci : Nat} {fs : List Value} {As st : List Value} {Cs : List va_W} {Cs1 : List va_W} (Bs' : List va_W)  (C : Ok l g X own cc nL d) (L : MLV own index y cc2 nL2 none As.length ci) (M : CtV l g y cc2 nL2 d2 (.ref b :: As) (fl Cs) (fl Cs1)) (hd : decode cc pc = .ok (.invokevirtual index, 3)) (hdd : d2 < d) (isB : List Nat) (hC : isB.map (fun i => Bs[i]?) = Cs.map some) (hnd : va_nd isB = true) (ha : Cs1.map (fun b => b.map Prod.fst) = Cs.map (fun b => b.map Prod.fst)) (hw : setG Bs isB Cs1 = Bs') (q0 : Nat) (hrec : (fl Bs)[q0]? = some (b, .inr (ci, fs))) (hst : st = As.reverse ++ .ref b :: rest) (hcat : (rest.map fun v => v.category).sum ≤ 8) (hnk : n ≤ cellsX X ∧ k ≤ slotsX X) (kk : Vw g X nL n k (fl Bs') (pc + 3) lv rest) : Vw g X nL n k (fl Bs) pc lv st := by
  obtain ⟨p, l', e, R, s, m, args, below, meth, c, Q, A⟩ := X
  obtain ⟨rfl, hx, hb, hml, hown, hts, hK, hlk, hA, hfr, hlo⟩ := C
  intro H locs ls hP hD hS hl
  subst hst
  obtain ⟨hlink, hin, hsel, hini, hcode, hy, ⟨Tc, Nc, hcl⟩, hnl⟩ := L
  have hPc := fl_subP hP hC
  have hDc := fl_subD hD hnd hC
  have hFc := fl_free hD hS hA hC
  have hp : PreV s H y.cls b (va_Pc (.ref b :: As) (PreW g (fl Cs) H.size)) As := ⟨PreW.blind, va_recv hK.1 hP hcl hrec, fun U hU hW => ⟨rfl, by rw [hU], by rw [hU]; exact hPc, hK.warm hW, hDc.weaken (fun _ _ _ _ => trivial)⟩⟩
  have hrm : (rmq d2 0 0).frames + 1 ≤ R.frames ∧ 8 + (nL2 + 11) + (rmq d2 0 0).locals ≤ R.locals := by
    show d2 + 1 ≤ R.frames ∧ 8 + (nL2 + 11) + 38 * d2 ≤ R.locals
    omega
  have hrun : va_Run p l' e R s m args below meth c H locs n k 0 0 (F0 m pc ls (As.reverse ++ .ref b :: rest)) rest (va_Qv (fun (_ : Unit) => True) (fun _ t => va_P g.1 vwCl (fl Cs1) t.heap) (va_A (fl Cs) H.size) (Value.ref b :: As).toArray) (va_A (fl Cs) H.size) := by
    rcases hlink with hlink | ⟨host, hlink⟩
    · exact va_runV (As := As) (rest := rest) ⟨hx, hb, hml, hown, hts⟩ (M H.size) (cwV As.length hts (good_cons hlink (good_cons hin (good_cons hsel (good_cons hini (good_cons hcode good_BIG))))) rfl rfl rfl ⟨rfl, hy⟩ hrm) hp rfl rfl hl.1 rfl (lv_room hcat) hd hnk
    · exact va_runVN (As := As) (rest := rest) ⟨hx, hb, hml, hown, hts⟩ (M H.size) ⟨va_cnB As.length hts (good_cons hcode good_BIG) rfl rfl rfl (hK.2.1 _ hlink) (hts _ hini) hy hrm, hts _ hin, hts _ hsel⟩ hp rfl rfl hl.1 rfl (lv_room hcat) hd hnk
  refine va_callv hrun hS (fun q _ h => hFc q h) hFc (fun u t H1 locs1 ht hvm hw1 hB hz1 hk1 hS1 => ?_)
  skip
  have hB : va_P g.1 vwCl (fl Cs1) t.heap := hB
  rw [ht] at hB
  obtain ⟨hP2, hD2⟩ := fjB hP hD isB hC ha hk1 hB
  rw [hw] at hP2 hD2
  exact kk H1 locs1 ls hP2 hD2 hS1 hl

theorem x_cV {l : Launch} {g : Gl} {X : Cx} {own : String} {cc : ByteArray} {nL d n k pc : Nat} {Bs : List va_W} {lv : List (Nat × Value)} {rest : List Value} {index : Nat} {y : MethodName} {cc2 : ByteArray} {nL2 d2 : Nat} {As st : List Value} {Cs : List va_W} {Cs1 : List va_W} (Bs' : List va_W)  (C : Ok l g X own cc nL d) (L : MLS own index y cc2 nL2 none As.length) (M : CtV l g y cc2 nL2 d2 As (fl Cs) (fl Cs1)) (hd : decode cc pc = .ok (.invokestatic index, 3)) (hdd : d2 < d) (isB : List Nat) (hC : isB.map (fun i => Bs[i]?) = Cs.map some) (hnd : va_nd isB = true) (ha : Cs1.map (fun b => b.map Prod.fst) = Cs.map (fun b => b.map Prod.fst)) (hw : setG Bs isB Cs1 = Bs')  (hst : st = As.reverse ++ rest) (hcat : (rest.map fun v => v.category).sum ≤ 8) (hnk : n ≤ cellsX X ∧ k ≤ slotsX X) (kk : Vw g X nL n k (fl Bs') (pc + 3) lv rest) : Vw g X nL n k (fl Bs) pc lv st := by
  obtain ⟨p, l', e, R, s, m, args, below, meth, c, Q, A⟩ := X
  obtain ⟨rfl, hx, hb, hml, hown, hts, hK, hlk, hA, hfr, hlo⟩ := C
  intro H locs ls hP hD hS hl
  subst hst
  obtain ⟨hlink, hin, hini, hcode, hy, hnl⟩ := L
  have hPc := fl_subP hP hC
  have hDc := fl_subD hD hnd hC
  have hFc := fl_free hD hS hA hC
  have hp : PreS s H (va_Pc As (PreW g (fl Cs) H.size)) As := ⟨PreW.blind, fun U hU hW => ⟨rfl, by rw [hU], by rw [hU]; exact hPc, hK.warm hW, hDc.weaken (fun _ _ _ _ => trivial)⟩⟩
  have hrm : (rmq d2 0 0).frames + 1 ≤ R.frames ∧ 8 + (nL2 + 11) + (rmq d2 0 0).locals ≤ R.locals := by
    show d2 + 1 ≤ R.frames ∧ 8 + (nL2 + 11) + 38 * d2 ≤ R.locals
    omega
  have hrun : va_Run p l' e R s m args below meth c H locs n k 0 0 (F0 m pc ls (As.reverse ++ rest)) rest (va_Qv (fun (_ : Unit) => True) (fun _ t => va_P g.1 vwCl (fl Cs1) t.heap) (va_A (fl Cs) H.size) As.toArray) (va_A (fl Cs) H.size) := by
    rcases hlink with hlink | ⟨host, hlink⟩
    · exact va_runS (As := As) (rest := rest) ⟨hx, hb, hml, hown, hts⟩ (M H.size) ⟨callB_of As.length hts (good_cons hcode good_BIG) rfl rfl rfl (hts _ hini) (hts _ hlink) hy hrm, hts _ hin⟩ hp rfl rfl hl.1 rfl (lv_room hcat) hd hnk
    · exact va_runSN (As := As) (rest := rest) ⟨hx, hb, hml, hown, hts⟩ (M H.size) ⟨va_cnB As.length hts (good_cons hcode good_BIG) rfl rfl rfl (hK.2.1 _ hlink) (hts _ hini) hy hrm, hts _ hin, trivial⟩ hp rfl rfl hl.1 rfl (lv_room hcat) hd hnk
  refine va_callv hrun hS (fun q _ h => hFc q h) hFc (fun u t H1 locs1 ht hvm hw1 hB hz1 hk1 hS1 => ?_)
  skip
  have hB : va_P g.1 vwCl (fl Cs1) t.heap := hB
  rw [ht] at hB
  obtain ⟨hP2, hD2⟩ := fjB hP hD isB hC ha hk1 hB
  rw [hw] at hP2 hD2
  exact kk H1 locs1 ls hP2 hD2 hS1 hl

theorem w_pV {l : Launch} {g : Gl} {X : Cx} {own : String} {cc : ByteArray} {nL d n k pc : Nat} {Bs : List va_W} {lv : List (Nat × Value)} {rest : List Value} {index : Nat} {y : MethodName} {cc2 : ByteArray} {nL2 d2 b ci : Nat} {fs : List Value} {As st : List Value} {Cs : List va_W}   (C : Ok l g X own cc nL d) (L : MLV own index y cc2 nL2 none As.length ci) (M : CtV l g y cc2 nL2 d2 (.ref b :: As) (fl Cs) (fl Cs)) (hd : decode cc pc = .ok (.invokevirtual index, 3)) (hdd : d2 < d) (isB : List Nat) (hC : isB.map (fun i => Bs[i]?) = Cs.map some) (hnd : va_nd isB = true)  (q0 : Nat) (hrec : (fl Bs)[q0]? = some (b, .inr (ci, fs))) (hst : st = As.reverse ++ .ref b :: rest) (hcat : (rest.map fun v => v.category).sum ≤ 8) (hnk : n ≤ cellsX X ∧ k ≤ slotsX X) (kk : Vw g X nL n k (fl Bs) (pc + 3) lv rest) : Vw g X nL n k (fl Bs) pc lv st := by
  obtain ⟨p, l', e, R, s, m, args, below, meth, c, Q, A⟩ := X
  obtain ⟨rfl, hx, hb, hml, hown, hts, hK, hlk, hA, hfr, hlo⟩ := C
  intro H locs ls hP hD hS hl
  subst hst
  obtain ⟨hlink, hin, hsel, hini, hcode, hy, ⟨Tc, Nc, hcl⟩, hnl⟩ := L
  have hPc := fl_subP hP hC
  have hDc := fl_subD hD hnd hC
  have hFc := fl_free hD hS hA hC
  have hp : PreV s H y.cls b (va_Pc (.ref b :: As) (PreW g (fl Cs) H.size)) As := ⟨PreW.blind, va_recv hK.1 hP hcl hrec, fun U hU hW => ⟨rfl, by rw [hU], by rw [hU]; exact hPc, hK.warm hW, hDc.weaken (fun _ _ _ _ => trivial)⟩⟩
  have hrm : (rmq d2 0 0).frames + 1 ≤ R.frames ∧ 8 + (nL2 + 11) + (rmq d2 0 0).locals ≤ R.locals := by
    show d2 + 1 ≤ R.frames ∧ 8 + (nL2 + 11) + 38 * d2 ≤ R.locals
    omega
  have hrun : va_Run p l' e R s m args below meth c H locs n k 0 0 (F0 m pc ls (As.reverse ++ .ref b :: rest)) rest (va_Qv (fun (_ : Unit) => True) (fun _ t => va_P g.1 vwCl (fl Cs) t.heap) (va_A (fl Cs) H.size) (Value.ref b :: As).toArray) (va_A (fl Cs) H.size) := by
    rcases hlink with hlink | ⟨host, hlink⟩
    · exact va_runV (As := As) (rest := rest) ⟨hx, hb, hml, hown, hts⟩ (M H.size) (cwV As.length hts (good_cons hlink (good_cons hin (good_cons hsel (good_cons hini (good_cons hcode good_BIG))))) rfl rfl rfl ⟨rfl, hy⟩ hrm) hp rfl rfl hl.1 rfl (lv_room hcat) hd hnk
    · exact va_runVN (As := As) (rest := rest) ⟨hx, hb, hml, hown, hts⟩ (M H.size) ⟨va_cnB As.length hts (good_cons hcode good_BIG) rfl rfl rfl (hK.2.1 _ hlink) (hts _ hini) hy hrm, hts _ hin, hts _ hsel⟩ hp rfl rfl hl.1 rfl (lv_room hcat) hd hnk
  refine va_callv hrun hS (fun q _ h => hFc q h) hFc (fun u t H1 locs1 ht hvm hw1 hB hz1 hk1 hS1 => ?_)
  skip
  have hB : va_P g.1 vwCl (fl Cs) t.heap := hB
  rw [ht] at hB
  have hP2 := fjBP hP hD isB hC hk1 hB
  exact kk H1 locs1 ls hP2 hD hS1 hl

theorem x_pV {l : Launch} {g : Gl} {X : Cx} {own : String} {cc : ByteArray} {nL d n k pc : Nat} {Bs : List va_W} {lv : List (Nat × Value)} {rest : List Value} {index : Nat} {y : MethodName} {cc2 : ByteArray} {nL2 d2 : Nat} {As st : List Value} {Cs : List va_W}   (C : Ok l g X own cc nL d) (L : MLS own index y cc2 nL2 none As.length) (M : CtV l g y cc2 nL2 d2 As (fl Cs) (fl Cs)) (hd : decode cc pc = .ok (.invokestatic index, 3)) (hdd : d2 < d) (isB : List Nat) (hC : isB.map (fun i => Bs[i]?) = Cs.map some) (hnd : va_nd isB = true)   (hst : st = As.reverse ++ rest) (hcat : (rest.map fun v => v.category).sum ≤ 8) (hnk : n ≤ cellsX X ∧ k ≤ slotsX X) (kk : Vw g X nL n k (fl Bs) (pc + 3) lv rest) : Vw g X nL n k (fl Bs) pc lv st := by
  obtain ⟨p, l', e, R, s, m, args, below, meth, c, Q, A⟩ := X
  obtain ⟨rfl, hx, hb, hml, hown, hts, hK, hlk, hA, hfr, hlo⟩ := C
  intro H locs ls hP hD hS hl
  subst hst
  obtain ⟨hlink, hin, hini, hcode, hy, hnl⟩ := L
  have hPc := fl_subP hP hC
  have hDc := fl_subD hD hnd hC
  have hFc := fl_free hD hS hA hC
  have hp : PreS s H (va_Pc As (PreW g (fl Cs) H.size)) As := ⟨PreW.blind, fun U hU hW => ⟨rfl, by rw [hU], by rw [hU]; exact hPc, hK.warm hW, hDc.weaken (fun _ _ _ _ => trivial)⟩⟩
  have hrm : (rmq d2 0 0).frames + 1 ≤ R.frames ∧ 8 + (nL2 + 11) + (rmq d2 0 0).locals ≤ R.locals := by
    show d2 + 1 ≤ R.frames ∧ 8 + (nL2 + 11) + 38 * d2 ≤ R.locals
    omega
  have hrun : va_Run p l' e R s m args below meth c H locs n k 0 0 (F0 m pc ls (As.reverse ++ rest)) rest (va_Qv (fun (_ : Unit) => True) (fun _ t => va_P g.1 vwCl (fl Cs) t.heap) (va_A (fl Cs) H.size) As.toArray) (va_A (fl Cs) H.size) := by
    rcases hlink with hlink | ⟨host, hlink⟩
    · exact va_runS (As := As) (rest := rest) ⟨hx, hb, hml, hown, hts⟩ (M H.size) ⟨callB_of As.length hts (good_cons hcode good_BIG) rfl rfl rfl (hts _ hini) (hts _ hlink) hy hrm, hts _ hin⟩ hp rfl rfl hl.1 rfl (lv_room hcat) hd hnk
    · exact va_runSN (As := As) (rest := rest) ⟨hx, hb, hml, hown, hts⟩ (M H.size) ⟨va_cnB As.length hts (good_cons hcode good_BIG) rfl rfl rfl (hK.2.1 _ hlink) (hts _ hini) hy hrm, hts _ hin, trivial⟩ hp rfl rfl hl.1 rfl (lv_room hcat) hd hnk
  refine va_callv hrun hS (fun q _ h => hFc q h) hFc (fun u t H1 locs1 ht hvm hw1 hB hz1 hk1 hS1 => ?_)
  skip
  have hB : va_P g.1 vwCl (fl Cs) t.heap := hB
  rw [ht] at hB
  have hP2 := fjBP hP hD isB hC hk1 hB
  exact kk H1 locs1 ls hP2 hD hS1 hl

