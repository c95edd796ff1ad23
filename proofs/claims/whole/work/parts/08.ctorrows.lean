def isInit (X : Cx) : Prop := X.2.2.2.2.2.2.2.2.1.name = "<init>"
theorem fl_one (Bs : List va_W) (c : Nat × va_E) : fl (Bs ++ [[c]]) = fl Bs ++ [c] := by
  unfold fl
  simp
theorem n_obj {l : Launch} {g : Gl} {X : Cx} {own : String} {cc : ByteArray} {nL d n k pc : Nat} {Bs : List va_W} {lv : List (Nat × Value)} {rest : List Value} {index a : Nat} (C : Ok l g X own cc nL d) (hlink : Cond.methodLink own index objectInit ∈ BIG) (hd : decode cc pc = .ok (.invokespecial index, 3)) (hd1 : 1 ≤ d) (hcat : (rest.map fun v => v.category).sum ≤ 8) (kk : Vw g X nL n k (fl Bs) (pc + 3) lv rest) : Vw g X nL n k (fl Bs) pc lv (.ref a :: rest) := by
  obtain ⟨p, l', e, R, s, m, args, below, meth, c, Q, A⟩ := X
  obtain ⟨rfl, hx, hb, hml, hown, hts, hK, hlk, hA, hfr, hlo⟩ := C
  intro H locs ls hP hD hS hl
  have hf1 : 1 ≤ R.frames := by omega
  have hf2 : (rest.map fun v => v.category).sum + 12 ≤ R.locals := by omega
  refine W.objInit hx hb hown (hts _ hlink) (hts _ oin) (hts _ oco) rfl (by rw [hml]; exact hl.1) rfl hd hf1 (by show 2 * 0 + _ + 12 ≤ _; omega) ?_
  exact kk H locs ls hP hD hS hl
theorem n_new {l : Launch} {g : Gl} {X : Cx} {own : String} {cc : ByteArray} {nL d n k pc : Nat} {Bs : List va_W} {lv : List (Nat × Value)} {rest : List Value} {index ci N : Nat} {Cn : String} {T : u_T} (fs : List Value) (ty : Nat → FieldType) (C : Ok l g X own cc nL d) (hcl : Cond.classLink own index Cn ∈ BIG) (hinst : Cond.instantiable Cn N ∈ BIG) (hini : Cond.initialized Cn ∈ BIG) (hin : ∀ w ∈ u_ws Cn T N, w ∈ BIG) (hty : ∀ k, k < N → parseFieldDescriptor (T k).2.2.1 = some (ty k)) (hc : vwCl[ci]? = some (Cn, T, N)) (hfs : ∀ j, j < N → defaultValue (ty j) = vp_V fs j) (hcells : n + 1 ≤ cellsX X) (hslots : k + N ≤ slotsX X) (hd : decode cc pc = .ok (.new index, 3)) (kk : ∀ q : Nat, Vw g X nL (n + 1) (k + N) (fl (Bs ++ [[(q, .inr (ci, fs))]])) (pc + 3) lv (.ref q :: rest)) : Vw g X nL n k (fl Bs) pc lv rest := by
  obtain ⟨p, l', e, R, s, m, args, below, meth, c, Q, A⟩ := X
  obtain ⟨rfl, hx, hb, hml, hown, hts, hK, hlk, hA, hfr, hlo⟩ := C
  intro H locs ls hP hD hS hl
  refine va_new hx hb hts hin ty hty hown (hts _ hcl) (hts _ hinst) (hts _ hini) hK.1 hP hD hS hA hc hfs hcells hslots hd (fun q H1 hP1 hD1 hS1 => ?_)
  rw [← fl_one] at hP1 hD1
  exact kk q H1 locs ls hP1 hD1 hS1 hl

theorem n_arrI {l : Launch} {g : Gl} {X : Cx} {own : String} {cc : ByteArray} {nL d n k pc : Nat} {Bs : List va_W} {lv : List (Nat × Value)} {rest : List Value} {x : Int32} (N : Nat) (C : Ok l g X own cc nL d) (hd : decode cc pc = .ok (.newarray .int, 2)) (hxN : x = nI N) (hN : N ≤ 1000) (hcells : n + 1 ≤ cellsX X) (hslots : k + N ≤ slotsX X) (kk : ∀ q : Nat, Vw g X nL (n + 1) (k + N) (fl (Bs ++ [[(q, .inl (g.2.1, N, .inl (fun _ => 0)))]])) (pc + 2) lv (.ref q :: rest)) : Vw g X nL n k (fl Bs) pc lv (.int x :: rest) := by
  obtain ⟨p, l', e, R, s, m, args, below, meth, c, Q, A⟩ := X
  obtain ⟨rfl, hx, hb, hml, hown, hts, hK, hlk, hA, hfr, hlo⟩ := C
  intro H locs ls hP hD hS hl
  subst hxN
  have hb8 : componentBytes FieldType.int ≤ 8 := by decide
  have hbts : N * componentBytes FieldType.int ≤ 536870912 := Nat.le_trans (Nat.mul_le_mul hN hb8) (by decide)
  refine va_newa (atype := .int) (ty := .int) (N' := N) (a0 := (N, .inl (fun _ => 0))) hx hb (hts _ ay_int) rfl hK.1 hP hD hS hA (fun cA => rfl) (nI_pos (by omega)) (nI_clamp (by omega)) hbts hcells hslots hd (fun q cA H1 hK1 hP1 hD1 hS1 => ?_)
  have e1 := (hK1.2 4 _ rfl).2
  have e2 := (hK.1.2 0 _ rfl).2
  have e3 : cA = g.2.1 := Option.some.inj (e1.symm.trans e2)
  subst e3
  rw [← fl_one] at hP1 hD1
  exact kk q H1 locs ls hP1 hD1 hS1 hl

theorem n_arrB {l : Launch} {g : Gl} {X : Cx} {own : String} {cc : ByteArray} {nL d n k pc : Nat} {Bs : List va_W} {lv : List (Nat × Value)} {rest : List Value} {x : Int32} (N : Nat) (C : Ok l g X own cc nL d) (hd : decode cc pc = .ok (.newarray .byte, 2)) (hxN : x = nI N) (hN : N ≤ 1000) (hcells : n + 1 ≤ cellsX X) (hslots : k + N ≤ slotsX X) (kk : ∀ q : Nat, Vw g X nL (n + 1) (k + N) (fl (Bs ++ [[(q, .inl (g.2.2.1, N, .inl (fun _ => 0)))]])) (pc + 2) lv (.ref q :: rest)) : Vw g X nL n k (fl Bs) pc lv (.int x :: rest) := by
  obtain ⟨p, l', e, R, s, m, args, below, meth, c, Q, A⟩ := X
  obtain ⟨rfl, hx, hb, hml, hown, hts, hK, hlk, hA, hfr, hlo⟩ := C
  intro H locs ls hP hD hS hl
  subst hxN
  have hb8 : componentBytes FieldType.byte ≤ 8 := by decide
  have hbts : N * componentBytes FieldType.byte ≤ 536870912 := Nat.le_trans (Nat.mul_le_mul hN hb8) (by decide)
  refine va_newa (atype := .byte) (ty := .byte) (N' := N) (a0 := (N, .inl (fun _ => 0))) hx hb (hts _ ay_byte) rfl hK.1 hP hD hS hA (fun cA => rfl) (nI_pos (by omega)) (nI_clamp (by omega)) hbts hcells hslots hd (fun q cA H1 hK1 hP1 hD1 hS1 => ?_)
  have e1 := (hK1.2 4 _ rfl).2
  have e2 := (hK.1.2 1 _ rfl).2
  have e3 : cA = g.2.2.1 := Option.some.inj (e1.symm.trans e2)
  subst e3
  rw [← fl_one] at hP1 hD1
  exact kk q H1 locs ls hP1 hD1 hS1 hl

theorem n_arrZ {l : Launch} {g : Gl} {X : Cx} {own : String} {cc : ByteArray} {nL d n k pc : Nat} {Bs : List va_W} {lv : List (Nat × Value)} {rest : List Value} {x : Int32} (N : Nat) (C : Ok l g X own cc nL d) (hd : decode cc pc = .ok (.newarray .boolean, 2)) (hxN : x = nI N) (hN : N ≤ 1000) (hcells : n + 1 ≤ cellsX X) (hslots : k + N ≤ slotsX X) (kk : ∀ q : Nat, Vw g X nL (n + 1) (k + N) (fl (Bs ++ [[(q, .inl (g.2.2.2.1, N, .inl (fun _ => 0)))]])) (pc + 2) lv (.ref q :: rest)) : Vw g X nL n k (fl Bs) pc lv (.int x :: rest) := by
  obtain ⟨p, l', e, R, s, m, args, below, meth, c, Q, A⟩ := X
  obtain ⟨rfl, hx, hb, hml, hown, hts, hK, hlk, hA, hfr, hlo⟩ := C
  intro H locs ls hP hD hS hl
  subst hxN
  have hb8 : componentBytes FieldType.boolean ≤ 8 := by decide
  have hbts : N * componentBytes FieldType.boolean ≤ 536870912 := Nat.le_trans (Nat.mul_le_mul hN hb8) (by decide)
  refine va_newa (atype := .boolean) (ty := .boolean) (N' := N) (a0 := (N, .inl (fun _ => 0))) hx hb (hts _ ay_boolean) rfl hK.1 hP hD hS hA (fun cA => rfl) (nI_pos (by omega)) (nI_clamp (by omega)) hbts hcells hslots hd (fun q cA H1 hK1 hP1 hD1 hS1 => ?_)
  have e1 := (hK1.2 4 _ rfl).2
  have e2 := (hK.1.2 2 _ rfl).2
  have e3 : cA = g.2.2.2.1 := Option.some.inj (e1.symm.trans e2)
  subst e3
  rw [← fl_one] at hP1 hD1
  exact kk q H1 locs ls hP1 hD1 hS1 hl

theorem n_arrM {l : Launch} {g : Gl} {X : Cx} {own : String} {cc : ByteArray} {nL d n k pc : Nat} {Bs : List va_W} {lv : List (Nat × Value)} {rest : List Value} {x : Int32} {index : Nat} (N : Nat) (C : Ok l g X own cc nL d) (hcl : Cond.classLink own index "SpinTops$Moment" ∈ BIG) (hd : decode cc pc = .ok (.anewarray index, 3)) (hxN : x = nI N) (hN : N ≤ 1000) (hcells : n + 1 ≤ cellsX X) (hslots : k + N ≤ slotsX X) (kk : ∀ q : Nat, Vw g X nL (n + 1) (k + N) (fl (Bs ++ [[(q, .inl (g.2.2.2.2, N, .inr (.inr (.inr (.inr (fun _ => none))))))]])) (pc + 3) lv (.ref q :: rest)) : Vw g X nL n k (fl Bs) pc lv (.int x :: rest) := by
  obtain ⟨p, l', e, R, s, m, args, below, meth, c, Q, A⟩ := X
  obtain ⟨rfl, hx, hb, hml, hown, hts, hK, hlk, hA, hfr, hlo⟩ := C
  intro H locs ls hP hD hS hl
  subst hxN
  refine va_newq (N' := N) hx hb hown (hts _ hcl) hK.2.2 hK.1 hP hD hS hA (nI_pos (by omega)) (nI_clamp (by omega)) (by omega) hcells hslots hd (fun q cA H1 hK1 hP1 hD1 hS1 => ?_)
  obtain ⟨_, _, _, _, _, e1⟩ := (hK1.2 4 _ rfl).2
  obtain ⟨_, _, _, _, _, e2⟩ := (hK.1.2 3 _ rfl).2
  have e3 : cA = g.2.2.2.2 := Option.some.inj (e1.symm.trans e2)
  subst e3
  rw [← fl_one] at hP1 hD1
  exact kk q H1 locs ls hP1 hD1 hS1 hl
theorem n_putF {l : Launch} {g : Gl} {X : Cx} {own : String} {cc : ByteArray} {nL d n k pc : Nat} {Bs : List va_W} {lv : List (Nat × Value)} {rest : List Value} {index ci kf a : Nat} {fs : List Value} {v : Value} {ty : FieldType} (Bs' : List va_W) (C : Ok l g X own cc nL d) (hI : isInit X) (F : FF own index ci kf ty) (hd : decode cc pc = .ok (.putfield index, 3)) (q0 : Nat) (he : (fl Bs)[q0]? = some (a, .inr (ci, fs))) (hl' : kf < fs.length) (hn : narrow ty v = v) (hfit : fits ty v = true) (hw : (fl Bs).set q0 (a, .inr (ci, fs.set kf v)) = fl Bs') (kk : Vw g X nL n k (fl Bs') (pc + 3) lv rest) : Vw g X nL n k (fl Bs) pc lv (v :: .ref a :: rest) := by
  obtain ⟨p, l', e, R, s, m, args, below, meth, c, Q, A⟩ := X
  obtain ⟨rfl, hx, hb, hml, hown, hts, hK, hlk, hA, hfr, hlo⟩ := C
  intro H locs ls hP hD hS hl
  obtain ⟨T, N, hc, hk, hin, hC, hlink, hfin, hdty, ⟨ty0, hty⟩, hnm⟩ := F
  refine va_putF hx hb hts hin ty0 hty hnm hown hK.1 hP hD hS q0 he hc kf hk (hts _ hlink) (fun x h => by rw [hC] at h; exact h) hfin hI hC hdty hn hfit hl' hd (fun H1 locs1 hP1 hD1 hS1 => ?_)
  rw [hw] at hP1 hD1
  exact kk H1 locs1 ls hP1 hD1 hS1 hl
theorem n_aast {l : Launch} {g : Gl} {X : Cx} {own : String} {cc : ByteArray} {nL d n k pc : Nat} {Bs : List va_W} {lv : List (Nat × Value)} {rest : List Value} {a v N ci : Nat} {f : Nat → Option Nat} {x : Int32} {vs : List Value} {T : u_T} {M : Nat} (i : Nat) (Bs' : List va_W) (C : Ok l g X own cc nL d) (hd : decode cc pc = .ok (.aastore, 1)) (q0 qk : Nat) (he : (fl Bs)[q0]? = some (a, .inl (g.2.2.2.2, N, .inr (.inr (.inr (.inr f)))))) (hv : (fl Bs)[qk]? = some (v, .inr (ci, vs))) (hc : vwCl[ci]? = some ("SpinTops$Moment", T, M)) (hxi : x = nI i) (hi : i < N) (hN : N < 2 ^ 31) (hw : (fl Bs).set q0 (a, .inl (g.2.2.2.2, N, .inr (.inr (.inr (.inr (va_up f i (some v))))))) = fl Bs') (kk : Vw g X nL n k (fl Bs') (pc + 1) lv rest) : Vw g X nL n k (fl Bs) pc lv (.ref v :: .int x :: .ref a :: rest) := by
  obtain ⟨p, l', e, R, s, m, args, below, meth, c, Q, A⟩ := X
  obtain ⟨rfl, hx, hb, hml, hown, hts, hK, hlk, hA, hfr, hlo⟩ := C
  intro H locs ls hP hD hS hl
  subst hxi
  refine va_astq hx hb hK.1 hP hD hS q0 3 qk ci he rfl hv hc (vp_in_nI hi hN) hd (fun H1 locs1 hP1 hD1 hS1 => ?_)
  rw [nI_clamp (Nat.lt_trans hi hN), hw] at hP1 hD1
  exact kk H1 locs1 ls hP1 hD1 hS1 hl
def CtN {S : Type} (l : Launch) (g : Gl) (y : MethodName) (cc : ByteArray) (nL d mc ms : Nat) (av : List Value) (Cs : List va_W) (Ds : S → List va_W) : Prop :=
  ∀ sz : Nat, Met l y (.code y cc nL none :: BIG) (rmq d mc ms) (va_Pc av (PreW g (fl Cs) sz)) (va_Qv (fun (_ : S) => True) (fun u t => va_P g.1 vwCl (fl (Ds u)) t.heap ∧ va_D (va_A (fl Cs) sz) (fl (Ds u))) (va_A (fl Cs) sz)) mc ms (va_A (fl Cs) sz)
def RetN {S : Type} (g : Gl) (X : Cx) (cc : ByteArray) (nL n k : Nat) (Ds : S → List va_W) : Prop := ∀ (u : S) (pc : Nat) (lv : List (Nat × Value)), decode cc pc = .ok (.return_, 1) → Vw g X nL n k (fl (Ds u)) pc lv []
theorem mkN {S : Type} {l : Launch} {g : Gl} {y : MethodName} {cc : ByteArray} {nL d mc ms : Nat} {av : List Value} {Cs : List va_W} {Ds : S → List va_W} (lv0 : List (Nat × Value)) (hy : plainName y.cls = true) (hy2 : y.name = "<init>") (hlen : (lg_sl av).length ≤ nL) (hlv : lv_args 0 av = lv0) (body : ∀ X : Cx, Ok l g X y.cls cc nL d → isInit X → (cellsX X = mc ∧ slotsX X = ms) → RetN g X cc nL mc ms Ds → Vw g X nL 0 0 (fl Cs) 0 lv0 []) : CtN l g y cc nL d mc ms av Cs Ds := by
  intro sz
  refine Met.ofW (cc := cc) (maxL := nL) (ret := none) hy rfl ?_
  intro p e s m args below meth c s₁ B hml hv
  obtain ⟨rfl, hsz, hP, hK, hD0⟩ := hv
  have hts := atoms_spec (ws := .code y cc nL none :: BIG) B.pre
  have hown := findClass_of_methodNamed B.named
  have hin : meth.name = "<init>" := (name_of_methodNamed B.named B.method).1.trans hy2
  subst hsz
  have hD := hD0.self (sz := s.heap.size)
  have hA : ∀ q : Nat, s.heap.size ≤ q → va_A (fl Cs) s.heap.size q := fun q h => Or.inr h
  have hS : va_S (va_A (fl Cs) s.heap.size) s.heap s.heap [] := va_S.rf
  have hl := lv_entry av (n := nL) hlen
  rw [lg_entry_eq]
  rw [hlv] at hl
  refine body (p, l, e, rmq d mc ms, s, m, av.toArray, below, meth, c, MQ below (va_Qv (fun (_ : S) => True) (fun u t => va_P g.1 vwCl (fl (Ds u)) t.heap ∧ va_D (va_A (fl Cs) s.heap.size) (fl (Ds u))) (va_A (fl Cs) s.heap.size)) av.toArray s mc ms (va_A (fl Cs) s.heap.size), va_A (fl Cs) s.heap.size) ⟨rfl, B.exec, B.bytes, hml, hown, fun w hw => hts w (List.mem_cons_of_mem _ hw), hK, B.notSynchronized, hA, Nat.le_refl _, Nat.le_refl _⟩ hin ⟨rfl, rfl⟩ ?_ s.heap [] _ hP hD hS hl
  intro u pc lv hd H locs ls hP hD hS hl
  exact W.vret B.exec B.bytes B.returns (fun t ht hW => ⟨⟨u, rfl, trivial, by rw [ht]; exact hP, hD⟩, hS.F ht⟩) hS.2.2 hd B.notSynchronized
theorem n_init {S : Type} {l : Launch} {g : Gl} {X : Cx} {own : String} {cc : ByteArray} {nL d n k pc : Nat} {Bs : List va_W} {lv : List (Nat × Value)} {rest : List Value} {index : Nat} {y : MethodName} {cc2 : ByteArray} {nL2 d2 b mc ms : Nat} {As st : List Value} {Cs Rs : List va_W} {Ds : S → List va_W} (C : Ok l g X own cc nL d) (L : (Cond.methodLink own index y ∈ BIG ∨ ∃ host, Cond.methodLinkNest own index y host ∈ NSL) ∧ Cond.instanceMethod y ∈ BIG ∧ Cond.initialized y.cls ∈ BIG ∧ Cond.code y cc2 nL2 none ∈ BIG) (hy : y.cls ≠ "java/lang/invoke/MethodHandle" ∧ y.cls ≠ "java/lang/invoke/VarHandle" ∧ (parseMethodDescriptor y.desc).map (fun d => d.parameters.length) = some As.length) (hy1 : y.name = "<init>") (hnl : nL2 ≤ 19) (M : CtN l g y cc2 nL2 d2 mc ms (.ref b :: As) Cs Ds) (hd : decode cc pc = .ok (.invokespecial index, 3)) (hdd : d2 < d) (isB isR : List Nat) (hC : isB.map (fun i => Bs[i]?) = Cs.map some) (hR : isR.map (fun i => Bs[i]?) = Rs.map some) (hnd : va_nd isB = true) (hndR : va_nd isR = true) (hdis : ∀ i ∈ isR, i ∉ isB) (hst : st = As.reverse ++ .ref b :: rest) (hcat : (rest.map fun v => v.category).sum ≤ 8) (hnk : n + mc ≤ cellsX X ∧ k + ms ≤ slotsX X) (kk : ∀ u : S, Vw g X nL (n + mc) (k + ms) (fl (Rs ++ Ds u)) (pc + 3) lv rest) : Vw g X nL n k (fl Bs) pc lv st := by
  obtain ⟨p, l', e, R, s, m, args, below, meth, c, Q, A⟩ := X
  obtain ⟨rfl, hx, hb, hml, hown, hts, hK, hlk, hA, hfr, hlo⟩ := C
  intro H locs ls hP hD hS hl
  subst hst
  obtain ⟨hlink, hin, hini, hcode⟩ := L
  have hPc := fl_subP hP hC
  have hDc := fl_subD hD hnd hC
  have hFc := fl_free hD hS hA hC
  have hp : PreS s H (va_Pc (.ref b :: As) (PreW g (fl Cs) H.size)) (.ref b :: As) := ⟨PreW.blind, fun U hU hW => ⟨rfl, by rw [hU], by rw [hU]; exact hPc, hK.warm hW, hDc.weaken (fun _ _ _ _ => trivial)⟩⟩
  have hrm : (rmq d2 mc ms).frames + 1 ≤ R.frames ∧ 8 + (nL2 + 11) + (rmq d2 mc ms).locals ≤ R.locals := by
    show d2 + 1 ≤ R.frames ∧ 8 + (nL2 + 11) + 38 * d2 ≤ R.locals
    omega
  have hrun : va_Run p l' e R s m args below meth c H locs n k mc ms (F0 m pc ls (As.reverse ++ .ref b :: rest)) rest (va_Qv (fun (_ : S) => True) (fun u t => va_P g.1 vwCl (fl (Ds u)) t.heap ∧ va_D (va_A (fl Cs) H.size) (fl (Ds u))) (va_A (fl Cs) H.size) (Value.ref b :: As).toArray) (va_A (fl Cs) H.size) := by
    rcases hlink with hlink | ⟨host, hlink⟩
    · exact va_runI (As := As) (rest := rest) ⟨hx, hb, hml, hown, hts⟩ (M H.size) (cwI As.length hts (good_cons hcode good_BIG) rfl rfl rfl (hts _ hini) (hts _ hlink) (hts _ hin) hy1 hy hrm) hp rfl rfl hl.1 rfl (lv_room hcat) hd hnk
    · exact va_runIN (As := As) (rest := rest) ⟨hx, hb, hml, hown, hts⟩ (M H.size) ⟨va_cnB As.length hts (good_cons hcode good_BIG) rfl rfl rfl (hK.2.1 _ hlink) (hts _ hini) hy hrm, hy1, hts _ hin⟩ hp rfl rfl hl.1 rfl (lv_room hcat) hd hnk
  refine va_callv hrun hS (fun q _ h => hFc q h) hFc (fun u t H1 locs1 ht hvm hw1 hB hz1 hk1 hS1 => ?_)
  obtain ⟨hB, hBD⟩ := hB
  rw [ht] at hB
  have hout : ∀ q ∈ fl Rs, q.1 < H.size ∧ ¬ va_A (fl Cs) H.size q.1 := by
    intro q hq
    obtain ⟨r, hr, hqr⟩ := List.mem_flatten.mp hq
    obtain ⟨j, hj⟩ := List.getElem?_of_mem hr
    obtain ⟨i, h4, hi⟩ := gi_at hR j r hj
    exact fl_out hP hD hC hi (hdis i (List.mem_of_getElem? h4)) hqr
  have hPR : va_P g.1 vwCl (fl Rs) H1 := by
    rw [va_P_mem]
    intro q hq
    exact (va_P_mem.mp (fl_subP hP hR) q hq).kept (hk1 q.1 (hout q hq).1 (hout q hq).2)
  have e : fl (Rs ++ Ds u) = fl Rs ++ fl (Ds u) := by unfold fl; simp
  refine kk u H1 locs1 ls ?_ ?_ hS1 hl
  · rw [e]; exact va_P.app hPR hB
  · rw [e]
    refine va_D.app (fl_subD hD hndR hR) (hBD.weaken (fun _ q _ h => hFc q.1 h)) (fun i j x y hx hy hxy => ?_)
    exact (hout x (List.mem_of_getElem? hx)).2 (by rw [hxy]; exact hBD.2 j y hy)

