abbrev Gl : Type := va_G × ClassId × ClassId × ClassId × ClassId
abbrev tyG (g : Gl) : List (ClassId × FieldType) := [(g.2.1, .int), (g.2.2.1, .byte), (g.2.2.2.1, .boolean), (g.2.2.2.2, .object "SpinTops$Moment")]
def BIG : List Cond := lw_tbl.filter goodWord
theorem mb {w : Cond} (i : Nat) (h : lw_tbl[i]? = some w) (hg : goodWord w = true) : w ∈ BIG := List.mem_filter.mpr ⟨List.mem_of_getElem? h, hg⟩
theorem BIG_good {w : Cond} (h : w ∈ BIG) : (w.onTables && w.keeps) = true ∨ ∃ ty, w = .arrayClass ty := good_of_word (List.mem_filter.mp h).2
def isNs : Cond → Bool
  | .fieldLinkNest _ _ _ _ _ _ => true
  | .methodLinkNest _ _ _ _ => true
  | _ => false
def NSL : List Cond := lw_tbl.filter isNs
theorem mn {w : Cond} (i : Nat) (h : lw_tbl[i]? = some w) (hg : isNs w = true) : w ∈ NSL := List.mem_filter.mpr ⟨List.mem_of_getElem? h, hg⟩
def NW (U : State) : Prop := ∀ w ∈ NSL, va_Nw w U
theorem NW.warm {s U : State} (hW : s.WarmedH U.vm) (h : NW s) : NW U := by
  intro w hw
  have h1 := h w hw
  have h2 := (List.mem_filter.mp hw).2
  cases w <;> first | exact va_Nw.warmF hW h1 | exact va_Nw.warmM hW h1 | (exact absurd h2 (by simp [isNs]))
theorem NW.same {s U : State} (e : s.vm = U.vm) (h : NW s) : NW U := by
  intro w hw
  have h1 := h w hw
  have h2 := (List.mem_filter.mp hw).2
  cases w <;> first | exact va_Nw.same rfl e h1 | (exact absurd h2 (by simp [isNs]))
def KK (g : Gl) (U : State) : Prop := va_K g.1 vwCl (tyG g) U ∧ NW U ∧ va_AO "SpinTops$Moment" U
theorem KK.warm {g : Gl} {s U : State} (hW : s.WarmedH U.vm) (h : KK g s) : KK g U := ⟨va_K.moved hW.alike h.1, h.2.1.warm hW, h.2.2.moved hW.alike⟩
theorem KK.calling {g : Gl} {U : State} {f : JFrame} {mk : MethodId} {a : Array Value} (h : KK g U) : KK g (U.calling f mk a) := ⟨va_K.moved (u := U) (U := U.calling f mk a) (Vm.Alike.refl U.vm) h.1, NW.same (s := U) (U := U.calling f mk a) rfl h.2.1, va_AO.moved (u := U) (U := U.calling f mk a) (Vm.Alike.refl U.vm) h.2.2⟩
def rmq (d mc ms : Nat) : Room := { frames := d, cells := mc, slots := ms, locals := 38 * d }
abbrev Cx : Type := Program × Launch × Env × Room × State × MethodId × Array Value × List Frame × Method × Code × (State → Prop) × (Nat → Prop)
def Vw (g : Gl) (X : Cx) (nL n k : Nat) (ws : va_W) (pc : Nat) (lv : List (Nat × Value)) (st : List Value) : Prop :=
  match X with
  | (p, l, e, R, s, m, args, below, meth, c, Q, A) => ∀ (H : Heap) (locs : List Loc) (ls : Array Slot), va_P g.1 vwCl ws H → va_D A ws → va_S A s.heap H locs → lv_has ls nL lv → W p l e R s m args below meth c H locs n k Q (F0 m pc ls st)
def Ok (l : Launch) (g : Gl) (X : Cx) (own : String) (cc : ByteArray) (nL d : Nat) : Prop :=
  match X with
  | (p, l', e, R, s, m, args, below, meth, c, Q, A) => l' = l ∧ p.tables.exec = Jvm.exec ∧ c.code = cc ∧ c.maxLocals = nL ∧ s.vm.findClass own = some m.cls ∧ (∀ w ∈ BIG, w.before args s = true) ∧ KK g s ∧ meth.locks = false ∧ (∀ q, s.heap.size ≤ q → A q) ∧ d ≤ R.frames ∧ 38 * d ≤ R.locals
def cellsX (X : Cx) : Nat := X.2.2.2.1.cells
def slotsX (X : Cx) : Nat := X.2.2.2.1.slots
def RetI (g : Gl) (X : Cx) (cc : ByteArray) (nL n k : Nat) (r : Int32) (ws : va_W) : Prop := ∀ (pc : Nat) (lv : List (Nat × Value)), decode cc pc = .ok (.ireturn, 1) → Vw g X nL n k ws pc lv [.int r]
def RetL (g : Gl) (X : Cx) (cc : ByteArray) (nL n k : Nat) (r : Int64) (ws : va_W) : Prop := ∀ (pc : Nat) (lv : List (Nat × Value)), decode cc pc = .ok (.lreturn, 1) → Vw g X nL n k ws pc lv [.long r]
def RetV (g : Gl) (X : Cx) (cc : ByteArray) (nL n k : Nat) (ws : va_W) : Prop := ∀ (pc : Nat) (lv : List (Nat × Value)), decode cc pc = .ok (.return_, 1) → Vw g X nL n k ws pc lv []
theorem inc1 (a : Nat) : nI a + Int32.ofInt 1 = nI (a + 1) := by rw [show Int32.ofInt 1 = 1 from by decide]; exact nI_1 a
theorem dec1 {a : Nat} (h : 1 ≤ a) : nI a + Int32.ofInt (-1) = nI (a - 1) := by
  obtain ⟨b, rfl⟩ : ∃ b, a = b + 1 := ⟨a - 1, by omega⟩
  rw [show Int32.ofInt (-1) = -1 from by decide]; exact pk_m1 b

theorem r_iconst {l : Launch} {g : Gl} {X : Cx} {own : String} {cc : ByteArray} {nL d n k pc : Nat} {ws : va_W} {lv : List (Nat × Value)} {rest : List Value} {a : Int} (v : Int32) (C : Ok l g X own cc nL d) (hd : decode cc pc = .ok (.iconst a, 1)) (hv : Int32.ofInt a = v) (kk : Vw g X nL n k ws (pc + 1) lv (.int v :: rest)) : Vw g X nL n k ws pc lv rest := by
  obtain ⟨p, l', e, R, s, m, args, below, meth, c, Q, A⟩ := X
  obtain ⟨rfl, hx, hb, hml, hown, hts, hK, hlk, hA, hfr, hlo⟩ := C
  intro H locs ls hP hD hS hl
  exact lv_iconst hx hb hd hv (kk H locs ls hP hD hS hl)

theorem r_bipush {l : Launch} {g : Gl} {X : Cx} {own : String} {cc : ByteArray} {nL d n k pc : Nat} {ws : va_W} {lv : List (Nat × Value)} {rest : List Value} {a : Int} (v : Int32) (C : Ok l g X own cc nL d) (hd : decode cc pc = .ok (.bipush a, 2)) (hv : (Int8.ofInt a).toInt32 = v) (kk : Vw g X nL n k ws (pc + 2) lv (.int v :: rest)) : Vw g X nL n k ws pc lv rest := by
  obtain ⟨p, l', e, R, s, m, args, below, meth, c, Q, A⟩ := X
  obtain ⟨rfl, hx, hb, hml, hown, hts, hK, hlk, hA, hfr, hlo⟩ := C
  intro H locs ls hP hD hS hl
  exact lv_bipush hx hb hd hv (kk H locs ls hP hD hS hl)

theorem r_sipush {l : Launch} {g : Gl} {X : Cx} {own : String} {cc : ByteArray} {nL d n k pc : Nat} {ws : va_W} {lv : List (Nat × Value)} {rest : List Value} {a : Int} (v : Int32) (C : Ok l g X own cc nL d) (hd : decode cc pc = .ok (.sipush a, 3)) (hv : (Int16.ofInt a).toInt32 = v) (kk : Vw g X nL n k ws (pc + 3) lv (.int v :: rest)) : Vw g X nL n k ws pc lv rest := by
  obtain ⟨p, l', e, R, s, m, args, below, meth, c, Q, A⟩ := X
  obtain ⟨rfl, hx, hb, hml, hown, hts, hK, hlk, hA, hfr, hlo⟩ := C
  intro H locs ls hP hD hS hl
  exact lv_sipush hx hb hd hv (kk H locs ls hP hD hS hl)

theorem r_lconst {l : Launch} {g : Gl} {X : Cx} {own : String} {cc : ByteArray} {nL d n k pc : Nat} {ws : va_W} {lv : List (Nat × Value)} {rest : List Value} {a : Fin 2} (v : Int64) (C : Ok l g X own cc nL d) (hd : decode cc pc = .ok (.lconst a, 1)) (hv : Int64.ofNat (a : Nat) = v) (kk : Vw g X nL n k ws (pc + 1) lv (.long v :: rest)) : Vw g X nL n k ws pc lv rest := by
  obtain ⟨p, l', e, R, s, m, args, below, meth, c, Q, A⟩ := X
  obtain ⟨rfl, hx, hb, hml, hown, hts, hK, hlk, hA, hfr, hlo⟩ := C
  intro H locs ls hP hD hS hl
  exact lv_lconst hx hb hd hv (kk H locs ls hP hD hS hl)

theorem r_ldc {l : Launch} {g : Gl} {X : Cx} {own : String} {cc : ByteArray} {nL d n k pc : Nat} {ws : va_W} {lv : List (Nat × Value)} {rest : List Value} {i : Nat} {v : Int32} (C : Ok l g X own cc nL d) (hd : decode cc pc = .ok (.ldc i, 2)) (hv : Cond.constant own i v ∈ BIG) (kk : Vw g X nL n k ws (pc + 2) lv (.int v :: rest)) : Vw g X nL n k ws pc lv rest := by
  obtain ⟨p, l', e, R, s, m, args, below, meth, c, Q, A⟩ := X
  obtain ⟨rfl, hx, hb, hml, hown, hts, hK, hlk, hA, hfr, hlo⟩ := C
  intro H locs ls hP hD hS hl
  exact lv_ldc hx hb hown (hts _ hv) hd (kk H locs ls hP hD hS hl)

theorem r_ldcw {l : Launch} {g : Gl} {X : Cx} {own : String} {cc : ByteArray} {nL d n k pc : Nat} {ws : va_W} {lv : List (Nat × Value)} {rest : List Value} {i : Nat} {v : Int32} (C : Ok l g X own cc nL d) (hd : decode cc pc = .ok (.ldc_w i, 3)) (hv : Cond.constant own i v ∈ BIG) (kk : Vw g X nL n k ws (pc + 3) lv (.int v :: rest)) : Vw g X nL n k ws pc lv rest := by
  obtain ⟨p, l', e, R, s, m, args, below, meth, c, Q, A⟩ := X
  obtain ⟨rfl, hx, hb, hml, hown, hts, hK, hlk, hA, hfr, hlo⟩ := C
  intro H locs ls hP hD hS hl
  exact lv_ldcw hx hb hown (hts _ hv) hd (kk H locs ls hP hD hS hl)

theorem r_ldc2 {l : Launch} {g : Gl} {X : Cx} {own : String} {cc : ByteArray} {nL d n k pc : Nat} {ws : va_W} {lv : List (Nat × Value)} {rest : List Value} {i : Nat} {v : Int64} (C : Ok l g X own cc nL d) (hd : decode cc pc = .ok (.ldc2_w i, 3)) (hv : Cond.constantLong own i v ∈ BIG) (kk : Vw g X nL n k ws (pc + 3) lv (.long v :: rest)) : Vw g X nL n k ws pc lv rest := by
  obtain ⟨p, l', e, R, s, m, args, below, meth, c, Q, A⟩ := X
  obtain ⟨rfl, hx, hb, hml, hown, hts, hK, hlk, hA, hfr, hlo⟩ := C
  intro H locs ls hP hD hS hl
  exact lv_ldc2 hx hb hown (hts _ hv) hd (kk H locs ls hP hD hS hl)

theorem r_iload_n {l : Launch} {g : Gl} {X : Cx} {own : String} {cc : ByteArray} {nL d n k pc : Nat} {ws : va_W} {lv : List (Nat × Value)} {rest : List Value} {i : Fin 4} {x : Int32} (C : Ok l g X own cc nL d) (hd : decode cc pc = .ok (.iload_n i, 1)) (j : Nat) (hj : lv[j]? = some ((i : Nat), .int x)) (kk : Vw g X nL n k ws (pc + 1) lv (.int x :: rest)) : Vw g X nL n k ws pc lv rest := by
  obtain ⟨p, l', e, R, s, m, args, below, meth, c, Q, A⟩ := X
  obtain ⟨rfl, hx, hb, hml, hown, hts, hK, hlk, hA, hfr, hlo⟩ := C
  intro H locs ls hP hD hS hl
  exact lv_iload_n hx hb hd rfl (lv_at hl j hj) (kk H locs ls hP hD hS hl)

theorem r_iload {l : Launch} {g : Gl} {X : Cx} {own : String} {cc : ByteArray} {nL d n k pc : Nat} {ws : va_W} {lv : List (Nat × Value)} {rest : List Value} {i : Nat} {x : Int32} (C : Ok l g X own cc nL d) (hd : decode cc pc = .ok (.iload i, 2)) (j : Nat) (hj : lv[j]? = some (i, .int x)) (kk : Vw g X nL n k ws (pc + 2) lv (.int x :: rest)) : Vw g X nL n k ws pc lv rest := by
  obtain ⟨p, l', e, R, s, m, args, below, meth, c, Q, A⟩ := X
  obtain ⟨rfl, hx, hb, hml, hown, hts, hK, hlk, hA, hfr, hlo⟩ := C
  intro H locs ls hP hD hS hl
  exact lv_iload hx hb hd (lv_at hl j hj) (kk H locs ls hP hD hS hl)

theorem r_lload_n {l : Launch} {g : Gl} {X : Cx} {own : String} {cc : ByteArray} {nL d n k pc : Nat} {ws : va_W} {lv : List (Nat × Value)} {rest : List Value} {i : Fin 4} {x : Int64} (C : Ok l g X own cc nL d) (hd : decode cc pc = .ok (.lload_n i, 1)) (j : Nat) (hj : lv[j]? = some ((i : Nat), .long x)) (kk : Vw g X nL n k ws (pc + 1) lv (.long x :: rest)) : Vw g X nL n k ws pc lv rest := by
  obtain ⟨p, l', e, R, s, m, args, below, meth, c, Q, A⟩ := X
  obtain ⟨rfl, hx, hb, hml, hown, hts, hK, hlk, hA, hfr, hlo⟩ := C
  intro H locs ls hP hD hS hl
  exact lv_lload_n hx hb hd rfl (lv_at hl j hj) (kk H locs ls hP hD hS hl)

theorem r_lload {l : Launch} {g : Gl} {X : Cx} {own : String} {cc : ByteArray} {nL d n k pc : Nat} {ws : va_W} {lv : List (Nat × Value)} {rest : List Value} {i : Nat} {x : Int64} (C : Ok l g X own cc nL d) (hd : decode cc pc = .ok (.lload i, 2)) (j : Nat) (hj : lv[j]? = some (i, .long x)) (kk : Vw g X nL n k ws (pc + 2) lv (.long x :: rest)) : Vw g X nL n k ws pc lv rest := by
  obtain ⟨p, l', e, R, s, m, args, below, meth, c, Q, A⟩ := X
  obtain ⟨rfl, hx, hb, hml, hown, hts, hK, hlk, hA, hfr, hlo⟩ := C
  intro H locs ls hP hD hS hl
  exact lv_lload hx hb hd (lv_at hl j hj) (kk H locs ls hP hD hS hl)

theorem r_aload_n {l : Launch} {g : Gl} {X : Cx} {own : String} {cc : ByteArray} {nL d n k pc : Nat} {ws : va_W} {lv : List (Nat × Value)} {rest : List Value} {i : Fin 4} {x : Nat} (C : Ok l g X own cc nL d) (hd : decode cc pc = .ok (.aload_n i, 1)) (j : Nat) (hj : lv[j]? = some ((i : Nat), .ref x)) (kk : Vw g X nL n k ws (pc + 1) lv (.ref x :: rest)) : Vw g X nL n k ws pc lv rest := by
  obtain ⟨p, l', e, R, s, m, args, below, meth, c, Q, A⟩ := X
  obtain ⟨rfl, hx, hb, hml, hown, hts, hK, hlk, hA, hfr, hlo⟩ := C
  intro H locs ls hP hD hS hl
  exact lv_aload_n hx hb hd rfl (lv_at hl j hj) (kk H locs ls hP hD hS hl)

theorem r_aload {l : Launch} {g : Gl} {X : Cx} {own : String} {cc : ByteArray} {nL d n k pc : Nat} {ws : va_W} {lv : List (Nat × Value)} {rest : List Value} {i : Nat} {x : Nat} (C : Ok l g X own cc nL d) (hd : decode cc pc = .ok (.aload i, 2)) (j : Nat) (hj : lv[j]? = some (i, .ref x)) (kk : Vw g X nL n k ws (pc + 2) lv (.ref x :: rest)) : Vw g X nL n k ws pc lv rest := by
  obtain ⟨p, l', e, R, s, m, args, below, meth, c, Q, A⟩ := X
  obtain ⟨rfl, hx, hb, hml, hown, hts, hK, hlk, hA, hfr, hlo⟩ := C
  intro H locs ls hP hD hS hl
  exact lv_aload hx hb hd (lv_at hl j hj) (kk H locs ls hP hD hS hl)

theorem r_istore_n {l : Launch} {g : Gl} {X : Cx} {own : String} {cc : ByteArray} {nL d n k pc : Nat} {ws : va_W} {lv : List (Nat × Value)} {rest : List Value} {i : Fin 4} {x : Int32} (lv' : List (Nat × Value)) (C : Ok l g X own cc nL d) (hd : decode cc pc = .ok (.istore_n i, 1)) (hn : (i : Nat) < nL) (hl' : ((i : Nat), Value.int x) :: lv.filter (fun q => !(q.1 == (i : Nat)) && !(q.1 + 1 == (i : Nat) && q.2.category == 2)) = lv') (kk : Vw g X nL n k ws (pc + 1) lv' rest) : Vw g X nL n k ws pc lv (.int x :: rest) := by
  obtain ⟨p, l', e, R, s, m, args, below, meth, c, Q, A⟩ := X
  obtain ⟨rfl, hx, hb, hml, hown, hts, hK, hlk, hA, hfr, hlo⟩ := C
  intro H locs ls hP hD hS hl
  exact lv_istore_n hx hb hd rfl hl hn hl' (fun ls' h' => kk H locs ls' hP hD hS h')

theorem r_istore {l : Launch} {g : Gl} {X : Cx} {own : String} {cc : ByteArray} {nL d n k pc : Nat} {ws : va_W} {lv : List (Nat × Value)} {rest : List Value} {i : Nat} {x : Int32} (lv' : List (Nat × Value)) (C : Ok l g X own cc nL d) (hd : decode cc pc = .ok (.istore i, 2)) (hn : i < nL) (hl' : (i, Value.int x) :: lv.filter (fun q => !(q.1 == i) && !(q.1 + 1 == i && q.2.category == 2)) = lv') (kk : Vw g X nL n k ws (pc + 2) lv' rest) : Vw g X nL n k ws pc lv (.int x :: rest) := by
  obtain ⟨p, l', e, R, s, m, args, below, meth, c, Q, A⟩ := X
  obtain ⟨rfl, hx, hb, hml, hown, hts, hK, hlk, hA, hfr, hlo⟩ := C
  intro H locs ls hP hD hS hl
  exact lv_istore hx hb hd hl hn hl' (fun ls' h' => kk H locs ls' hP hD hS h')

theorem r_astore_n {l : Launch} {g : Gl} {X : Cx} {own : String} {cc : ByteArray} {nL d n k pc : Nat} {ws : va_W} {lv : List (Nat × Value)} {rest : List Value} {i : Fin 4} {x : Nat} (lv' : List (Nat × Value)) (C : Ok l g X own cc nL d) (hd : decode cc pc = .ok (.astore_n i, 1)) (hn : (i : Nat) < nL) (hl' : ((i : Nat), Value.ref x) :: lv.filter (fun q => !(q.1 == (i : Nat)) && !(q.1 + 1 == (i : Nat) && q.2.category == 2)) = lv') (kk : Vw g X nL n k ws (pc + 1) lv' rest) : Vw g X nL n k ws pc lv (.ref x :: rest) := by
  obtain ⟨p, l', e, R, s, m, args, below, meth, c, Q, A⟩ := X
  obtain ⟨rfl, hx, hb, hml, hown, hts, hK, hlk, hA, hfr, hlo⟩ := C
  intro H locs ls hP hD hS hl
  exact lv_astore_n hx hb hd rfl hl hn hl' (fun ls' h' => kk H locs ls' hP hD hS h')

theorem r_astore {l : Launch} {g : Gl} {X : Cx} {own : String} {cc : ByteArray} {nL d n k pc : Nat} {ws : va_W} {lv : List (Nat × Value)} {rest : List Value} {i : Nat} {x : Nat} (lv' : List (Nat × Value)) (C : Ok l g X own cc nL d) (hd : decode cc pc = .ok (.astore i, 2)) (hn : i < nL) (hl' : (i, Value.ref x) :: lv.filter (fun q => !(q.1 == i) && !(q.1 + 1 == i && q.2.category == 2)) = lv') (kk : Vw g X nL n k ws (pc + 2) lv' rest) : Vw g X nL n k ws pc lv (.ref x :: rest) := by
  obtain ⟨p, l', e, R, s, m, args, below, meth, c, Q, A⟩ := X
  obtain ⟨rfl, hx, hb, hml, hown, hts, hK, hlk, hA, hfr, hlo⟩ := C
  intro H locs ls hP hD hS hl
  exact lv_astore hx hb hd hl hn hl' (fun ls' h' => kk H locs ls' hP hD hS h')

theorem r_iinc {l : Launch} {g : Gl} {X : Cx} {own : String} {cc : ByteArray} {nL d n k pc : Nat} {ws : va_W} {lv : List (Nat × Value)} {st : List Value} {i : Nat} {a : Int} {x : Int32} (v : Int32) (lv' : List (Nat × Value)) (C : Ok l g X own cc nL d) (hd : decode cc pc = .ok (.iinc i a, 3)) (j : Nat) (hj : lv[j]? = some (i, .int x)) (hv : x + Int32.ofInt a = v) (hn : i < nL) (hl' : (i, Value.int v) :: lv.filter (fun q => !(q.1 == i) && !(q.1 + 1 == i && q.2.category == 2)) = lv') (kk : Vw g X nL n k ws (pc + 3) lv' st) : Vw g X nL n k ws pc lv st := by
  obtain ⟨p, l', e, R, s, m, args, below, meth, c, Q, A⟩ := X
  obtain ⟨rfl, hx, hb, hml, hown, hts, hK, hlk, hA, hfr, hlo⟩ := C
  intro H locs ls hP hD hS hl
  exact lv_iinc hx hb hd hl hj hv hn hl' (fun ls' h' => kk H locs ls' hP hD hS h')

theorem r_iadd {l : Launch} {g : Gl} {X : Cx} {own : String} {cc : ByteArray} {nL d n k pc : Nat} {ws : va_W} {lv : List (Nat × Value)} {rest : List Value} {x y : Int32} (C : Ok l g X own cc nL d) (hd : decode cc pc = .ok (.iadd, 1))  (kk : Vw g X nL n k ws (pc + 1) lv (.int (x + y) :: rest)) : Vw g X nL n k ws pc lv (.int y :: .int x :: rest) := by
  obtain ⟨p, l', e, R, s, m, args, below, meth, c, Q, A⟩ := X
  obtain ⟨rfl, hx, hb, hml, hown, hts, hK, hlk, hA, hfr, hlo⟩ := C
  intro H locs ls hP hD hS hl
  exact lv_iadd hx hb hd (kk H locs ls hP hD hS hl)

theorem r_isub {l : Launch} {g : Gl} {X : Cx} {own : String} {cc : ByteArray} {nL d n k pc : Nat} {ws : va_W} {lv : List (Nat × Value)} {rest : List Value} {x y : Int32} (C : Ok l g X own cc nL d) (hd : decode cc pc = .ok (.isub, 1))  (kk : Vw g X nL n k ws (pc + 1) lv (.int (x - y) :: rest)) : Vw g X nL n k ws pc lv (.int y :: .int x :: rest) := by
  obtain ⟨p, l', e, R, s, m, args, below, meth, c, Q, A⟩ := X
  obtain ⟨rfl, hx, hb, hml, hown, hts, hK, hlk, hA, hfr, hlo⟩ := C
  intro H locs ls hP hD hS hl
  exact lv_isub hx hb hd (kk H locs ls hP hD hS hl)

theorem r_imul {l : Launch} {g : Gl} {X : Cx} {own : String} {cc : ByteArray} {nL d n k pc : Nat} {ws : va_W} {lv : List (Nat × Value)} {rest : List Value} {x y : Int32} (C : Ok l g X own cc nL d) (hd : decode cc pc = .ok (.imul, 1))  (kk : Vw g X nL n k ws (pc + 1) lv (.int (x * y) :: rest)) : Vw g X nL n k ws pc lv (.int y :: .int x :: rest) := by
  obtain ⟨p, l', e, R, s, m, args, below, meth, c, Q, A⟩ := X
  obtain ⟨rfl, hx, hb, hml, hown, hts, hK, hlk, hA, hfr, hlo⟩ := C
  intro H locs ls hP hD hS hl
  exact lv_imul hx hb hd (kk H locs ls hP hD hS hl)

theorem r_iand {l : Launch} {g : Gl} {X : Cx} {own : String} {cc : ByteArray} {nL d n k pc : Nat} {ws : va_W} {lv : List (Nat × Value)} {rest : List Value} {x y : Int32} (C : Ok l g X own cc nL d) (hd : decode cc pc = .ok (.iand, 1))  (kk : Vw g X nL n k ws (pc + 1) lv (.int (x &&& y) :: rest)) : Vw g X nL n k ws pc lv (.int y :: .int x :: rest) := by
  obtain ⟨p, l', e, R, s, m, args, below, meth, c, Q, A⟩ := X
  obtain ⟨rfl, hx, hb, hml, hown, hts, hK, hlk, hA, hfr, hlo⟩ := C
  intro H locs ls hP hD hS hl
  exact lv_iand hx hb hd (kk H locs ls hP hD hS hl)

theorem r_ior {l : Launch} {g : Gl} {X : Cx} {own : String} {cc : ByteArray} {nL d n k pc : Nat} {ws : va_W} {lv : List (Nat × Value)} {rest : List Value} {x y : Int32} (C : Ok l g X own cc nL d) (hd : decode cc pc = .ok (.ior, 1))  (kk : Vw g X nL n k ws (pc + 1) lv (.int (x ||| y) :: rest)) : Vw g X nL n k ws pc lv (.int y :: .int x :: rest) := by
  obtain ⟨p, l', e, R, s, m, args, below, meth, c, Q, A⟩ := X
  obtain ⟨rfl, hx, hb, hml, hown, hts, hK, hlk, hA, hfr, hlo⟩ := C
  intro H locs ls hP hD hS hl
  exact lv_ior hx hb hd (kk H locs ls hP hD hS hl)

theorem r_ixor {l : Launch} {g : Gl} {X : Cx} {own : String} {cc : ByteArray} {nL d n k pc : Nat} {ws : va_W} {lv : List (Nat × Value)} {rest : List Value} {x y : Int32} (C : Ok l g X own cc nL d) (hd : decode cc pc = .ok (.ixor, 1))  (kk : Vw g X nL n k ws (pc + 1) lv (.int (x ^^^ y) :: rest)) : Vw g X nL n k ws pc lv (.int y :: .int x :: rest) := by
  obtain ⟨p, l', e, R, s, m, args, below, meth, c, Q, A⟩ := X
  obtain ⟨rfl, hx, hb, hml, hown, hts, hK, hlk, hA, hfr, hlo⟩ := C
  intro H locs ls hP hD hS hl
  exact lv_ixor hx hb hd (kk H locs ls hP hD hS hl)

theorem r_ishl {l : Launch} {g : Gl} {X : Cx} {own : String} {cc : ByteArray} {nL d n k pc : Nat} {ws : va_W} {lv : List (Nat × Value)} {rest : List Value} {x y : Int32} (C : Ok l g X own cc nL d) (hd : decode cc pc = .ok (.ishl, 1))  (kk : Vw g X nL n k ws (pc + 1) lv (.int (x <<< (y &&& 31)) :: rest)) : Vw g X nL n k ws pc lv (.int y :: .int x :: rest) := by
  obtain ⟨p, l', e, R, s, m, args, below, meth, c, Q, A⟩ := X
  obtain ⟨rfl, hx, hb, hml, hown, hts, hK, hlk, hA, hfr, hlo⟩ := C
  intro H locs ls hP hD hS hl
  exact lv_ishl hx hb hd (kk H locs ls hP hD hS hl)

theorem r_ishr {l : Launch} {g : Gl} {X : Cx} {own : String} {cc : ByteArray} {nL d n k pc : Nat} {ws : va_W} {lv : List (Nat × Value)} {rest : List Value} {x y : Int32} (C : Ok l g X own cc nL d) (hd : decode cc pc = .ok (.ishr, 1))  (kk : Vw g X nL n k ws (pc + 1) lv (.int (x >>> (y &&& 31)) :: rest)) : Vw g X nL n k ws pc lv (.int y :: .int x :: rest) := by
  obtain ⟨p, l', e, R, s, m, args, below, meth, c, Q, A⟩ := X
  obtain ⟨rfl, hx, hb, hml, hown, hts, hK, hlk, hA, hfr, hlo⟩ := C
  intro H locs ls hP hD hS hl
  exact lv_ishr hx hb hd (kk H locs ls hP hD hS hl)

theorem r_iushr {l : Launch} {g : Gl} {X : Cx} {own : String} {cc : ByteArray} {nL d n k pc : Nat} {ws : va_W} {lv : List (Nat × Value)} {rest : List Value} {x y : Int32} (C : Ok l g X own cc nL d) (hd : decode cc pc = .ok (.iushr, 1))  (kk : Vw g X nL n k ws (pc + 1) lv (.int (x.toUInt32 >>> (y.toUInt32 &&& Int32.toUInt32 31)).toInt32 :: rest)) : Vw g X nL n k ws pc lv (.int y :: .int x :: rest) := by
  obtain ⟨p, l', e, R, s, m, args, below, meth, c, Q, A⟩ := X
  obtain ⟨rfl, hx, hb, hml, hown, hts, hK, hlk, hA, hfr, hlo⟩ := C
  intro H locs ls hP hD hS hl
  exact lv_iushr hx hb hd rfl (kk H locs ls hP hD hS hl)

theorem r_idiv {l : Launch} {g : Gl} {X : Cx} {own : String} {cc : ByteArray} {nL d n k pc : Nat} {ws : va_W} {lv : List (Nat × Value)} {rest : List Value} {x y : Int32} (C : Ok l g X own cc nL d) (hd : decode cc pc = .ok (.idiv, 1)) (hne : ¬ y = 0) (kk : Vw g X nL n k ws (pc + 1) lv (.int (x / y) :: rest)) : Vw g X nL n k ws pc lv (.int y :: .int x :: rest) := by
  obtain ⟨p, l', e, R, s, m, args, below, meth, c, Q, A⟩ := X
  obtain ⟨rfl, hx, hb, hml, hown, hts, hK, hlk, hA, hfr, hlo⟩ := C
  intro H locs ls hP hD hS hl
  exact lv_idiv hx hb hd hne (kk H locs ls hP hD hS hl)

theorem r_irem {l : Launch} {g : Gl} {X : Cx} {own : String} {cc : ByteArray} {nL d n k pc : Nat} {ws : va_W} {lv : List (Nat × Value)} {rest : List Value} {x y : Int32} (C : Ok l g X own cc nL d) (hd : decode cc pc = .ok (.irem, 1)) (hne : ¬ y = 0) (kk : Vw g X nL n k ws (pc + 1) lv (.int (x - x / y * y) :: rest)) : Vw g X nL n k ws pc lv (.int y :: .int x :: rest) := by
  obtain ⟨p, l', e, R, s, m, args, below, meth, c, Q, A⟩ := X
  obtain ⟨rfl, hx, hb, hml, hown, hts, hK, hlk, hA, hfr, hlo⟩ := C
  intro H locs ls hP hD hS hl
  exact lv_irem hx hb hd hne (kk H locs ls hP hD hS hl)

theorem r_iaddN {l : Launch} {g : Gl} {X : Cx} {own : String} {cc : ByteArray} {nL d n k pc : Nat} {ws : va_W} {lv : List (Nat × Value)} {rest : List Value} {x y : Int32} (a b : Nat) (C : Ok l g X own cc nL d) (hd : decode cc pc = .ok (.iadd, 1)) (hxa : x = nI a) (hyb : y = nI b)  (kk : Vw g X nL n k ws (pc + 1) lv (.int (nI (a + b)) :: rest)) : Vw g X nL n k ws pc lv (.int y :: .int x :: rest) := by
  obtain ⟨p, l', e, R, s, m, args, below, meth, c, Q, A⟩ := X
  obtain ⟨rfl, hx, hb, hml, hown, hts, hK, hlk, hA, hfr, hlo⟩ := C
  intro H locs ls hP hD hS hl
  subst hxa; subst hyb; refine lv_iadd hx hb hd ?_; rw [nI_add]; exact (kk H locs ls hP hD hS hl)

theorem r_isubN {l : Launch} {g : Gl} {X : Cx} {own : String} {cc : ByteArray} {nL d n k pc : Nat} {ws : va_W} {lv : List (Nat × Value)} {rest : List Value} {x y : Int32} (a b : Nat) (C : Ok l g X own cc nL d) (hd : decode cc pc = .ok (.isub, 1)) (hxa : x = nI a) (hyb : y = nI b) (hab : b ≤ a) (kk : Vw g X nL n k ws (pc + 1) lv (.int (nI (a - b)) :: rest)) : Vw g X nL n k ws pc lv (.int y :: .int x :: rest) := by
  obtain ⟨p, l', e, R, s, m, args, below, meth, c, Q, A⟩ := X
  obtain ⟨rfl, hx, hb, hml, hown, hts, hK, hlk, hA, hfr, hlo⟩ := C
  intro H locs ls hP hD hS hl
  subst hxa; subst hyb; refine lv_isub hx hb hd ?_; rw [pk_sub hab]; exact (kk H locs ls hP hD hS hl)

theorem r_imulN {l : Launch} {g : Gl} {X : Cx} {own : String} {cc : ByteArray} {nL d n k pc : Nat} {ws : va_W} {lv : List (Nat × Value)} {rest : List Value} {x y : Int32} (a b : Nat) (C : Ok l g X own cc nL d) (hd : decode cc pc = .ok (.imul, 1)) (hxa : x = nI a) (hyb : y = nI b)  (kk : Vw g X nL n k ws (pc + 1) lv (.int (nI (a * b)) :: rest)) : Vw g X nL n k ws pc lv (.int y :: .int x :: rest) := by
  obtain ⟨p, l', e, R, s, m, args, below, meth, c, Q, A⟩ := X
  obtain ⟨rfl, hx, hb, hml, hown, hts, hK, hlk, hA, hfr, hlo⟩ := C
  intro H locs ls hP hD hS hl
  subst hxa; subst hyb; refine lv_imul hx hb hd ?_; rw [pk_mul]; exact (kk H locs ls hP hD hS hl)

theorem r_idivN {l : Launch} {g : Gl} {X : Cx} {own : String} {cc : ByteArray} {nL d n k pc : Nat} {ws : va_W} {lv : List (Nat × Value)} {rest : List Value} {x y : Int32} (a b : Nat) (C : Ok l g X own cc nL d) (hd : decode cc pc = .ok (.idiv, 1)) (hxa : x = nI a) (hyb : y = nI b) (ha : a < 2 ^ 31) (hb0 : 0 < b) (hb2 : b < 2 ^ 31) (kk : Vw g X nL n k ws (pc + 1) lv (.int (nI (a / b)) :: rest)) : Vw g X nL n k ws pc lv (.int y :: .int x :: rest) := by
  obtain ⟨p, l', e, R, s, m, args, below, meth, c, Q, A⟩ := X
  obtain ⟨rfl, hx, hb, hml, hown, hts, hK, hlk, hA, hfr, hlo⟩ := C
  intro H locs ls hP hD hS hl
  subst hxa; subst hyb; refine lv_idiv hx hb hd (nI_ne0 hb0 hb2) ?_; rw [pk_div ha hb0 hb2]; exact (kk H locs ls hP hD hS hl)

theorem r_iremN {l : Launch} {g : Gl} {X : Cx} {own : String} {cc : ByteArray} {nL d n k pc : Nat} {ws : va_W} {lv : List (Nat × Value)} {rest : List Value} {x y : Int32} (a b : Nat) (C : Ok l g X own cc nL d) (hd : decode cc pc = .ok (.irem, 1)) (hxa : x = nI a) (hyb : y = nI b) (ha : a < 2 ^ 31) (hb0 : 0 < b) (hb2 : b < 2 ^ 31) (kk : Vw g X nL n k ws (pc + 1) lv (.int (nI (a % b)) :: rest)) : Vw g X nL n k ws pc lv (.int y :: .int x :: rest) := by
  obtain ⟨p, l', e, R, s, m, args, below, meth, c, Q, A⟩ := X
  obtain ⟨rfl, hx, hb, hml, hown, hts, hK, hlk, hA, hfr, hlo⟩ := C
  intro H locs ls hP hD hS hl
  subst hxa; subst hyb; refine lv_irem hx hb hd (nI_ne0 hb0 hb2) ?_; rw [pk_rem ha hb0 hb2]; exact (kk H locs ls hP hD hS hl)

theorem r_ladd {l : Launch} {g : Gl} {X : Cx} {own : String} {cc : ByteArray} {nL d n k pc : Nat} {ws : va_W} {lv : List (Nat × Value)} {rest : List Value} {x y : Int64} (C : Ok l g X own cc nL d) (hd : decode cc pc = .ok (.ladd, 1))  (kk : Vw g X nL n k ws (pc + 1) lv (.long (x + y) :: rest)) : Vw g X nL n k ws pc lv (.long y :: .long x :: rest) := by
  obtain ⟨p, l', e, R, s, m, args, below, meth, c, Q, A⟩ := X
  obtain ⟨rfl, hx, hb, hml, hown, hts, hK, hlk, hA, hfr, hlo⟩ := C
  intro H locs ls hP hD hS hl
  exact lv_ladd hx hb hd (kk H locs ls hP hD hS hl)

theorem r_i2l {l : Launch} {g : Gl} {X : Cx} {own : String} {cc : ByteArray} {nL d n k pc : Nat} {ws : va_W} {lv : List (Nat × Value)} {rest : List Value} {x : Int32} (C : Ok l g X own cc nL d) (hd : decode cc pc = .ok (.i2l, 1))  (kk : Vw g X nL n k ws (pc + 1) lv (.long x.toInt64 :: rest)) : Vw g X nL n k ws pc lv (.int x :: rest) := by
  obtain ⟨p, l', e, R, s, m, args, below, meth, c, Q, A⟩ := X
  obtain ⟨rfl, hx, hb, hml, hown, hts, hK, hlk, hA, hfr, hlo⟩ := C
  intro H locs ls hP hD hS hl
  exact lv_i2l hx hb hd rfl (kk H locs ls hP hD hS hl)

theorem r_i2b {l : Launch} {g : Gl} {X : Cx} {own : String} {cc : ByteArray} {nL d n k pc : Nat} {ws : va_W} {lv : List (Nat × Value)} {rest : List Value} {x : Int32} (C : Ok l g X own cc nL d) (hd : decode cc pc = .ok (.i2b, 1))  (kk : Vw g X nL n k ws (pc + 1) lv (.int x.toInt8.toInt32 :: rest)) : Vw g X nL n k ws pc lv (.int x :: rest) := by
  obtain ⟨p, l', e, R, s, m, args, below, meth, c, Q, A⟩ := X
  obtain ⟨rfl, hx, hb, hml, hown, hts, hK, hlk, hA, hfr, hlo⟩ := C
  intro H locs ls hP hD hS hl
  exact lv_i2b hx hb hd rfl (kk H locs ls hP hD hS hl)

theorem r_lcmp {l : Launch} {g : Gl} {X : Cx} {own : String} {cc : ByteArray} {nL d n k pc : Nat} {ws : va_W} {lv : List (Nat × Value)} {rest : List Value} {x y : Int64} (C : Ok l g X own cc nL d) (hd : decode cc pc = .ok (.lcmp, 1))  (kk : Vw g X nL n k ws (pc + 1) lv (.int (lg_cmp x y) :: rest)) : Vw g X nL n k ws pc lv (.long y :: .long x :: rest) := by
  obtain ⟨p, l', e, R, s, m, args, below, meth, c, Q, A⟩ := X
  obtain ⟨rfl, hx, hb, hml, hown, hts, hK, hlk, hA, hfr, hlo⟩ := C
  intro H locs ls hP hD hS hl
  exact W.lcmp hx hb hd (kk H locs ls hP hD hS hl)

theorem r_dup {l : Launch} {g : Gl} {X : Cx} {own : String} {cc : ByteArray} {nL d n k pc : Nat} {ws : va_W} {lv : List (Nat × Value)} {rest : List Value} {a : Value} (C : Ok l g X own cc nL d) (hd : decode cc pc = .ok (.dup, 1)) (hc : a.category = 1) (kk : Vw g X nL n k ws (pc + 1) lv (a :: a :: rest)) : Vw g X nL n k ws pc lv (a :: rest) := by
  obtain ⟨p, l', e, R, s, m, args, below, meth, c, Q, A⟩ := X
  obtain ⟨rfl, hx, hb, hml, hown, hts, hK, hlk, hA, hfr, hlo⟩ := C
  intro H locs ls hP hD hS hl
  exact lv_dup hx hb hd hc (kk H locs ls hP hD hS hl)

theorem r_pop {l : Launch} {g : Gl} {X : Cx} {own : String} {cc : ByteArray} {nL d n k pc : Nat} {ws : va_W} {lv : List (Nat × Value)} {rest : List Value} {a : Value} (C : Ok l g X own cc nL d) (hd : decode cc pc = .ok (.pop, 1)) (hc : a.category = 1) (kk : Vw g X nL n k ws (pc + 1) lv rest) : Vw g X nL n k ws pc lv (a :: rest) := by
  obtain ⟨p, l', e, R, s, m, args, below, meth, c, Q, A⟩ := X
  obtain ⟨rfl, hx, hb, hml, hown, hts, hK, hlk, hA, hfr, hlo⟩ := C
  intro H locs ls hP hD hS hl
  exact lv_pop hx hb hd hc (kk H locs ls hP hD hS hl)

theorem r_dup2 {l : Launch} {g : Gl} {X : Cx} {own : String} {cc : ByteArray} {nL d n k pc : Nat} {ws : va_W} {lv : List (Nat × Value)} {rest : List Value} {a b : Value} (C : Ok l g X own cc nL d) (hd : decode cc pc = .ok (.dup2, 1)) (hc : a.category = 1) (hc2 : b.category = 1) (kk : Vw g X nL n k ws (pc + 1) lv (a :: b :: a :: b :: rest)) : Vw g X nL n k ws pc lv (a :: b :: rest) := by
  obtain ⟨p, l', e, R, s, m, args, below, meth, c, Q, A⟩ := X
  obtain ⟨rfl, hx, hb, hml, hown, hts, hK, hlk, hA, hfr, hlo⟩ := C
  intro H locs ls hP hD hS hl
  exact lv_dup2_11 hx hb hd hc hc2 (kk H locs ls hP hD hS hl)

theorem r_ifeq {l : Launch} {g : Gl} {X : Cx} {own : String} {cc : ByteArray} {nL d n k pc : Nat} {ws : va_W} {lv : List (Nat × Value)} {rest : List Value} {x : Int32} {off : Int} (tgt : Nat) (C : Ok l g X own cc nL d) (hd : decode cc pc = .ok (.ifCond .eq off, 3)) (ht : (pc : Int) + off = (tgt : Int)) (kt : x = 0 → Vw g X nL n k ws tgt lv rest) (kf : ¬ x = 0 → Vw g X nL n k ws (pc + 3) lv rest) : Vw g X nL n k ws pc lv (.int x :: rest) := by
  obtain ⟨p, l', e, R, s, m, args, below, meth, c, Q, A⟩ := X
  obtain ⟨rfl, hx, hb, hml, hown, hts, hK, hlk, hA, hfr, hlo⟩ := C
  intro H locs ls hP hD hS hl
  exact lv_if_eq hx hb hd ht (fun h => kt h H locs ls hP hD hS hl) (fun h => kf h H locs ls hP hD hS hl)

theorem r_ifne {l : Launch} {g : Gl} {X : Cx} {own : String} {cc : ByteArray} {nL d n k pc : Nat} {ws : va_W} {lv : List (Nat × Value)} {rest : List Value} {x : Int32} {off : Int} (tgt : Nat) (C : Ok l g X own cc nL d) (hd : decode cc pc = .ok (.ifCond .ne off, 3)) (ht : (pc : Int) + off = (tgt : Int)) (kt : ¬ x = 0 → Vw g X nL n k ws tgt lv rest) (kf : x = 0 → Vw g X nL n k ws (pc + 3) lv rest) : Vw g X nL n k ws pc lv (.int x :: rest) := by
  obtain ⟨p, l', e, R, s, m, args, below, meth, c, Q, A⟩ := X
  obtain ⟨rfl, hx, hb, hml, hown, hts, hK, hlk, hA, hfr, hlo⟩ := C
  intro H locs ls hP hD hS hl
  exact lv_if_ne hx hb hd ht (fun h => kt h H locs ls hP hD hS hl) (fun h => kf h H locs ls hP hD hS hl)

theorem r_iflt {l : Launch} {g : Gl} {X : Cx} {own : String} {cc : ByteArray} {nL d n k pc : Nat} {ws : va_W} {lv : List (Nat × Value)} {rest : List Value} {x : Int32} {off : Int} (tgt : Nat) (C : Ok l g X own cc nL d) (hd : decode cc pc = .ok (.ifCond .lt off, 3)) (ht : (pc : Int) + off = (tgt : Int)) (kt : x < 0 → Vw g X nL n k ws tgt lv rest) (kf : ¬ x < 0 → Vw g X nL n k ws (pc + 3) lv rest) : Vw g X nL n k ws pc lv (.int x :: rest) := by
  obtain ⟨p, l', e, R, s, m, args, below, meth, c, Q, A⟩ := X
  obtain ⟨rfl, hx, hb, hml, hown, hts, hK, hlk, hA, hfr, hlo⟩ := C
  intro H locs ls hP hD hS hl
  exact lv_if_lt hx hb hd ht (fun h => kt h H locs ls hP hD hS hl) (fun h => kf h H locs ls hP hD hS hl)

theorem r_ifge {l : Launch} {g : Gl} {X : Cx} {own : String} {cc : ByteArray} {nL d n k pc : Nat} {ws : va_W} {lv : List (Nat × Value)} {rest : List Value} {x : Int32} {off : Int} (tgt : Nat) (C : Ok l g X own cc nL d) (hd : decode cc pc = .ok (.ifCond .ge off, 3)) (ht : (pc : Int) + off = (tgt : Int)) (kt : 0 ≤ x → Vw g X nL n k ws tgt lv rest) (kf : ¬ 0 ≤ x → Vw g X nL n k ws (pc + 3) lv rest) : Vw g X nL n k ws pc lv (.int x :: rest) := by
  obtain ⟨p, l', e, R, s, m, args, below, meth, c, Q, A⟩ := X
  obtain ⟨rfl, hx, hb, hml, hown, hts, hK, hlk, hA, hfr, hlo⟩ := C
  intro H locs ls hP hD hS hl
  exact lv_if_ge hx hb hd ht (fun h => kt h H locs ls hP hD hS hl) (fun h => kf h H locs ls hP hD hS hl)

theorem r_ifgt {l : Launch} {g : Gl} {X : Cx} {own : String} {cc : ByteArray} {nL d n k pc : Nat} {ws : va_W} {lv : List (Nat × Value)} {rest : List Value} {x : Int32} {off : Int} (tgt : Nat) (C : Ok l g X own cc nL d) (hd : decode cc pc = .ok (.ifCond .gt off, 3)) (ht : (pc : Int) + off = (tgt : Int)) (kt : 0 < x → Vw g X nL n k ws tgt lv rest) (kf : ¬ 0 < x → Vw g X nL n k ws (pc + 3) lv rest) : Vw g X nL n k ws pc lv (.int x :: rest) := by
  obtain ⟨p, l', e, R, s, m, args, below, meth, c, Q, A⟩ := X
  obtain ⟨rfl, hx, hb, hml, hown, hts, hK, hlk, hA, hfr, hlo⟩ := C
  intro H locs ls hP hD hS hl
  exact lv_if_gt hx hb hd ht (fun h => kt h H locs ls hP hD hS hl) (fun h => kf h H locs ls hP hD hS hl)

theorem r_ifle {l : Launch} {g : Gl} {X : Cx} {own : String} {cc : ByteArray} {nL d n k pc : Nat} {ws : va_W} {lv : List (Nat × Value)} {rest : List Value} {x : Int32} {off : Int} (tgt : Nat) (C : Ok l g X own cc nL d) (hd : decode cc pc = .ok (.ifCond .le off, 3)) (ht : (pc : Int) + off = (tgt : Int)) (kt : x ≤ 0 → Vw g X nL n k ws tgt lv rest) (kf : ¬ x ≤ 0 → Vw g X nL n k ws (pc + 3) lv rest) : Vw g X nL n k ws pc lv (.int x :: rest) := by
  obtain ⟨p, l', e, R, s, m, args, below, meth, c, Q, A⟩ := X
  obtain ⟨rfl, hx, hb, hml, hown, hts, hK, hlk, hA, hfr, hlo⟩ := C
  intro H locs ls hP hD hS hl
  exact lv_if_le hx hb hd ht (fun h => kt h H locs ls hP hD hS hl) (fun h => kf h H locs ls hP hD hS hl)

theorem r_icmpeq {l : Launch} {g : Gl} {X : Cx} {own : String} {cc : ByteArray} {nL d n k pc : Nat} {ws : va_W} {lv : List (Nat × Value)} {rest : List Value} {x y : Int32} {off : Int} (tgt : Nat) (C : Ok l g X own cc nL d) (hd : decode cc pc = .ok (.if_icmp .eq off, 3)) (ht : (pc : Int) + off = (tgt : Int)) (kt : x = y → Vw g X nL n k ws tgt lv rest) (kf : ¬ x = y → Vw g X nL n k ws (pc + 3) lv rest) : Vw g X nL n k ws pc lv (.int y :: .int x :: rest) := by
  obtain ⟨p, l', e, R, s, m, args, below, meth, c, Q, A⟩ := X
  obtain ⟨rfl, hx, hb, hml, hown, hts, hK, hlk, hA, hfr, hlo⟩ := C
  intro H locs ls hP hD hS hl
  exact lv_icmp_eq hx hb hd ht (fun h => kt h H locs ls hP hD hS hl) (fun h => kf h H locs ls hP hD hS hl)

theorem r_icmpne {l : Launch} {g : Gl} {X : Cx} {own : String} {cc : ByteArray} {nL d n k pc : Nat} {ws : va_W} {lv : List (Nat × Value)} {rest : List Value} {x y : Int32} {off : Int} (tgt : Nat) (C : Ok l g X own cc nL d) (hd : decode cc pc = .ok (.if_icmp .ne off, 3)) (ht : (pc : Int) + off = (tgt : Int)) (kt : ¬ x = y → Vw g X nL n k ws tgt lv rest) (kf : x = y → Vw g X nL n k ws (pc + 3) lv rest) : Vw g X nL n k ws pc lv (.int y :: .int x :: rest) := by
  obtain ⟨p, l', e, R, s, m, args, below, meth, c, Q, A⟩ := X
  obtain ⟨rfl, hx, hb, hml, hown, hts, hK, hlk, hA, hfr, hlo⟩ := C
  intro H locs ls hP hD hS hl
  exact lv_icmp_ne hx hb hd ht (fun h => kt h H locs ls hP hD hS hl) (fun h => kf h H locs ls hP hD hS hl)

theorem r_icmplt {l : Launch} {g : Gl} {X : Cx} {own : String} {cc : ByteArray} {nL d n k pc : Nat} {ws : va_W} {lv : List (Nat × Value)} {rest : List Value} {x y : Int32} {off : Int} (tgt : Nat) (C : Ok l g X own cc nL d) (hd : decode cc pc = .ok (.if_icmp .lt off, 3)) (ht : (pc : Int) + off = (tgt : Int)) (kt : x < y → Vw g X nL n k ws tgt lv rest) (kf : ¬ x < y → Vw g X nL n k ws (pc + 3) lv rest) : Vw g X nL n k ws pc lv (.int y :: .int x :: rest) := by
  obtain ⟨p, l', e, R, s, m, args, below, meth, c, Q, A⟩ := X
  obtain ⟨rfl, hx, hb, hml, hown, hts, hK, hlk, hA, hfr, hlo⟩ := C
  intro H locs ls hP hD hS hl
  exact lv_icmp_lt hx hb hd ht (fun h => kt h H locs ls hP hD hS hl) (fun h => kf h H locs ls hP hD hS hl)

theorem r_icmpge {l : Launch} {g : Gl} {X : Cx} {own : String} {cc : ByteArray} {nL d n k pc : Nat} {ws : va_W} {lv : List (Nat × Value)} {rest : List Value} {x y : Int32} {off : Int} (tgt : Nat) (C : Ok l g X own cc nL d) (hd : decode cc pc = .ok (.if_icmp .ge off, 3)) (ht : (pc : Int) + off = (tgt : Int)) (kt : y ≤ x → Vw g X nL n k ws tgt lv rest) (kf : ¬ y ≤ x → Vw g X nL n k ws (pc + 3) lv rest) : Vw g X nL n k ws pc lv (.int y :: .int x :: rest) := by
  obtain ⟨p, l', e, R, s, m, args, below, meth, c, Q, A⟩ := X
  obtain ⟨rfl, hx, hb, hml, hown, hts, hK, hlk, hA, hfr, hlo⟩ := C
  intro H locs ls hP hD hS hl
  exact lv_icmp_ge hx hb hd ht (fun h => kt h H locs ls hP hD hS hl) (fun h => kf h H locs ls hP hD hS hl)

theorem r_icmpgt {l : Launch} {g : Gl} {X : Cx} {own : String} {cc : ByteArray} {nL d n k pc : Nat} {ws : va_W} {lv : List (Nat × Value)} {rest : List Value} {x y : Int32} {off : Int} (tgt : Nat) (C : Ok l g X own cc nL d) (hd : decode cc pc = .ok (.if_icmp .gt off, 3)) (ht : (pc : Int) + off = (tgt : Int)) (kt : y < x → Vw g X nL n k ws tgt lv rest) (kf : ¬ y < x → Vw g X nL n k ws (pc + 3) lv rest) : Vw g X nL n k ws pc lv (.int y :: .int x :: rest) := by
  obtain ⟨p, l', e, R, s, m, args, below, meth, c, Q, A⟩ := X
  obtain ⟨rfl, hx, hb, hml, hown, hts, hK, hlk, hA, hfr, hlo⟩ := C
  intro H locs ls hP hD hS hl
  exact lv_icmp_gt hx hb hd ht (fun h => kt h H locs ls hP hD hS hl) (fun h => kf h H locs ls hP hD hS hl)

theorem r_icmple {l : Launch} {g : Gl} {X : Cx} {own : String} {cc : ByteArray} {nL d n k pc : Nat} {ws : va_W} {lv : List (Nat × Value)} {rest : List Value} {x y : Int32} {off : Int} (tgt : Nat) (C : Ok l g X own cc nL d) (hd : decode cc pc = .ok (.if_icmp .le off, 3)) (ht : (pc : Int) + off = (tgt : Int)) (kt : x ≤ y → Vw g X nL n k ws tgt lv rest) (kf : ¬ x ≤ y → Vw g X nL n k ws (pc + 3) lv rest) : Vw g X nL n k ws pc lv (.int y :: .int x :: rest) := by
  obtain ⟨p, l', e, R, s, m, args, below, meth, c, Q, A⟩ := X
  obtain ⟨rfl, hx, hb, hml, hown, hts, hK, hlk, hA, hfr, hlo⟩ := C
  intro H locs ls hP hD hS hl
  exact lv_icmp_le hx hb hd ht (fun h => kt h H locs ls hP hD hS hl) (fun h => kf h H locs ls hP hD hS hl)

theorem r_goto {l : Launch} {g : Gl} {X : Cx} {own : String} {cc : ByteArray} {nL d n k pc : Nat} {ws : va_W} {lv : List (Nat × Value)} {st : List Value} {off : Int} (tgt : Nat) (C : Ok l g X own cc nL d) (hd : decode cc pc = .ok (.goto off, 3)) (ht : (pc : Int) + off = (tgt : Int)) (kk : Vw g X nL n k ws tgt lv st) : Vw g X nL n k ws pc lv st := by
  obtain ⟨p, l', e, R, s, m, args, below, meth, c, Q, A⟩ := X
  obtain ⟨rfl, hx, hb, hml, hown, hts, hK, hlk, hA, hfr, hlo⟩ := C
  intro H locs ls hP hD hS hl
  exact lv_goto hx hb hd ht (kk H locs ls hP hD hS hl)

theorem r_topi {l : Launch} {g : Gl} {X : Cx} {own : String} {cc : ByteArray} {nL d n k pc : Nat} {ws : va_W} {lv : List (Nat × Value)} {rest : List Value} {x : Int32} (kk : ∀ z : Int32, z = x → Vw g X nL n k ws pc lv (.int z :: rest)) : Vw g X nL n k ws pc lv (.int x :: rest) := kk x rfl
theorem r_lv {l : Launch} {g : Gl} {X : Cx} {own : String} {cc : ByteArray} {nL d n k pc : Nat} {ws : va_W} {lv : List (Nat × Value)} {st : List Value} (lv' : List (Nat × Value)) (ks : List Nat) (h : lv_pick lv ks = lv') (kk : Vw g X nL n k ws pc lv' st) : Vw g X nL n k ws pc lv st := by
  obtain ⟨p, l', e, R, s, m, args, below, meth, c, Q, A⟩ := X
  exact fun H locs ls hP hD hS hl => kk H locs ls hP hD hS (lv_sub hl ks h)
theorem r_ws {l : Launch} {g : Gl} {X : Cx} {own : String} {cc : ByteArray} {nL d n k pc : Nat} {ws : va_W} {lv : List (Nat × Value)} {st : List Value} (ws' : va_W) (h : ws = ws') (kk : Vw g X nL n k ws' pc lv st) : Vw g X nL n k ws pc lv st := h ▸ kk
theorem r_st {l : Launch} {g : Gl} {X : Cx} {own : String} {cc : ByteArray} {nL d n k pc : Nat} {ws : va_W} {lv : List (Nat × Value)} {st : List Value} (st' : List Value) (h : st = st') (kk : Vw g X nL n k ws pc lv st') : Vw g X nL n k ws pc lv st := h ▸ kk
theorem r_tabIn {l : Launch} {g : Gl} {X : Cx} {own : String} {cc : ByteArray} {nL d n k pc : Nat} {ws : va_W} {lv : List (Nat × Value)} {rest : List Value} {dflt lo hi : Int} {offs : Array Int} {len : Nat} {x : Int32} (v : Int32) (off : Int) (tgt : Nat) (C : Ok l g X own cc nL d) (hd : decode cc pc = .ok (.tableswitch dflt lo hi offs, len)) (hxv : x = v) (h1 : ¬ v.toInt < lo) (h2 : ¬ hi < v.toInt) (ho : offs[(v.toInt - lo).toNat]? = some off) (ht : (pc : Int) + off = (tgt : Int)) (kk : Vw g X nL n k ws tgt lv rest) : Vw g X nL n k ws pc lv (.int x :: rest) := by
  obtain ⟨p, l', e, R, s, m, args, below, meth, c, Q, A⟩ := X
  obtain ⟨rfl, hx, hb, hml, hown, hts, hK, hlk, hA, hfr, hlo⟩ := C
  intro H locs ls hP hD hS hl
  subst hxv; exact lv_tableIn hx hb hd h1 h2 ho ht (kk H locs ls hP hD hS hl)
theorem r_tabOut {l : Launch} {g : Gl} {X : Cx} {own : String} {cc : ByteArray} {nL d n k pc : Nat} {ws : va_W} {lv : List (Nat × Value)} {rest : List Value} {dflt lo hi : Int} {offs : Array Int} {len : Nat} {x : Int32} (tgt : Nat) (C : Ok l g X own cc nL d) (hd : decode cc pc = .ok (.tableswitch dflt lo hi offs, len)) (h : x.toInt < lo ∨ hi < x.toInt) (ht : (pc : Int) + dflt = (tgt : Int)) (kk : Vw g X nL n k ws tgt lv rest) : Vw g X nL n k ws pc lv (.int x :: rest) := by
  obtain ⟨p, l', e, R, s, m, args, below, meth, c, Q, A⟩ := X
  obtain ⟨rfl, hx, hb, hml, hown, hts, hK, hlk, hA, hfr, hlo⟩ := C
  intro H locs ls hP hD hS hl
  exact lv_tableOut hx hb hd h ht (kk H locs ls hP hD hS hl)
theorem r_lookup {l : Launch} {g : Gl} {X : Cx} {own : String} {cc : ByteArray} {nL d n k pc : Nat} {ws : va_W} {lv : List (Nat × Value)} {rest : List Value} {dflt : Int} {ps : Array (Int × Int)} {len : Nat} {x : Int32} {off : Int} (tgt : Nat) (C : Ok l g X own cc nL d) (hd : decode cc pc = .ok (.lookupswitch dflt ps, len)) (hp : (ps.toList.zip (ps.toList.drop 1)).all (fun (a, next) => a.1 < next.1) = true) (ho : Op.lookupswitch.offset ps.toList dflt x.toInt = off) (ht : (pc : Int) + off = (tgt : Int)) (kk : Vw g X nL n k ws tgt lv rest) : Vw g X nL n k ws pc lv (.int x :: rest) := by
  obtain ⟨p, l', e, R, s, m, args, below, meth, c, Q, A⟩ := X
  obtain ⟨rfl, hx, hb, hml, hown, hts, hK, hlk, hA, hfr, hlo⟩ := C
  intro H locs ls hP hD hS hl
  exact lv_lookup hx hb hd hp ho ht (kk H locs ls hP hD hS hl)

def FL (own : String) (index ci kf : Nat) : Prop := ∃ (C : String) (T : u_T) (N : Nat), vwCl[ci]? = some (C, T, N) ∧ kf < N ∧ (∀ w ∈ u_ws C T N, w ∈ BIG) ∧ (T kf).1 = C ∧ (Cond.fieldLink own index C (T kf).2.1 (T kf).2.2.1 ∈ BIG ∨ ∃ host, Cond.fieldLinkNest own index C (T kf).2.1 (T kf).2.2.1 host ∈ NSL)
def FP (own : String) (index ci kf : Nat) (ty : FieldType) : Prop := ∃ (C : String) (T : u_T) (N : Nat), vwCl[ci]? = some (C, T, N) ∧ kf < N ∧ (∀ w ∈ u_ws C T N, w ∈ BIG) ∧ (T kf).1 = C ∧ (Cond.fieldLink own index C (T kf).2.1 (T kf).2.2.1 ∈ BIG ∨ ∃ host, Cond.fieldLinkNest own index C (T kf).2.1 (T kf).2.2.1 host ∈ NSL) ∧ (T kf).2.2.2 = false ∧ parseFieldDescriptor (T kf).2.2.1 = some ty ∧ (∃ ty0 : Nat → FieldType, ∀ k, k < N → parseFieldDescriptor (T k).2.2.1 = some (ty0 k)) ∧ (∀ a, a < N → ∀ b, b < N → a ≠ b → (T a).2.1 ≠ (T b).2.1)
def FF (own : String) (index ci kf : Nat) (ty : FieldType) : Prop := ∃ (T : u_T) (N : Nat), vwCl[ci]? = some (own, T, N) ∧ kf < N ∧ (∀ w ∈ u_ws own T N, w ∈ BIG) ∧ (T kf).1 = own ∧ Cond.fieldLink own index own (T kf).2.1 (T kf).2.2.1 ∈ BIG ∧ (T kf).2.2.2 = true ∧ parseFieldDescriptor (T kf).2.2.1 = some ty ∧ (∃ ty0 : Nat → FieldType, ∀ k, k < N → parseFieldDescriptor (T k).2.2.1 = some (ty0 k)) ∧ (∀ a, a < N → ∀ b, b < N → a ≠ b → (T a).2.1 ≠ (T b).2.1)

theorem r_get {l : Launch} {g : Gl} {X : Cx} {own : String} {cc : ByteArray} {nL d n k pc : Nat} {ws : va_W} {lv : List (Nat × Value)} {rest : List Value} {index ci kf a : Nat} {fs : List Value} {v : Value} (C : Ok l g X own cc nL d) (F : FL own index ci kf) (hd : decode cc pc = .ok (.getfield index, 3)) (q0 : Nat) (he : ws[q0]? = some (a, .inr (ci, fs))) (hv : fs[kf]? = some v) (kk : Vw g X nL n k ws (pc + 3) lv (v :: rest)) : Vw g X nL n k ws pc lv (.ref a :: rest) := by
  obtain ⟨p, l', e, R, s, m, args, below, meth, c, Q, A⟩ := X
  obtain ⟨rfl, hx, hb, hml, hown, hts, hK, hlk, hA, hfr, hlo⟩ := C
  intro H locs ls hP hD hS hl
  obtain ⟨Cn, T, N, hc, hk, hin, hC, hlink⟩ := F
  rcases hlink with hlink | ⟨host, hlink⟩
  · exact va_get hx hb hts hin hown hK.1 hP q0 he hc kf hk (hts _ hlink) (fun x h => by rw [hC] at h; exact h) hv hd (kk H locs ls hP hD hS hl)
  · exact va_getN hx hb hts hin hown hK.1 hP q0 he hc kf hk (va_Nw.use rfl (hK.2.1 _ hlink)) (fun x h => by rw [hC] at h; exact h) hv hd (kk H locs ls hP hD hS hl)
theorem r_put {l : Launch} {g : Gl} {X : Cx} {own : String} {cc : ByteArray} {nL d n k pc : Nat} {ws : va_W} {lv : List (Nat × Value)} {rest : List Value} {index ci kf a : Nat} {fs : List Value} {v : Value} {ty : FieldType} (ws' : va_W) (C : Ok l g X own cc nL d) (F : FP own index ci kf ty) (hd : decode cc pc = .ok (.putfield index, 3)) (q0 : Nat) (he : ws[q0]? = some (a, .inr (ci, fs))) (hl' : kf < fs.length) (hn : narrow ty v = v) (hfit : fits ty v = true) (hw : ws.set q0 (a, .inr (ci, fs.set kf v)) = ws') (kk : Vw g X nL n k ws' (pc + 3) lv rest) : Vw g X nL n k ws pc lv (v :: .ref a :: rest) := by
  obtain ⟨p, l', e, R, s, m, args, below, meth, c, Q, A⟩ := X
  obtain ⟨rfl, hx, hb, hml, hown, hts, hK, hlk, hA, hfr, hlo⟩ := C
  intro H locs ls hP hD hS hl
  subst hw
  obtain ⟨Cn, T, N, hc, hk, hin, hC, hlink, hfin, hdty, ⟨ty0, hty⟩, hnm⟩ := F
  rcases hlink with hlink | ⟨host, hlink⟩
  · exact va_put hx hb hts hin ty0 hty hnm hown hK.1 hP hD hS q0 he hc kf hk (hts _ hlink) (fun x h => by rw [hC] at h; exact h) hfin hdty hn hfit hl' hd (fun H1 locs1 hP1 hD1 hS1 => kk H1 locs1 ls hP1 hD1 hS1 hl)
  · exact va_putN hx hb hts hin ty0 hty hnm hown hK.1 hP hD hS q0 he hc kf hk (va_Nw.use rfl (hK.2.1 _ hlink)) (fun x h => by rw [hC] at h; exact h) hfin hdty hn hfit hl' hd (fun H1 locs1 hP1 hD1 hS1 => kk H1 locs1 ls hP1 hD1 hS1 hl)

theorem r_iald {l : Launch} {g : Gl} {X : Cx} {own : String} {cc : ByteArray} {nL d n k pc : Nat} {ws : va_W} {lv : List (Nat × Value)} {rest : List Value} {a N : Nat} {f : Nat → Int32} {x : Int32} (i : Nat) (C : Ok l g X own cc nL d) (hd : decode cc pc = .ok (.iaload, 1)) (q0 : Nat) (he : ws[q0]? = some (a, .inl (g.2.1, N, .inl f))) (hxi : x = nI i) (hi : i < N) (hN : N < 2 ^ 31) (kk : Vw g X nL n k ws (pc + 1) lv (.int (f i) :: rest)) : Vw g X nL n k ws pc lv (.int x :: .ref a :: rest) := by
  obtain ⟨p, l', e, R, s, m, args, below, meth, c, Q, A⟩ := X
  obtain ⟨rfl, hx, hb, hml, hown, hts, hK, hlk, hA, hfr, hlo⟩ := C
  intro H locs ls hP hD hS hl
  subst hxi
  refine va_iald hx hb hK.1 hP q0 0 he rfl (vp_in_nI hi hN) hd ?_
  rw [nI_clamp (Nat.lt_trans hi hN)]
  exact (kk H locs ls hP hD hS hl)

theorem r_bald {l : Launch} {g : Gl} {X : Cx} {own : String} {cc : ByteArray} {nL d n k pc : Nat} {ws : va_W} {lv : List (Nat × Value)} {rest : List Value} {a N : Nat} {f : Nat → Int32} {x : Int32} (i : Nat) (C : Ok l g X own cc nL d) (hd : decode cc pc = .ok (.baload, 1)) (q0 : Nat) (he : ws[q0]? = some (a, .inl (g.2.2.1, N, .inl f))) (hxi : x = nI i) (hi : i < N) (hN : N < 2 ^ 31) (kk : Vw g X nL n k ws (pc + 1) lv (.int (f i) :: rest)) : Vw g X nL n k ws pc lv (.int x :: .ref a :: rest) := by
  obtain ⟨p, l', e, R, s, m, args, below, meth, c, Q, A⟩ := X
  obtain ⟨rfl, hx, hb, hml, hown, hts, hK, hlk, hA, hfr, hlo⟩ := C
  intro H locs ls hP hD hS hl
  subst hxi
  refine va_bald hx hb hK.1 hP q0 1 he rfl (vp_in_nI hi hN) hd ?_
  rw [nI_clamp (Nat.lt_trans hi hN)]
  exact (kk H locs ls hP hD hS hl)

theorem r_zald {l : Launch} {g : Gl} {X : Cx} {own : String} {cc : ByteArray} {nL d n k pc : Nat} {ws : va_W} {lv : List (Nat × Value)} {rest : List Value} {a N : Nat} {f : Nat → Int32} {x : Int32} (i : Nat) (C : Ok l g X own cc nL d) (hd : decode cc pc = .ok (.baload, 1)) (q0 : Nat) (he : ws[q0]? = some (a, .inl (g.2.2.2.1, N, .inl f))) (hxi : x = nI i) (hi : i < N) (hN : N < 2 ^ 31) (kk : Vw g X nL n k ws (pc + 1) lv (.int (f i) :: rest)) : Vw g X nL n k ws pc lv (.int x :: .ref a :: rest) := by
  obtain ⟨p, l', e, R, s, m, args, below, meth, c, Q, A⟩ := X
  obtain ⟨rfl, hx, hb, hml, hown, hts, hK, hlk, hA, hfr, hlo⟩ := C
  intro H locs ls hP hD hS hl
  subst hxi
  refine va_zald hx hb hK.1 hP q0 2 he rfl (vp_in_nI hi hN) hd ?_
  rw [nI_clamp (Nat.lt_trans hi hN)]
  exact (kk H locs ls hP hD hS hl)

theorem r_iast {l : Launch} {g : Gl} {X : Cx} {own : String} {cc : ByteArray} {nL d n k pc : Nat} {ws : va_W} {lv : List (Nat × Value)} {rest : List Value} {a N : Nat} {f : Nat → Int32} {x v : Int32} (i : Nat) (ws' : va_W) (C : Ok l g X own cc nL d) (hd : decode cc pc = .ok (.iastore, 1)) (q0 : Nat) (he : ws[q0]? = some (a, .inl (g.2.1, N, .inl f))) (hxi : x = nI i) (hi : i < N) (hN : N < 2 ^ 31) (hw : ws.set q0 (a, .inl (g.2.1, N, .inl (upd f i v))) = ws') (kk : Vw g X nL n k ws' (pc + 1) lv rest) : Vw g X nL n k ws pc lv (.int v :: .int x :: .ref a :: rest) := by
  obtain ⟨p, l', e, R, s, m, args, below, meth, c, Q, A⟩ := X
  obtain ⟨rfl, hx, hb, hml, hown, hts, hK, hlk, hA, hfr, hlo⟩ := C
  intro H locs ls hP hD hS hl
  subst hxi; subst hw
  refine va_iast hx hb hK.1 hP hD hS q0 0 he rfl (vp_in_nI hi hN) hd (fun H1 locs1 hP1 hD1 hS1 => ?_)
  rw [nI_clamp (Nat.lt_trans hi hN)] at hP1 hD1
  exact kk H1 locs1 ls hP1 hD1 hS1 hl

theorem r_bast {l : Launch} {g : Gl} {X : Cx} {own : String} {cc : ByteArray} {nL d n k pc : Nat} {ws : va_W} {lv : List (Nat × Value)} {rest : List Value} {a N : Nat} {f : Nat → Int32} {x v : Int32} (i : Nat) (ws' : va_W) (C : Ok l g X own cc nL d) (hd : decode cc pc = .ok (.bastore, 1)) (q0 : Nat) (he : ws[q0]? = some (a, .inl (g.2.2.1, N, .inl f))) (hxi : x = nI i) (hi : i < N) (hN : N < 2 ^ 31) (hw : ws.set q0 (a, .inl (g.2.2.1, N, .inl (upd f i (vp_nar .byte v)))) = ws') (kk : Vw g X nL n k ws' (pc + 1) lv rest) : Vw g X nL n k ws pc lv (.int v :: .int x :: .ref a :: rest) := by
  obtain ⟨p, l', e, R, s, m, args, below, meth, c, Q, A⟩ := X
  obtain ⟨rfl, hx, hb, hml, hown, hts, hK, hlk, hA, hfr, hlo⟩ := C
  intro H locs ls hP hD hS hl
  subst hxi; subst hw
  refine va_bast hx hb hK.1 hP hD hS q0 1 he rfl (vp_in_nI hi hN) hd (fun H1 locs1 hP1 hD1 hS1 => ?_)
  rw [nI_clamp (Nat.lt_trans hi hN)] at hP1 hD1
  exact kk H1 locs1 ls hP1 hD1 hS1 hl

theorem r_zast {l : Launch} {g : Gl} {X : Cx} {own : String} {cc : ByteArray} {nL d n k pc : Nat} {ws : va_W} {lv : List (Nat × Value)} {rest : List Value} {a N : Nat} {f : Nat → Int32} {x v : Int32} (i : Nat) (ws' : va_W) (C : Ok l g X own cc nL d) (hd : decode cc pc = .ok (.bastore, 1)) (q0 : Nat) (he : ws[q0]? = some (a, .inl (g.2.2.2.1, N, .inl f))) (hxi : x = nI i) (hi : i < N) (hN : N < 2 ^ 31) (hw : ws.set q0 (a, .inl (g.2.2.2.1, N, .inl (upd f i (vp_nar .boolean v)))) = ws') (kk : Vw g X nL n k ws' (pc + 1) lv rest) : Vw g X nL n k ws pc lv (.int v :: .int x :: .ref a :: rest) := by
  obtain ⟨p, l', e, R, s, m, args, below, meth, c, Q, A⟩ := X
  obtain ⟨rfl, hx, hb, hml, hown, hts, hK, hlk, hA, hfr, hlo⟩ := C
  intro H locs ls hP hD hS hl
  subst hxi; subst hw
  refine va_zast hx hb hK.1 hP hD hS q0 2 he rfl (vp_in_nI hi hN) hd (fun H1 locs1 hP1 hD1 hS1 => ?_)
  rw [nI_clamp (Nat.lt_trans hi hN)] at hP1 hD1
  exact kk H1 locs1 ls hP1 hD1 hS1 hl

theorem r_aald {l : Launch} {g : Gl} {X : Cx} {own : String} {cc : ByteArray} {nL d n k pc : Nat} {ws : va_W} {lv : List (Nat × Value)} {rest : List Value} {a N q : Nat} {f : Nat → Option Nat} {x : Int32} (i : Nat) (C : Ok l g X own cc nL d) (hd : decode cc pc = .ok (.aaload, 1)) (q0 : Nat) (he : ws[q0]? = some (a, .inl (g.2.2.2.2, N, .inr (.inr (.inr (.inr f)))))) (hxi : x = nI i) (hi : i < N) (hN : N < 2 ^ 31) (hf : f i = some q) (kk : Vw g X nL n k ws (pc + 1) lv (.ref q :: rest)) : Vw g X nL n k ws pc lv (.int x :: .ref a :: rest) := by
  obtain ⟨p, l', e, R, s, m, args, below, meth, c, Q, A⟩ := X
  obtain ⟨rfl, hx, hb, hml, hown, hts, hK, hlk, hA, hfr, hlo⟩ := C
  intro H locs ls hP hD hS hl
  subst hxi
  refine va_aldq hx hb hK.1 hP q0 3 he rfl (vp_in_nI hi hN) hd ?_
  rw [nI_clamp (Nat.lt_trans hi hN), hf]
  exact (kk H locs ls hP hD hS hl)
theorem r_mmin {l : Launch} {g : Gl} {X : Cx} {own : String} {cc : ByteArray} {nL d n k pc : Nat} {ws : va_W} {lv : List (Nat × Value)} {rest : List Value} {index : Nat} {x y : Int32} (C : Ok l g X own cc nL d) (hd : decode cc pc = .ok (.invokestatic index, 3)) (hlink : Cond.methodLink own index Lib.Math.min.name ∈ BIG) (hstat : Cond.static Lib.Math.min.name ∈ BIG) (hini : Cond.initialized "java/lang/Math" ∈ BIG) (hcode : Cond.code Lib.Math.min.name Lib.Math.min.code 2 (some .int) ∈ BIG) (hd1 : 1 ≤ d) (hcat : (rest.map fun v => v.category).sum ≤ 8) (hnk : n ≤ cellsX X ∧ k ≤ slotsX X) (kk : Vw g X nL n k ws (pc + 3) lv (.int (if y < x then y else x) :: rest)) : Vw g X nL n k ws pc lv (.int y :: .int x :: rest) := by
  obtain ⟨p, l', e, R, s, m, args, below, meth, c, Q, A⟩ := X
  obtain ⟨rfl, hx, hb, hml, hown, hts, hK, hlk, hA, hfr, hlo⟩ := C
  intro H locs ls hP hD hS hl
  have hf1 : 1 ≤ R.frames := by omega
  have hf2 : (rest.map fun v => v.category).sum + 13 ≤ R.locals := by omega
  exact va_mmin hx hb (hml.trans hl.1.symm) hown (hts _ hlink) (hts _ hstat) (hts _ hini) (hts _ hcode) hf1 hf2 hnk.1 hnk.2 hd (kk H locs ls hP hD hS hl)
theorem r_mmax {l : Launch} {g : Gl} {X : Cx} {own : String} {cc : ByteArray} {nL d n k pc : Nat} {ws : va_W} {lv : List (Nat × Value)} {rest : List Value} {index : Nat} {x y : Int32} (C : Ok l g X own cc nL d) (hd : decode cc pc = .ok (.invokestatic index, 3)) (hlink : Cond.methodLink own index Lib.Math.max.name ∈ BIG) (hstat : Cond.static Lib.Math.max.name ∈ BIG) (hini : Cond.initialized "java/lang/Math" ∈ BIG) (hcode : Cond.code Lib.Math.max.name Lib.Math.max.code 2 (some .int) ∈ BIG) (hd1 : 1 ≤ d) (hcat : (rest.map fun v => v.category).sum ≤ 8) (hnk : n ≤ cellsX X ∧ k ≤ slotsX X) (kk : Vw g X nL n k ws (pc + 3) lv (.int (if x < y then y else x) :: rest)) : Vw g X nL n k ws pc lv (.int y :: .int x :: rest) := by
  obtain ⟨p, l', e, R, s, m, args, below, meth, c, Q, A⟩ := X
  obtain ⟨rfl, hx, hb, hml, hown, hts, hK, hlk, hA, hfr, hlo⟩ := C
  intro H locs ls hP hD hS hl
  have hf1 : 1 ≤ R.frames := by omega
  have hf2 : (rest.map fun v => v.category).sum + 13 ≤ R.locals := by omega
  exact va_mmax hx hb (hml.trans hl.1.symm) hown (hts _ hlink) (hts _ hstat) (hts _ hini) (hts _ hcode) hf1 hf2 hnk.1 hnk.2 hd (kk H locs ls hP hD hS hl)
theorem r_copyi {l : Launch} {g : Gl} {X : Cx} {own : String} {cc : ByteArray} {nL d n k pc : Nat} {ws : va_W} {lv : List (Nat × Value)} {rest : List Value} {index a a0 n0 n1 : Nat} {f h : Nat → Int32} {x y z : Int32} (N : Nat) (ws' : va_W) (C : Ok l g X own cc nL d) (hd : decode cc pc = .ok (.invokestatic index, 3)) (hlink : Cond.methodLink own index arraycopyName ∈ BIG) (hnat : Cond.native arraycopyName ∈ BIG) (hstat : Cond.static arraycopyName ∈ BIG) (hini : Cond.initialized "java/lang/System" ∈ BIG) (hd1 : 1 ≤ d) (q0 q1 : Nat) (ha0 : ws[q0]? = some (a0, .inl (g.2.1, n0, .inl f))) (ha1 : ws[q1]? = some (a, .inl (g.2.1, n1, .inl h))) (hx0 : x = nI 0) (hy0 : y = nI 0) (hzN : z = nI N) (hN0 : N ≤ n0) (hN1 : N ≤ n1) (hN2 : N < 2 ^ 31) (hcat : (rest.map fun v => v.category).sum ≤ 8) (hw : ws.set q1 (a, .inl (g.2.1, n1, .inl (va_cpy f h 0 0 N))) = ws') (kk : Vw g X nL n k ws' (pc + 3) lv rest) : Vw g X nL n k ws pc lv (.int z :: .int y :: .ref a :: .int x :: .ref a0 :: rest) := by
  obtain ⟨p, l', e, R, s, m, args, below, meth, c, Q, A⟩ := X
  obtain ⟨rfl, hx, hb, hml, hown, hts, hK, hlk, hA, hfr, hlo⟩ := C
  intro H locs ls hP hD hS hl
  subst hx0; subst hy0; subst hzN; subst hw
  have e0 : (nI 0).toNatClampNeg = 0 := nI_clamp (by decide)
  have eN : (nI N).toNatClampNeg = N := nI_clamp hN2
  have hnw : nativeFrameWords "java/lang/System" "arraycopy" 5 + 11 ≤ 30 := by decide
  refine va_copyi hx hb (hml.trans hl.1.symm) hown (hts _ hlink) (hts _ hnat) (hts _ hstat) (hts _ hini) hK.1 hP hD hS q0 q1 0 0 ha0 ha1 rfl rfl rfl (nI_pos (by decide)) (nI_pos (by decide)) (nI_pos hN2) (by rw [e0, eN]; omega) (by rw [e0, eN]; omega) (fun _ _ => rfl) (by omega) (by omega) hd (fun H1 locs1 hP1 hD1 hS1 => ?_)
  rw [e0, eN] at hP1 hD1
  exact kk H1 locs1 ls hP1 hD1 hS1 hl

def setL : va_W → List Nat → va_W → va_W
  | ws, i :: is, w :: w1 => setL (ws.set i w) is w1
  | ws, _, _ => ws
theorem setL_get : ∀ (is : List Nat) (w1 ws : va_W) (j : Nat) (q : Nat × va_E), (setL ws is w1)[j]? = some q → q ∈ w1 ∨ ((j ∉ is ∨ w1.length < is.length) ∧ ws[j]? = some q)
  | [], _, ws, j, q, h => by
    rw [setL] at h
    · exact Or.inr ⟨Or.inl (List.not_mem_nil), h⟩
    · simp
  | i :: is, [], ws, j, q, h => by
    rw [setL] at h
    · exact Or.inr ⟨Or.inr (by simp), h⟩
    · simp
  | i :: is, w :: w1, ws, j, q, h => by
    rw [setL] at h
    rcases setL_get is w1 (ws.set i w) j q h with h1 | ⟨h1, h2⟩
    · exact Or.inl (List.mem_cons_of_mem _ h1)
    · by_cases hj : j = i
      · subst hj
        by_cases hlt : j < ws.length
        · rw [List.getElem?_set_self hlt] at h2
          cases h2
          exact Or.inl List.mem_cons_self
        · rw [List.getElem?_eq_none (by rw [List.length_set]; omega)] at h2
          cases h2
      · rw [List.getElem?_set_ne (fun e => hj e.symm)] at h2
        refine Or.inr ⟨?_, h2⟩
        rcases h1 with h1 | h1
        · exact Or.inl (by simp [hj, h1])
        · exact Or.inr (by simp only [List.length_cons]; omega)
theorem setL_fst : ∀ (is : List Nat) (w1 ws : va_W), is.map (fun i => (ws.map Prod.fst)[i]?) = w1.map (fun q => some q.1) → (setL ws is w1).map Prod.fst = ws.map Prod.fst
  | [], _, ws, h => by rw [setL]; simp
  | i :: is, [], ws, h => by simp at h
  | i :: is, w :: w1, ws, h => by
    rw [setL]
    simp only [List.map_cons, List.cons.injEq] at h
    have e : (ws.set i w).map Prod.fst = ws.map Prod.fst := by
      apply List.ext_getElem?
      intro j
      rw [List.map_set]
      by_cases hj : j = i
      · subst hj
        rw [h.1]
        have hlt := (List.getElem?_eq_some_iff.mp h.1).1
        rw [List.getElem?_set_self hlt]
      · rw [List.getElem?_set_ne (fun e => hj e.symm)]
    rw [setL_fst is w1 (ws.set i w) (by rw [e]; exact h.2), e]
theorem va_D_fst {A : Nat → Prop} {ws ws' : va_W} (e : ws'.map Prod.fst = ws.map Prod.fst) (h : va_D A ws) : va_D A ws' := by
  have back : ∀ (k : Nat) (q : Nat × va_E), ws'[k]? = some q → ∃ q', ws[k]? = some q' ∧ q'.1 = q.1 := by
    intro k q hq
    have h1 : (ws'.map Prod.fst)[k]? = some q.1 := by rw [List.getElem?_map, hq]; rfl
    rw [e, List.getElem?_map] at h1
    cases hw : ws[k]? with
    | none => rw [hw] at h1; cases h1
    | some q' => rw [hw] at h1; exact ⟨q', rfl, Option.some.inj h1⟩
  refine ⟨fun i j p q hp hq hpq => ?_, fun k q hq => ?_⟩
  · obtain ⟨p', h1, h2⟩ := back i p hp
    obtain ⟨q', h3, h4⟩ := back j q hq
    exact h.1 i j p' q' h1 h3 (by rw [h2, h4, hpq])
  · obtain ⟨q', h1, h2⟩ := back k q hq
    rw [← h2]; exact h.2 k q' h1
theorem is_at {ws wc : va_W} {is : List Nat} (hs : is.map (fun i => ws[i]?) = wc.map some) (k : Nat) (q : Nat × va_E) (hq : wc[k]? = some q) : ∃ i, is[k]? = some i ∧ ws[i]? = some q := by
  have h1 : (is.map (fun i => ws[i]?))[k]? = some (some q) := by rw [hs, List.getElem?_map, hq]; rfl
  rw [List.getElem?_map] at h1
  cases hi : is[k]? with
  | none => rw [hi] at h1; cases h1
  | some i => rw [hi] at h1; exact ⟨i, rfl, Option.some.inj h1⟩
theorem is_len {ws wc : va_W} {is : List Nat} (hs : is.map (fun i => ws[i]?) = wc.map some) : is.length = wc.length := by
  have := congrArg List.length hs
  simpa using this
/-- behind a call whose world keeps its addresses: those places are set, all others stay -/
theorem fj {A0 : Nat → Prop} {D : va_G} {cl : List vw_C} {ws wc w1 : va_W} {H H1 : Heap} (hP : va_P D cl ws H) (hD : va_D A0 ws) (isC : List Nat) (hC : isC.map (fun i => ws[i]?) = wc.map some) (ha : w1.map Prod.fst = wc.map Prod.fst)
    (hk : ∀ q : Nat, q < H.size → ¬ va_A wc H.size q → H1[q]? = H[q]?) (hP1 : va_P D cl w1 H1) : va_P D cl (setL ws isC w1) H1 ∧ va_D A0 (setL ws isC w1) := by
  have hlen : w1.length = isC.length := by
    have h1 := congrArg List.length ha
    simp only [List.length_map] at h1
    rw [h1, is_len hC]
  refine ⟨fun j q hq => ?_, va_D_fst (setL_fst isC w1 ws ?_) hD⟩
  · rcases setL_get isC w1 ws j q hq with h | ⟨h, h2⟩
    · obtain ⟨k, hk1⟩ := List.getElem?_of_mem h
      exact hP1 k q hk1
    · have hj : j ∉ isC := by
        rcases h with h | h
        · exact h
        · omega
      have hl := (hP j q h2).lt
      refine (hP j q h2).kept (hk q.1 hl (fun hA => ?_))
      rcases hA with ⟨k2, e, h3⟩ | h3
      · obtain ⟨i, h4, h5⟩ := is_at hC k2 (q.1, e) h3
        have hij := hD.1 j i q (q.1, e) h2 h5 rfl
        subst hij
        exact hj (List.mem_of_getElem? h4)
      · omega
  · have e1 : isC.map (fun i => (ws.map Prod.fst)[i]?) = (isC.map (fun i => ws[i]?)).map (fun o => o.map Prod.fst) := by
      rw [List.map_map]
      apply List.map_congr_left
      intro i _
      simp [List.getElem?_map]
    rw [e1, hC, List.map_map]
    have e2 : w1.map (fun q => some q.1) = (w1.map Prod.fst).map some := by rw [List.map_map]; rfl
    rw [e2, ha, List.map_map]
    rfl
/-- behind a call that changes nothing -/
theorem fjP {A0 : Nat → Prop} {D : va_G} {cl : List vw_C} {ws wc : va_W} {H H1 : Heap} (hP : va_P D cl ws H) (hD : va_D A0 ws) (isC : List Nat) (hC : isC.map (fun i => ws[i]?) = wc.map some)
    (hk : ∀ q : Nat, q < H.size → ¬ va_A wc H.size q → H1[q]? = H[q]?) (hP1 : va_P D cl wc H1) : va_P D cl ws H1 := by
  intro j q h2
  have hl := (hP j q h2).lt
  by_cases hA : va_A wc H.size q.1
  · rcases hA with ⟨k2, e, h3⟩ | h3
    · obtain ⟨i, h4, h5⟩ := is_at hC k2 (q.1, e) h3
      have hij := hD.1 j i q (q.1, e) h2 h5 rfl
      subst hij
      have : q = (q.1, e) := Option.some.inj (h2.symm.trans h5)
      rw [this]
      exact hP1 k2 _ h3
    · omega
  · exact (hP j q h2).kept (hk q.1 hl hA)

abbrev PreW (g : Gl) (W0 : va_W) (sz : Nat) : State → Prop := fun U => U.heap.size = sz ∧ va_P g.1 vwCl W0 U.heap ∧ KK g U ∧ va_D (fun _ => True) W0
def CtI (l : Launch) (g : Gl) (y : MethodName) (cc : ByteArray) (nL : Nat) (ret : Option FieldType) (d : Nat) (av : List Value) (W0 : va_W) (r : Int32) (W1 : va_W) : Prop :=
  ∀ sz : Nat, Met l y (.code y cc nL ret :: BIG) (rmq d 0 0) (va_Pc av (PreW g W0 sz)) (va_Qi (fun r' (_ : Unit) => r' = r) (fun _ t => va_P g.1 vwCl W1 t.heap) (va_A W0 sz)) 0 0 (va_A W0 sz)
def CtL (l : Launch) (g : Gl) (y : MethodName) (cc : ByteArray) (nL : Nat) (ret : Option FieldType) (d : Nat) (av : List Value) (W0 : va_W) (r : Int64) (W1 : va_W) : Prop :=
  ∀ sz : Nat, Met l y (.code y cc nL ret :: BIG) (rmq d 0 0) (va_Pc av (PreW g W0 sz)) (va_Ql (fun r' (_ : Unit) => r' = r) (fun _ t => va_P g.1 vwCl W1 t.heap) (va_A W0 sz)) 0 0 (va_A W0 sz)
def CtV (l : Launch) (g : Gl) (y : MethodName) (cc : ByteArray) (nL : Nat) (d : Nat) (av : List Value) (W0 : va_W) (W1 : va_W) : Prop :=
  ∀ sz : Nat, Met l y (.code y cc nL none :: BIG) (rmq d 0 0) (va_Pc av (PreW g W0 sz)) (va_Qv (fun (_ : Unit) => True) (fun _ t => va_P g.1 vwCl W1 t.heap) (va_A W0 sz)) 0 0 (va_A W0 sz)
theorem PreW.blind {g : Gl} {W0 : va_W} {sz : Nat} {av : List Value} : FrameBlind (va_Pc av (PreW g W0 sz)) := by
  intro a U f mk q
  obtain ⟨q0, q1, qP, qK, qD⟩ := q
  exact ⟨q0, q1, qP, qK.calling, qD⟩

theorem mkI {l : Launch} {g : Gl} {y : MethodName} {cc : ByteArray} {nL d : Nat} {av : List Value} {W0 W1 : va_W} {r : Int32} {ret : Option FieldType} (ty : FieldType) (hret : ret = some ty) (hn : narrow ty (.int r) = .int r) (lv0 : List (Nat × Value)) (hy : plainName y.cls = true) (hlen : (lg_sl av).length ≤ nL) (hlv : lv_args 0 av = lv0) (body : ∀ X : Cx, Ok l g X y.cls cc nL d → RetI g X cc nL 0 0 r W1 → Vw g X nL 0 0 W0 0 lv0 []) : CtI l g y cc nL ret d av W0 r W1 := by
  intro sz
  refine Met.ofW (cc := cc) (maxL := nL) (ret := ret) hy rfl ?_
  intro p e s m args below meth c s₁ B hml hv
  obtain ⟨rfl, hsz, hP, hK, hD0⟩ := hv
  have hts := atoms_spec (ws := .code y cc nL ret :: BIG) B.pre
  have hown := findClass_of_methodNamed B.named
  subst hsz
  have hD := hD0.self (sz := s.heap.size)
  have hA : ∀ q : Nat, s.heap.size ≤ q → va_A W0 s.heap.size q := fun q h => Or.inr h
  have hS : va_S (va_A W0 s.heap.size) s.heap s.heap [] := va_S.rf
  have hl := lv_entry av (n := nL) hlen
  rw [lg_entry_eq]
  rw [hlv] at hl
  refine body (p, l, e, rmq d 0 0, s, m, av.toArray, below, meth, c, MQ below (va_Qi (fun r' (_ : Unit) => r' = r) (fun _ t => va_P g.1 vwCl W1 t.heap) (va_A W0 s.heap.size)) av.toArray s 0 0 (va_A W0 s.heap.size), va_A W0 s.heap.size) ⟨rfl, B.exec, B.bytes, hml, hown, fun w hw => hts w (List.mem_cons_of_mem _ hw), hK, B.notSynchronized, hA, Nat.le_refl _, Nat.le_refl _⟩ ?_ s.heap [] _ hP hD hS hl
  intro pc lv hd H locs ls hP hD hS hl
  exact W.zret (ty := ty) B.exec B.bytes (B.returns.trans hret) hn (fun t ht hW => ⟨⟨r, (), rfl, rfl, by show va_P g.1 vwCl W1 t.heap; rw [ht]; exact hP⟩, hS.F ht⟩) hS.2.2 hd B.notSynchronized

theorem mkL {l : Launch} {g : Gl} {y : MethodName} {cc : ByteArray} {nL d : Nat} {av : List Value} {W0 W1 : va_W} {r : Int64} (lv0 : List (Nat × Value)) (hy : plainName y.cls = true) (hlen : (lg_sl av).length ≤ nL) (hlv : lv_args 0 av = lv0) (body : ∀ X : Cx, Ok l g X y.cls cc nL d → RetL g X cc nL 0 0 r W1 → Vw g X nL 0 0 W0 0 lv0 []) : CtL l g y cc nL (some .long) d av W0 r W1 := by
  intro sz
  refine Met.ofW (cc := cc) (maxL := nL) (ret := some .long) hy rfl ?_
  intro p e s m args below meth c s₁ B hml hv
  obtain ⟨rfl, hsz, hP, hK, hD0⟩ := hv
  have hts := atoms_spec (ws := .code y cc nL (some .long) :: BIG) B.pre
  have hown := findClass_of_methodNamed B.named
  subst hsz
  have hD := hD0.self (sz := s.heap.size)
  have hA : ∀ q : Nat, s.heap.size ≤ q → va_A W0 s.heap.size q := fun q h => Or.inr h
  have hS : va_S (va_A W0 s.heap.size) s.heap s.heap [] := va_S.rf
  have hl := lv_entry av (n := nL) hlen
  rw [lg_entry_eq]
  rw [hlv] at hl
  refine body (p, l, e, rmq d 0 0, s, m, av.toArray, below, meth, c, MQ below (va_Ql (fun r' (_ : Unit) => r' = r) (fun _ t => va_P g.1 vwCl W1 t.heap) (va_A W0 s.heap.size)) av.toArray s 0 0 (va_A W0 s.heap.size), va_A W0 s.heap.size) ⟨rfl, B.exec, B.bytes, hml, hown, fun w hw => hts w (List.mem_cons_of_mem _ hw), hK, B.notSynchronized, hA, Nat.le_refl _, Nat.le_refl _⟩ ?_ s.heap [] _ hP hD hS hl
  intro pc lv hd H locs ls hP hD hS hl
  exact W.lret B.exec B.bytes B.returns (fun t ht hW => ⟨⟨r, (), rfl, rfl, by show va_P g.1 vwCl W1 t.heap; rw [ht]; exact hP⟩, hS.F ht⟩) hS.2.2 hd B.notSynchronized

theorem mkV {l : Launch} {g : Gl} {y : MethodName} {cc : ByteArray} {nL d : Nat} {av : List Value} {W0 W1 : va_W}  (lv0 : List (Nat × Value)) (hy : plainName y.cls = true) (hlen : (lg_sl av).length ≤ nL) (hlv : lv_args 0 av = lv0) (body : ∀ X : Cx, Ok l g X y.cls cc nL d → RetV g X cc nL 0 0 W1 → Vw g X nL 0 0 W0 0 lv0 []) : CtV l g y cc nL d av W0 W1 := by
  intro sz
  refine Met.ofW (cc := cc) (maxL := nL) (ret := none) hy rfl ?_
  intro p e s m args below meth c s₁ B hml hv
  obtain ⟨rfl, hsz, hP, hK, hD0⟩ := hv
  have hts := atoms_spec (ws := .code y cc nL (none) :: BIG) B.pre
  have hown := findClass_of_methodNamed B.named
  subst hsz
  have hD := hD0.self (sz := s.heap.size)
  have hA : ∀ q : Nat, s.heap.size ≤ q → va_A W0 s.heap.size q := fun q h => Or.inr h
  have hS : va_S (va_A W0 s.heap.size) s.heap s.heap [] := va_S.rf
  have hl := lv_entry av (n := nL) hlen
  rw [lg_entry_eq]
  rw [hlv] at hl
  refine body (p, l, e, rmq d 0 0, s, m, av.toArray, below, meth, c, MQ below (va_Qv (fun (_ : Unit) => True) (fun _ t => va_P g.1 vwCl W1 t.heap) (va_A W0 s.heap.size)) av.toArray s 0 0 (va_A W0 s.heap.size), va_A W0 s.heap.size) ⟨rfl, B.exec, B.bytes, hml, hown, fun w hw => hts w (List.mem_cons_of_mem _ hw), hK, B.notSynchronized, hA, Nat.le_refl _, Nat.le_refl _⟩ ?_ s.heap [] _ hP hD hS hl
  intro pc lv hd H locs ls hP hD hS hl
  exact W.vret B.exec B.bytes B.returns (fun t ht hW => ⟨⟨(), rfl, trivial, by show va_P g.1 vwCl W1 t.heap; rw [ht]; exact hP⟩, hS.F ht⟩) hS.2.2 hd B.notSynchronized

def MLV (own : String) (index : Nat) (y : MethodName) (cc : ByteArray) (nL : Nat) (ret : Option FieldType) (np ci : Nat) : Prop := (Cond.methodLink own index y ∈ BIG ∨ ∃ host, Cond.methodLinkNest own index y host ∈ NSL) ∧ Cond.instanceMethod y ∈ BIG ∧ Cond.selects y.cls y y ∈ BIG ∧ Cond.initialized y.cls ∈ BIG ∧ Cond.code y cc nL ret ∈ BIG ∧ (y.cls ≠ "java/lang/invoke/MethodHandle" ∧ y.cls ≠ "java/lang/invoke/VarHandle" ∧ (parseMethodDescriptor y.desc).map (fun d => d.parameters.length) = some np) ∧ (∃ (T : u_T) (N : Nat), vwCl[ci]? = some (y.cls, T, N)) ∧ nL ≤ 19
def MLS (own : String) (index : Nat) (y : MethodName) (cc : ByteArray) (nL : Nat) (ret : Option FieldType) (np : Nat) : Prop := (Cond.methodLink own index y ∈ BIG ∨ ∃ host, Cond.methodLinkNest own index y host ∈ NSL) ∧ Cond.static y ∈ BIG ∧ Cond.initialized y.cls ∈ BIG ∧ Cond.code y cc nL ret ∈ BIG ∧ (y.cls ≠ "java/lang/invoke/MethodHandle" ∧ y.cls ≠ "java/lang/invoke/VarHandle" ∧ (parseMethodDescriptor y.desc).map (fun d => d.parameters.length) = some np) ∧ nL ≤ 19
theorem good_cons {w : Cond} {ws : List Cond} (h : w ∈ BIG) (h2 : GoodIn BIG ws) : GoodIn BIG (w :: ws) := by
  intro v hv
  rcases List.mem_cons.mp hv with rfl | hv
  · exact ⟨h, BIG_good h⟩
  · exact h2 v hv
theorem good_BIG : GoodIn BIG BIG := fun v hv => ⟨hv, BIG_good hv⟩

theorem v_cI {l : Launch} {g : Gl} {X : Cx} {own : String} {cc : ByteArray} {nL d n k pc : Nat} {ws : va_W} {lv : List (Nat × Value)} {rest : List Value} {index : Nat} {y : MethodName} {cc2 : ByteArray} {nL2 d2 b ci : Nat} {As st : List Value} {Wc : va_W} {W1 : va_W} (ws' : va_W) {r : Int32} {ret : Option FieldType} {fs : List Value} (C : Ok l g X own cc nL d) (L : MLV own index y cc2 nL2 ret As.length ci) (M : CtI l g y cc2 nL2 ret d2 (.ref b :: As) Wc r W1) (hd : decode cc pc = .ok (.invokevirtual index, 3)) (hdd : d2 < d) (isC : List Nat) (hC : isC.map (fun i => ws[i]?) = Wc.map some) (hnd : va_nd isC = true) (ha : W1.map Prod.fst = Wc.map Prod.fst) (hw : setL ws isC W1 = ws') (q0 : Nat) (hrec : ws[q0]? = some (b, .inr (ci, fs))) (hst : st = As.reverse ++ .ref b :: rest) (hcat : (rest.map fun v => v.category).sum ≤ 8) (hnk : n ≤ cellsX X ∧ k ≤ slotsX X) (kk : Vw g X nL n k ws' (pc + 3) lv (.int r :: rest)) : Vw g X nL n k ws pc lv st := by
  obtain ⟨p, l', e, R, s, m, args, below, meth, c, Q, A⟩ := X
  obtain ⟨rfl, hx, hb, hml, hown, hts, hK, hlk, hA, hfr, hlo⟩ := C
  intro H locs ls hP hD hS hl
  subst hst
  obtain ⟨hlink, hin, hsel, hini, hcode, hy, ⟨Tc, Nc, hcl⟩, hnl⟩ := L
  have hPc := hP.sub (ws' := Wc) isC (by have e1 := congrArg (fun z => z.filterMap id) hC; simpa [List.filterMap_map, Function.comp_def] using e1)
  have hDc := hD.sub (ws' := Wc) isC hnd hC
  have hFc := va_free (wc := Wc) hD hS hA isC hC
  have hp : PreV s H y.cls b (va_Pc (.ref b :: As) (PreW g Wc H.size)) As := ⟨PreW.blind, va_recv hK.1 hP hcl hrec, fun U hU hW => ⟨rfl, by rw [hU], by rw [hU]; exact hPc, hK.warm hW, hDc.weaken (fun _ _ _ _ => trivial)⟩⟩
  have hrm : (rmq d2 0 0).frames + 1 ≤ R.frames ∧ 8 + (nL2 + 11) + (rmq d2 0 0).locals ≤ R.locals := by
    show d2 + 1 ≤ R.frames ∧ 8 + (nL2 + 11) + 38 * d2 ≤ R.locals
    omega
  have hrun : va_Run p l' e R s m args below meth c H locs n k 0 0 (F0 m pc ls (As.reverse ++ .ref b :: rest)) rest (va_Qi (fun r' (_ : Unit) => r' = r) (fun _ t => va_P g.1 vwCl W1 t.heap) (va_A Wc H.size) (Value.ref b :: As).toArray) (va_A Wc H.size) := by
    rcases hlink with hlink | ⟨host, hlink⟩
    · exact va_runV (As := As) (rest := rest) ⟨hx, hb, hml, hown, hts⟩ (M H.size) (cwV As.length hts (good_cons hlink (good_cons hin (good_cons hsel (good_cons hini (good_cons hcode good_BIG))))) rfl rfl rfl ⟨rfl, hy⟩ hrm) hp rfl rfl hl.1 rfl (lv_room hcat) hd hnk
    · exact va_runVN (As := As) (rest := rest) ⟨hx, hb, hml, hown, hts⟩ (M H.size) ⟨va_cnB As.length hts (good_cons hcode good_BIG) rfl rfl rfl (hK.2.1 _ hlink) (hts _ hini) hy hrm, hts _ hin, hts _ hsel⟩ hp rfl rfl hl.1 rfl (lv_room hcat) hd hnk
  refine va_calli hrun hS (fun q _ h => hFc q h) hFc (fun r1 u t H1 locs1 ht hvm hw1 hB hz1 hk1 hS1 => ?_)
  subst hw1
  have hB : va_P g.1 vwCl W1 t.heap := hB
  rw [ht] at hB
  obtain ⟨hP2, hD2⟩ := fj hP hD isC hC ha hk1 hB
  rw [hw] at hP2 hD2
  exact kk H1 locs1 ls hP2 hD2 hS1 hl
theorem s_cI {l : Launch} {g : Gl} {X : Cx} {own : String} {cc : ByteArray} {nL d n k pc : Nat} {ws : va_W} {lv : List (Nat × Value)} {rest : List Value} {index : Nat} {y : MethodName} {cc2 : ByteArray} {nL2 d2 : Nat} {As st : List Value} {Wc : va_W} {W1 : va_W} (ws' : va_W) {r : Int32} {ret : Option FieldType} (C : Ok l g X own cc nL d) (L : MLS own index y cc2 nL2 ret As.length) (M : CtI l g y cc2 nL2 ret d2 As Wc r W1) (hd : decode cc pc = .ok (.invokestatic index, 3)) (hdd : d2 < d) (isC : List Nat) (hC : isC.map (fun i => ws[i]?) = Wc.map some) (hnd : va_nd isC = true) (ha : W1.map Prod.fst = Wc.map Prod.fst) (hw : setL ws isC W1 = ws') (hst : st = As.reverse ++ rest) (hcat : (rest.map fun v => v.category).sum ≤ 8) (hnk : n ≤ cellsX X ∧ k ≤ slotsX X) (kk : Vw g X nL n k ws' (pc + 3) lv (.int r :: rest)) : Vw g X nL n k ws pc lv st := by
  obtain ⟨p, l', e, R, s, m, args, below, meth, c, Q, A⟩ := X
  obtain ⟨rfl, hx, hb, hml, hown, hts, hK, hlk, hA, hfr, hlo⟩ := C
  intro H locs ls hP hD hS hl
  subst hst
  obtain ⟨hlink, hin, hini, hcode, hy, hnl⟩ := L
  have hPc := hP.sub (ws' := Wc) isC (by have e1 := congrArg (fun z => z.filterMap id) hC; simpa [List.filterMap_map, Function.comp_def] using e1)
  have hDc := hD.sub (ws' := Wc) isC hnd hC
  have hFc := va_free (wc := Wc) hD hS hA isC hC
  have hp : PreS s H (va_Pc As (PreW g Wc H.size)) As := ⟨PreW.blind, fun U hU hW => ⟨rfl, by rw [hU], by rw [hU]; exact hPc, hK.warm hW, hDc.weaken (fun _ _ _ _ => trivial)⟩⟩
  have hrm : (rmq d2 0 0).frames + 1 ≤ R.frames ∧ 8 + (nL2 + 11) + (rmq d2 0 0).locals ≤ R.locals := by
    show d2 + 1 ≤ R.frames ∧ 8 + (nL2 + 11) + 38 * d2 ≤ R.locals
    omega
  have hrun : va_Run p l' e R s m args below meth c H locs n k 0 0 (F0 m pc ls (As.reverse ++ rest)) rest (va_Qi (fun r' (_ : Unit) => r' = r) (fun _ t => va_P g.1 vwCl W1 t.heap) (va_A Wc H.size) As.toArray) (va_A Wc H.size) := by
    rcases hlink with hlink | ⟨host, hlink⟩
    · exact va_runS (As := As) (rest := rest) ⟨hx, hb, hml, hown, hts⟩ (M H.size) ⟨callB_of As.length hts (good_cons hcode good_BIG) rfl rfl rfl (hts _ hini) (hts _ hlink) hy hrm, hts _ hin⟩ hp rfl rfl hl.1 rfl (lv_room hcat) hd hnk
    · exact va_runSN (As := As) (rest := rest) ⟨hx, hb, hml, hown, hts⟩ (M H.size) ⟨va_cnB As.length hts (good_cons hcode good_BIG) rfl rfl rfl (hK.2.1 _ hlink) (hts _ hini) hy hrm, hts _ hin, trivial⟩ hp rfl rfl hl.1 rfl (lv_room hcat) hd hnk
  refine va_calli hrun hS (fun q _ h => hFc q h) hFc (fun r1 u t H1 locs1 ht hvm hw1 hB hz1 hk1 hS1 => ?_)
  subst hw1
  have hB : va_P g.1 vwCl W1 t.heap := hB
  rw [ht] at hB
  obtain ⟨hP2, hD2⟩ := fj hP hD isC hC ha hk1 hB
  rw [hw] at hP2 hD2
  exact kk H1 locs1 ls hP2 hD2 hS1 hl

theorem v_pI {l : Launch} {g : Gl} {X : Cx} {own : String} {cc : ByteArray} {nL d n k pc : Nat} {ws : va_W} {lv : List (Nat × Value)} {rest : List Value} {index : Nat} {y : MethodName} {cc2 : ByteArray} {nL2 d2 b ci : Nat} {As st : List Value} {Wc : va_W}  {r : Int32} {ret : Option FieldType} {fs : List Value} (C : Ok l g X own cc nL d) (L : MLV own index y cc2 nL2 ret As.length ci) (M : CtI l g y cc2 nL2 ret d2 (.ref b :: As) Wc r Wc) (hd : decode cc pc = .ok (.invokevirtual index, 3)) (hdd : d2 < d) (isC : List Nat) (hC : isC.map (fun i => ws[i]?) = Wc.map some) (hnd : va_nd isC = true)  (q0 : Nat) (hrec : ws[q0]? = some (b, .inr (ci, fs))) (hst : st = As.reverse ++ .ref b :: rest) (hcat : (rest.map fun v => v.category).sum ≤ 8) (hnk : n ≤ cellsX X ∧ k ≤ slotsX X) (kk : Vw g X nL n k ws (pc + 3) lv (.int r :: rest)) : Vw g X nL n k ws pc lv st := by
  obtain ⟨p, l', e, R, s, m, args, below, meth, c, Q, A⟩ := X
  obtain ⟨rfl, hx, hb, hml, hown, hts, hK, hlk, hA, hfr, hlo⟩ := C
  intro H locs ls hP hD hS hl
  subst hst
  obtain ⟨hlink, hin, hsel, hini, hcode, hy, ⟨Tc, Nc, hcl⟩, hnl⟩ := L
  have hPc := hP.sub (ws' := Wc) isC (by have e1 := congrArg (fun z => z.filterMap id) hC; simpa [List.filterMap_map, Function.comp_def] using e1)
  have hDc := hD.sub (ws' := Wc) isC hnd hC
  have hFc := va_free (wc := Wc) hD hS hA isC hC
  have hp : PreV s H y.cls b (va_Pc (.ref b :: As) (PreW g Wc H.size)) As := ⟨PreW.blind, va_recv hK.1 hP hcl hrec, fun U hU hW => ⟨rfl, by rw [hU], by rw [hU]; exact hPc, hK.warm hW, hDc.weaken (fun _ _ _ _ => trivial)⟩⟩
  have hrm : (rmq d2 0 0).frames + 1 ≤ R.frames ∧ 8 + (nL2 + 11) + (rmq d2 0 0).locals ≤ R.locals := by
    show d2 + 1 ≤ R.frames ∧ 8 + (nL2 + 11) + 38 * d2 ≤ R.locals
    omega
  have hrun : va_Run p l' e R s m args below meth c H locs n k 0 0 (F0 m pc ls (As.reverse ++ .ref b :: rest)) rest (va_Qi (fun r' (_ : Unit) => r' = r) (fun _ t => va_P g.1 vwCl Wc t.heap) (va_A Wc H.size) (Value.ref b :: As).toArray) (va_A Wc H.size) := by
    rcases hlink with hlink | ⟨host, hlink⟩
    · exact va_runV (As := As) (rest := rest) ⟨hx, hb, hml, hown, hts⟩ (M H.size) (cwV As.length hts (good_cons hlink (good_cons hin (good_cons hsel (good_cons hini (good_cons hcode good_BIG))))) rfl rfl rfl ⟨rfl, hy⟩ hrm) hp rfl rfl hl.1 rfl (lv_room hcat) hd hnk
    · exact va_runVN (As := As) (rest := rest) ⟨hx, hb, hml, hown, hts⟩ (M H.size) ⟨va_cnB As.length hts (good_cons hcode good_BIG) rfl rfl rfl (hK.2.1 _ hlink) (hts _ hini) hy hrm, hts _ hin, hts _ hsel⟩ hp rfl rfl hl.1 rfl (lv_room hcat) hd hnk
  refine va_calli hrun hS (fun q _ h => hFc q h) hFc (fun r1 u t H1 locs1 ht hvm hw1 hB hz1 hk1 hS1 => ?_)
  subst hw1
  have hB : va_P g.1 vwCl Wc t.heap := hB
  rw [ht] at hB
  have hP2 := fjP hP hD isC hC hk1 hB
  exact kk H1 locs1 ls hP2 hD hS1 hl
theorem s_pI {l : Launch} {g : Gl} {X : Cx} {own : String} {cc : ByteArray} {nL d n k pc : Nat} {ws : va_W} {lv : List (Nat × Value)} {rest : List Value} {index : Nat} {y : MethodName} {cc2 : ByteArray} {nL2 d2 : Nat} {As st : List Value} {Wc : va_W}  {r : Int32} {ret : Option FieldType} (C : Ok l g X own cc nL d) (L : MLS own index y cc2 nL2 ret As.length) (M : CtI l g y cc2 nL2 ret d2 As Wc r Wc) (hd : decode cc pc = .ok (.invokestatic index, 3)) (hdd : d2 < d) (isC : List Nat) (hC : isC.map (fun i => ws[i]?) = Wc.map some) (hnd : va_nd isC = true)  (hst : st = As.reverse ++ rest) (hcat : (rest.map fun v => v.category).sum ≤ 8) (hnk : n ≤ cellsX X ∧ k ≤ slotsX X) (kk : Vw g X nL n k ws (pc + 3) lv (.int r :: rest)) : Vw g X nL n k ws pc lv st := by
  obtain ⟨p, l', e, R, s, m, args, below, meth, c, Q, A⟩ := X
  obtain ⟨rfl, hx, hb, hml, hown, hts, hK, hlk, hA, hfr, hlo⟩ := C
  intro H locs ls hP hD hS hl
  subst hst
  obtain ⟨hlink, hin, hini, hcode, hy, hnl⟩ := L
  have hPc := hP.sub (ws' := Wc) isC (by have e1 := congrArg (fun z => z.filterMap id) hC; simpa [List.filterMap_map, Function.comp_def] using e1)
  have hDc := hD.sub (ws' := Wc) isC hnd hC
  have hFc := va_free (wc := Wc) hD hS hA isC hC
  have hp : PreS s H (va_Pc As (PreW g Wc H.size)) As := ⟨PreW.blind, fun U hU hW => ⟨rfl, by rw [hU], by rw [hU]; exact hPc, hK.warm hW, hDc.weaken (fun _ _ _ _ => trivial)⟩⟩
  have hrm : (rmq d2 0 0).frames + 1 ≤ R.frames ∧ 8 + (nL2 + 11) + (rmq d2 0 0).locals ≤ R.locals := by
    show d2 + 1 ≤ R.frames ∧ 8 + (nL2 + 11) + 38 * d2 ≤ R.locals
    omega
  have hrun : va_Run p l' e R s m args below meth c H locs n k 0 0 (F0 m pc ls (As.reverse ++ rest)) rest (va_Qi (fun r' (_ : Unit) => r' = r) (fun _ t => va_P g.1 vwCl Wc t.heap) (va_A Wc H.size) As.toArray) (va_A Wc H.size) := by
    rcases hlink with hlink | ⟨host, hlink⟩
    · exact va_runS (As := As) (rest := rest) ⟨hx, hb, hml, hown, hts⟩ (M H.size) ⟨callB_of As.length hts (good_cons hcode good_BIG) rfl rfl rfl (hts _ hini) (hts _ hlink) hy hrm, hts _ hin⟩ hp rfl rfl hl.1 rfl (lv_room hcat) hd hnk
    · exact va_runSN (As := As) (rest := rest) ⟨hx, hb, hml, hown, hts⟩ (M H.size) ⟨va_cnB As.length hts (good_cons hcode good_BIG) rfl rfl rfl (hK.2.1 _ hlink) (hts _ hini) hy hrm, hts _ hin, trivial⟩ hp rfl rfl hl.1 rfl (lv_room hcat) hd hnk
  refine va_calli hrun hS (fun q _ h => hFc q h) hFc (fun r1 u t H1 locs1 ht hvm hw1 hB hz1 hk1 hS1 => ?_)
  subst hw1
  have hB : va_P g.1 vwCl Wc t.heap := hB
  rw [ht] at hB
  have hP2 := fjP hP hD isC hC hk1 hB
  exact kk H1 locs1 ls hP2 hD hS1 hl

theorem v_cL {l : Launch} {g : Gl} {X : Cx} {own : String} {cc : ByteArray} {nL d n k pc : Nat} {ws : va_W} {lv : List (Nat × Value)} {rest : List Value} {index : Nat} {y : MethodName} {cc2 : ByteArray} {nL2 d2 b ci : Nat} {As st : List Value} {Wc : va_W} {W1 : va_W} (ws' : va_W) {r : Int64} {ret : Option FieldType} {fs : List Value} (C : Ok l g X own cc nL d) (L : MLV own index y cc2 nL2 ret As.length ci) (M : CtL l g y cc2 nL2 ret d2 (.ref b :: As) Wc r W1) (hd : decode cc pc = .ok (.invokevirtual index, 3)) (hdd : d2 < d) (isC : List Nat) (hC : isC.map (fun i => ws[i]?) = Wc.map some) (hnd : va_nd isC = true) (ha : W1.map Prod.fst = Wc.map Prod.fst) (hw : setL ws isC W1 = ws') (q0 : Nat) (hrec : ws[q0]? = some (b, .inr (ci, fs))) (hst : st = As.reverse ++ .ref b :: rest) (hcat : (rest.map fun v => v.category).sum ≤ 8) (hnk : n ≤ cellsX X ∧ k ≤ slotsX X) (kk : Vw g X nL n k ws' (pc + 3) lv (.long r :: rest)) : Vw g X nL n k ws pc lv st := by
  obtain ⟨p, l', e, R, s, m, args, below, meth, c, Q, A⟩ := X
  obtain ⟨rfl, hx, hb, hml, hown, hts, hK, hlk, hA, hfr, hlo⟩ := C
  intro H locs ls hP hD hS hl
  subst hst
  obtain ⟨hlink, hin, hsel, hini, hcode, hy, ⟨Tc, Nc, hcl⟩, hnl⟩ := L
  have hPc := hP.sub (ws' := Wc) isC (by have e1 := congrArg (fun z => z.filterMap id) hC; simpa [List.filterMap_map, Function.comp_def] using e1)
  have hDc := hD.sub (ws' := Wc) isC hnd hC
  have hFc := va_free (wc := Wc) hD hS hA isC hC
  have hp : PreV s H y.cls b (va_Pc (.ref b :: As) (PreW g Wc H.size)) As := ⟨PreW.blind, va_recv hK.1 hP hcl hrec, fun U hU hW => ⟨rfl, by rw [hU], by rw [hU]; exact hPc, hK.warm hW, hDc.weaken (fun _ _ _ _ => trivial)⟩⟩
  have hrm : (rmq d2 0 0).frames + 1 ≤ R.frames ∧ 8 + (nL2 + 11) + (rmq d2 0 0).locals ≤ R.locals := by
    show d2 + 1 ≤ R.frames ∧ 8 + (nL2 + 11) + 38 * d2 ≤ R.locals
    omega
  have hrun : va_Run p l' e R s m args below meth c H locs n k 0 0 (F0 m pc ls (As.reverse ++ .ref b :: rest)) rest (va_Ql (fun r' (_ : Unit) => r' = r) (fun _ t => va_P g.1 vwCl W1 t.heap) (va_A Wc H.size) (Value.ref b :: As).toArray) (va_A Wc H.size) := by
    rcases hlink with hlink | ⟨host, hlink⟩
    · exact va_runV (As := As) (rest := rest) ⟨hx, hb, hml, hown, hts⟩ (M H.size) (cwV As.length hts (good_cons hlink (good_cons hin (good_cons hsel (good_cons hini (good_cons hcode good_BIG))))) rfl rfl rfl ⟨rfl, hy⟩ hrm) hp rfl rfl hl.1 rfl (lv_room hcat) hd hnk
    · exact va_runVN (As := As) (rest := rest) ⟨hx, hb, hml, hown, hts⟩ (M H.size) ⟨va_cnB As.length hts (good_cons hcode good_BIG) rfl rfl rfl (hK.2.1 _ hlink) (hts _ hini) hy hrm, hts _ hin, hts _ hsel⟩ hp rfl rfl hl.1 rfl (lv_room hcat) hd hnk
  refine va_calll hrun hS (fun q _ h => hFc q h) hFc (fun r1 u t H1 locs1 ht hvm hw1 hB hz1 hk1 hS1 => ?_)
  subst hw1
  have hB : va_P g.1 vwCl W1 t.heap := hB
  rw [ht] at hB
  obtain ⟨hP2, hD2⟩ := fj hP hD isC hC ha hk1 hB
  rw [hw] at hP2 hD2
  exact kk H1 locs1 ls hP2 hD2 hS1 hl
theorem s_cL {l : Launch} {g : Gl} {X : Cx} {own : String} {cc : ByteArray} {nL d n k pc : Nat} {ws : va_W} {lv : List (Nat × Value)} {rest : List Value} {index : Nat} {y : MethodName} {cc2 : ByteArray} {nL2 d2 : Nat} {As st : List Value} {Wc : va_W} {W1 : va_W} (ws' : va_W) {r : Int64} {ret : Option FieldType} (C : Ok l g X own cc nL d) (L : MLS own index y cc2 nL2 ret As.length) (M : CtL l g y cc2 nL2 ret d2 As Wc r W1) (hd : decode cc pc = .ok (.invokestatic index, 3)) (hdd : d2 < d) (isC : List Nat) (hC : isC.map (fun i => ws[i]?) = Wc.map some) (hnd : va_nd isC = true) (ha : W1.map Prod.fst = Wc.map Prod.fst) (hw : setL ws isC W1 = ws') (hst : st = As.reverse ++ rest) (hcat : (rest.map fun v => v.category).sum ≤ 8) (hnk : n ≤ cellsX X ∧ k ≤ slotsX X) (kk : Vw g X nL n k ws' (pc + 3) lv (.long r :: rest)) : Vw g X nL n k ws pc lv st := by
  obtain ⟨p, l', e, R, s, m, args, below, meth, c, Q, A⟩ := X
  obtain ⟨rfl, hx, hb, hml, hown, hts, hK, hlk, hA, hfr, hlo⟩ := C
  intro H locs ls hP hD hS hl
  subst hst
  obtain ⟨hlink, hin, hini, hcode, hy, hnl⟩ := L
  have hPc := hP.sub (ws' := Wc) isC (by have e1 := congrArg (fun z => z.filterMap id) hC; simpa [List.filterMap_map, Function.comp_def] using e1)
  have hDc := hD.sub (ws' := Wc) isC hnd hC
  have hFc := va_free (wc := Wc) hD hS hA isC hC
  have hp : PreS s H (va_Pc As (PreW g Wc H.size)) As := ⟨PreW.blind, fun U hU hW => ⟨rfl, by rw [hU], by rw [hU]; exact hPc, hK.warm hW, hDc.weaken (fun _ _ _ _ => trivial)⟩⟩
  have hrm : (rmq d2 0 0).frames + 1 ≤ R.frames ∧ 8 + (nL2 + 11) + (rmq d2 0 0).locals ≤ R.locals := by
    show d2 + 1 ≤ R.frames ∧ 8 + (nL2 + 11) + 38 * d2 ≤ R.locals
    omega
  have hrun : va_Run p l' e R s m args below meth c H locs n k 0 0 (F0 m pc ls (As.reverse ++ rest)) rest (va_Ql (fun r' (_ : Unit) => r' = r) (fun _ t => va_P g.1 vwCl W1 t.heap) (va_A Wc H.size) As.toArray) (va_A Wc H.size) := by
    rcases hlink with hlink | ⟨host, hlink⟩
    · exact va_runS (As := As) (rest := rest) ⟨hx, hb, hml, hown, hts⟩ (M H.size) ⟨callB_of As.length hts (good_cons hcode good_BIG) rfl rfl rfl (hts _ hini) (hts _ hlink) hy hrm, hts _ hin⟩ hp rfl rfl hl.1 rfl (lv_room hcat) hd hnk
    · exact va_runSN (As := As) (rest := rest) ⟨hx, hb, hml, hown, hts⟩ (M H.size) ⟨va_cnB As.length hts (good_cons hcode good_BIG) rfl rfl rfl (hK.2.1 _ hlink) (hts _ hini) hy hrm, hts _ hin, trivial⟩ hp rfl rfl hl.1 rfl (lv_room hcat) hd hnk
  refine va_calll hrun hS (fun q _ h => hFc q h) hFc (fun r1 u t H1 locs1 ht hvm hw1 hB hz1 hk1 hS1 => ?_)
  subst hw1
  have hB : va_P g.1 vwCl W1 t.heap := hB
  rw [ht] at hB
  obtain ⟨hP2, hD2⟩ := fj hP hD isC hC ha hk1 hB
  rw [hw] at hP2 hD2
  exact kk H1 locs1 ls hP2 hD2 hS1 hl

theorem v_pL {l : Launch} {g : Gl} {X : Cx} {own : String} {cc : ByteArray} {nL d n k pc : Nat} {ws : va_W} {lv : List (Nat × Value)} {rest : List Value} {index : Nat} {y : MethodName} {cc2 : ByteArray} {nL2 d2 b ci : Nat} {As st : List Value} {Wc : va_W}  {r : Int64} {ret : Option FieldType} {fs : List Value} (C : Ok l g X own cc nL d) (L : MLV own index y cc2 nL2 ret As.length ci) (M : CtL l g y cc2 nL2 ret d2 (.ref b :: As) Wc r Wc) (hd : decode cc pc = .ok (.invokevirtual index, 3)) (hdd : d2 < d) (isC : List Nat) (hC : isC.map (fun i => ws[i]?) = Wc.map some) (hnd : va_nd isC = true)  (q0 : Nat) (hrec : ws[q0]? = some (b, .inr (ci, fs))) (hst : st = As.reverse ++ .ref b :: rest) (hcat : (rest.map fun v => v.category).sum ≤ 8) (hnk : n ≤ cellsX X ∧ k ≤ slotsX X) (kk : Vw g X nL n k ws (pc + 3) lv (.long r :: rest)) : Vw g X nL n k ws pc lv st := by
  obtain ⟨p, l', e, R, s, m, args, below, meth, c, Q, A⟩ := X
  obtain ⟨rfl, hx, hb, hml, hown, hts, hK, hlk, hA, hfr, hlo⟩ := C
  intro H locs ls hP hD hS hl
  subst hst
  obtain ⟨hlink, hin, hsel, hini, hcode, hy, ⟨Tc, Nc, hcl⟩, hnl⟩ := L
  have hPc := hP.sub (ws' := Wc) isC (by have e1 := congrArg (fun z => z.filterMap id) hC; simpa [List.filterMap_map, Function.comp_def] using e1)
  have hDc := hD.sub (ws' := Wc) isC hnd hC
  have hFc := va_free (wc := Wc) hD hS hA isC hC
  have hp : PreV s H y.cls b (va_Pc (.ref b :: As) (PreW g Wc H.size)) As := ⟨PreW.blind, va_recv hK.1 hP hcl hrec, fun U hU hW => ⟨rfl, by rw [hU], by rw [hU]; exact hPc, hK.warm hW, hDc.weaken (fun _ _ _ _ => trivial)⟩⟩
  have hrm : (rmq d2 0 0).frames + 1 ≤ R.frames ∧ 8 + (nL2 + 11) + (rmq d2 0 0).locals ≤ R.locals := by
    show d2 + 1 ≤ R.frames ∧ 8 + (nL2 + 11) + 38 * d2 ≤ R.locals
    omega
  have hrun : va_Run p l' e R s m args below meth c H locs n k 0 0 (F0 m pc ls (As.reverse ++ .ref b :: rest)) rest (va_Ql (fun r' (_ : Unit) => r' = r) (fun _ t => va_P g.1 vwCl Wc t.heap) (va_A Wc H.size) (Value.ref b :: As).toArray) (va_A Wc H.size) := by
    rcases hlink with hlink | ⟨host, hlink⟩
    · exact va_runV (As := As) (rest := rest) ⟨hx, hb, hml, hown, hts⟩ (M H.size) (cwV As.length hts (good_cons hlink (good_cons hin (good_cons hsel (good_cons hini (good_cons hcode good_BIG))))) rfl rfl rfl ⟨rfl, hy⟩ hrm) hp rfl rfl hl.1 rfl (lv_room hcat) hd hnk
    · exact va_runVN (As := As) (rest := rest) ⟨hx, hb, hml, hown, hts⟩ (M H.size) ⟨va_cnB As.length hts (good_cons hcode good_BIG) rfl rfl rfl (hK.2.1 _ hlink) (hts _ hini) hy hrm, hts _ hin, hts _ hsel⟩ hp rfl rfl hl.1 rfl (lv_room hcat) hd hnk
  refine va_calll hrun hS (fun q _ h => hFc q h) hFc (fun r1 u t H1 locs1 ht hvm hw1 hB hz1 hk1 hS1 => ?_)
  subst hw1
  have hB : va_P g.1 vwCl Wc t.heap := hB
  rw [ht] at hB
  have hP2 := fjP hP hD isC hC hk1 hB
  exact kk H1 locs1 ls hP2 hD hS1 hl
theorem s_pL {l : Launch} {g : Gl} {X : Cx} {own : String} {cc : ByteArray} {nL d n k pc : Nat} {ws : va_W} {lv : List (Nat × Value)} {rest : List Value} {index : Nat} {y : MethodName} {cc2 : ByteArray} {nL2 d2 : Nat} {As st : List Value} {Wc : va_W}  {r : Int64} {ret : Option FieldType} (C : Ok l g X own cc nL d) (L : MLS own index y cc2 nL2 ret As.length) (M : CtL l g y cc2 nL2 ret d2 As Wc r Wc) (hd : decode cc pc = .ok (.invokestatic index, 3)) (hdd : d2 < d) (isC : List Nat) (hC : isC.map (fun i => ws[i]?) = Wc.map some) (hnd : va_nd isC = true)  (hst : st = As.reverse ++ rest) (hcat : (rest.map fun v => v.category).sum ≤ 8) (hnk : n ≤ cellsX X ∧ k ≤ slotsX X) (kk : Vw g X nL n k ws (pc + 3) lv (.long r :: rest)) : Vw g X nL n k ws pc lv st := by
  obtain ⟨p, l', e, R, s, m, args, below, meth, c, Q, A⟩ := X
  obtain ⟨rfl, hx, hb, hml, hown, hts, hK, hlk, hA, hfr, hlo⟩ := C
  intro H locs ls hP hD hS hl
  subst hst
  obtain ⟨hlink, hin, hini, hcode, hy, hnl⟩ := L
  have hPc := hP.sub (ws' := Wc) isC (by have e1 := congrArg (fun z => z.filterMap id) hC; simpa [List.filterMap_map, Function.comp_def] using e1)
  have hDc := hD.sub (ws' := Wc) isC hnd hC
  have hFc := va_free (wc := Wc) hD hS hA isC hC
  have hp : PreS s H (va_Pc As (PreW g Wc H.size)) As := ⟨PreW.blind, fun U hU hW => ⟨rfl, by rw [hU], by rw [hU]; exact hPc, hK.warm hW, hDc.weaken (fun _ _ _ _ => trivial)⟩⟩
  have hrm : (rmq d2 0 0).frames + 1 ≤ R.frames ∧ 8 + (nL2 + 11) + (rmq d2 0 0).locals ≤ R.locals := by
    show d2 + 1 ≤ R.frames ∧ 8 + (nL2 + 11) + 38 * d2 ≤ R.locals
    omega
  have hrun : va_Run p l' e R s m args below meth c H locs n k 0 0 (F0 m pc ls (As.reverse ++ rest)) rest (va_Ql (fun r' (_ : Unit) => r' = r) (fun _ t => va_P g.1 vwCl Wc t.heap) (va_A Wc H.size) As.toArray) (va_A Wc H.size) := by
    rcases hlink with hlink | ⟨host, hlink⟩
    · exact va_runS (As := As) (rest := rest) ⟨hx, hb, hml, hown, hts⟩ (M H.size) ⟨callB_of As.length hts (good_cons hcode good_BIG) rfl rfl rfl (hts _ hini) (hts _ hlink) hy hrm, hts _ hin⟩ hp rfl rfl hl.1 rfl (lv_room hcat) hd hnk
    · exact va_runSN (As := As) (rest := rest) ⟨hx, hb, hml, hown, hts⟩ (M H.size) ⟨va_cnB As.length hts (good_cons hcode good_BIG) rfl rfl rfl (hK.2.1 _ hlink) (hts _ hini) hy hrm, hts _ hin, trivial⟩ hp rfl rfl hl.1 rfl (lv_room hcat) hd hnk
  refine va_calll hrun hS (fun q _ h => hFc q h) hFc (fun r1 u t H1 locs1 ht hvm hw1 hB hz1 hk1 hS1 => ?_)
  subst hw1
  have hB : va_P g.1 vwCl Wc t.heap := hB
  rw [ht] at hB
  have hP2 := fjP hP hD isC hC hk1 hB
  exact kk H1 locs1 ls hP2 hD hS1 hl

theorem v_cV {l : Launch} {g : Gl} {X : Cx} {own : String} {cc : ByteArray} {nL d n k pc : Nat} {ws : va_W} {lv : List (Nat × Value)} {rest : List Value} {index : Nat} {y : MethodName} {cc2 : ByteArray} {nL2 d2 b ci : Nat} {As st : List Value} {Wc : va_W} {W1 : va_W} (ws' : va_W)  {fs : List Value} (C : Ok l g X own cc nL d) (L : MLV own index y cc2 nL2 none As.length ci) (M : CtV l g y cc2 nL2 d2 (.ref b :: As) Wc W1) (hd : decode cc pc = .ok (.invokevirtual index, 3)) (hdd : d2 < d) (isC : List Nat) (hC : isC.map (fun i => ws[i]?) = Wc.map some) (hnd : va_nd isC = true) (ha : W1.map Prod.fst = Wc.map Prod.fst) (hw : setL ws isC W1 = ws') (q0 : Nat) (hrec : ws[q0]? = some (b, .inr (ci, fs))) (hst : st = As.reverse ++ .ref b :: rest) (hcat : (rest.map fun v => v.category).sum ≤ 8) (hnk : n ≤ cellsX X ∧ k ≤ slotsX X) (kk : Vw g X nL n k ws' (pc + 3) lv rest) : Vw g X nL n k ws pc lv st := by
  obtain ⟨p, l', e, R, s, m, args, below, meth, c, Q, A⟩ := X
  obtain ⟨rfl, hx, hb, hml, hown, hts, hK, hlk, hA, hfr, hlo⟩ := C
  intro H locs ls hP hD hS hl
  subst hst
  obtain ⟨hlink, hin, hsel, hini, hcode, hy, ⟨Tc, Nc, hcl⟩, hnl⟩ := L
  have hPc := hP.sub (ws' := Wc) isC (by have e1 := congrArg (fun z => z.filterMap id) hC; simpa [List.filterMap_map, Function.comp_def] using e1)
  have hDc := hD.sub (ws' := Wc) isC hnd hC
  have hFc := va_free (wc := Wc) hD hS hA isC hC
  have hp : PreV s H y.cls b (va_Pc (.ref b :: As) (PreW g Wc H.size)) As := ⟨PreW.blind, va_recv hK.1 hP hcl hrec, fun U hU hW => ⟨rfl, by rw [hU], by rw [hU]; exact hPc, hK.warm hW, hDc.weaken (fun _ _ _ _ => trivial)⟩⟩
  have hrm : (rmq d2 0 0).frames + 1 ≤ R.frames ∧ 8 + (nL2 + 11) + (rmq d2 0 0).locals ≤ R.locals := by
    show d2 + 1 ≤ R.frames ∧ 8 + (nL2 + 11) + 38 * d2 ≤ R.locals
    omega
  have hrun : va_Run p l' e R s m args below meth c H locs n k 0 0 (F0 m pc ls (As.reverse ++ .ref b :: rest)) rest (va_Qv (fun (_ : Unit) => True) (fun _ t => va_P g.1 vwCl W1 t.heap) (va_A Wc H.size) (Value.ref b :: As).toArray) (va_A Wc H.size) := by
    rcases hlink with hlink | ⟨host, hlink⟩
    · exact va_runV (As := As) (rest := rest) ⟨hx, hb, hml, hown, hts⟩ (M H.size) (cwV As.length hts (good_cons hlink (good_cons hin (good_cons hsel (good_cons hini (good_cons hcode good_BIG))))) rfl rfl rfl ⟨rfl, hy⟩ hrm) hp rfl rfl hl.1 rfl (lv_room hcat) hd hnk
    · exact va_runVN (As := As) (rest := rest) ⟨hx, hb, hml, hown, hts⟩ (M H.size) ⟨va_cnB As.length hts (good_cons hcode good_BIG) rfl rfl rfl (hK.2.1 _ hlink) (hts _ hini) hy hrm, hts _ hin, hts _ hsel⟩ hp rfl rfl hl.1 rfl (lv_room hcat) hd hnk
  refine va_callv hrun hS (fun q _ h => hFc q h) hFc (fun u t H1 locs1 ht hvm hw1 hB hz1 hk1 hS1 => ?_)
  skip
  have hB : va_P g.1 vwCl W1 t.heap := hB
  rw [ht] at hB
  obtain ⟨hP2, hD2⟩ := fj hP hD isC hC ha hk1 hB
  rw [hw] at hP2 hD2
  exact kk H1 locs1 ls hP2 hD2 hS1 hl
theorem s_cV {l : Launch} {g : Gl} {X : Cx} {own : String} {cc : ByteArray} {nL d n k pc : Nat} {ws : va_W} {lv : List (Nat × Value)} {rest : List Value} {index : Nat} {y : MethodName} {cc2 : ByteArray} {nL2 d2 : Nat} {As st : List Value} {Wc : va_W} {W1 : va_W} (ws' : va_W)  (C : Ok l g X own cc nL d) (L : MLS own index y cc2 nL2 none As.length) (M : CtV l g y cc2 nL2 d2 As Wc W1) (hd : decode cc pc = .ok (.invokestatic index, 3)) (hdd : d2 < d) (isC : List Nat) (hC : isC.map (fun i => ws[i]?) = Wc.map some) (hnd : va_nd isC = true) (ha : W1.map Prod.fst = Wc.map Prod.fst) (hw : setL ws isC W1 = ws') (hst : st = As.reverse ++ rest) (hcat : (rest.map fun v => v.category).sum ≤ 8) (hnk : n ≤ cellsX X ∧ k ≤ slotsX X) (kk : Vw g X nL n k ws' (pc + 3) lv rest) : Vw g X nL n k ws pc lv st := by
  obtain ⟨p, l', e, R, s, m, args, below, meth, c, Q, A⟩ := X
  obtain ⟨rfl, hx, hb, hml, hown, hts, hK, hlk, hA, hfr, hlo⟩ := C
  intro H locs ls hP hD hS hl
  subst hst
  obtain ⟨hlink, hin, hini, hcode, hy, hnl⟩ := L
  have hPc := hP.sub (ws' := Wc) isC (by have e1 := congrArg (fun z => z.filterMap id) hC; simpa [List.filterMap_map, Function.comp_def] using e1)
  have hDc := hD.sub (ws' := Wc) isC hnd hC
  have hFc := va_free (wc := Wc) hD hS hA isC hC
  have hp : PreS s H (va_Pc As (PreW g Wc H.size)) As := ⟨PreW.blind, fun U hU hW => ⟨rfl, by rw [hU], by rw [hU]; exact hPc, hK.warm hW, hDc.weaken (fun _ _ _ _ => trivial)⟩⟩
  have hrm : (rmq d2 0 0).frames + 1 ≤ R.frames ∧ 8 + (nL2 + 11) + (rmq d2 0 0).locals ≤ R.locals := by
    show d2 + 1 ≤ R.frames ∧ 8 + (nL2 + 11) + 38 * d2 ≤ R.locals
    omega
  have hrun : va_Run p l' e R s m args below meth c H locs n k 0 0 (F0 m pc ls (As.reverse ++ rest)) rest (va_Qv (fun (_ : Unit) => True) (fun _ t => va_P g.1 vwCl W1 t.heap) (va_A Wc H.size) As.toArray) (va_A Wc H.size) := by
    rcases hlink with hlink | ⟨host, hlink⟩
    · exact va_runS (As := As) (rest := rest) ⟨hx, hb, hml, hown, hts⟩ (M H.size) ⟨callB_of As.length hts (good_cons hcode good_BIG) rfl rfl rfl (hts _ hini) (hts _ hlink) hy hrm, hts _ hin⟩ hp rfl rfl hl.1 rfl (lv_room hcat) hd hnk
    · exact va_runSN (As := As) (rest := rest) ⟨hx, hb, hml, hown, hts⟩ (M H.size) ⟨va_cnB As.length hts (good_cons hcode good_BIG) rfl rfl rfl (hK.2.1 _ hlink) (hts _ hini) hy hrm, hts _ hin, trivial⟩ hp rfl rfl hl.1 rfl (lv_room hcat) hd hnk
  refine va_callv hrun hS (fun q _ h => hFc q h) hFc (fun u t H1 locs1 ht hvm hw1 hB hz1 hk1 hS1 => ?_)
  skip
  have hB : va_P g.1 vwCl W1 t.heap := hB
  rw [ht] at hB
  obtain ⟨hP2, hD2⟩ := fj hP hD isC hC ha hk1 hB
  rw [hw] at hP2 hD2
  exact kk H1 locs1 ls hP2 hD2 hS1 hl

theorem v_pV {l : Launch} {g : Gl} {X : Cx} {own : String} {cc : ByteArray} {nL d n k pc : Nat} {ws : va_W} {lv : List (Nat × Value)} {rest : List Value} {index : Nat} {y : MethodName} {cc2 : ByteArray} {nL2 d2 b ci : Nat} {As st : List Value} {Wc : va_W}   {fs : List Value} (C : Ok l g X own cc nL d) (L : MLV own index y cc2 nL2 none As.length ci) (M : CtV l g y cc2 nL2 d2 (.ref b :: As) Wc Wc) (hd : decode cc pc = .ok (.invokevirtual index, 3)) (hdd : d2 < d) (isC : List Nat) (hC : isC.map (fun i => ws[i]?) = Wc.map some) (hnd : va_nd isC = true)  (q0 : Nat) (hrec : ws[q0]? = some (b, .inr (ci, fs))) (hst : st = As.reverse ++ .ref b :: rest) (hcat : (rest.map fun v => v.category).sum ≤ 8) (hnk : n ≤ cellsX X ∧ k ≤ slotsX X) (kk : Vw g X nL n k ws (pc + 3) lv rest) : Vw g X nL n k ws pc lv st := by
  obtain ⟨p, l', e, R, s, m, args, below, meth, c, Q, A⟩ := X
  obtain ⟨rfl, hx, hb, hml, hown, hts, hK, hlk, hA, hfr, hlo⟩ := C
  intro H locs ls hP hD hS hl
  subst hst
  obtain ⟨hlink, hin, hsel, hini, hcode, hy, ⟨Tc, Nc, hcl⟩, hnl⟩ := L
  have hPc := hP.sub (ws' := Wc) isC (by have e1 := congrArg (fun z => z.filterMap id) hC; simpa [List.filterMap_map, Function.comp_def] using e1)
  have hDc := hD.sub (ws' := Wc) isC hnd hC
  have hFc := va_free (wc := Wc) hD hS hA isC hC
  have hp : PreV s H y.cls b (va_Pc (.ref b :: As) (PreW g Wc H.size)) As := ⟨PreW.blind, va_recv hK.1 hP hcl hrec, fun U hU hW => ⟨rfl, by rw [hU], by rw [hU]; exact hPc, hK.warm hW, hDc.weaken (fun _ _ _ _ => trivial)⟩⟩
  have hrm : (rmq d2 0 0).frames + 1 ≤ R.frames ∧ 8 + (nL2 + 11) + (rmq d2 0 0).locals ≤ R.locals := by
    show d2 + 1 ≤ R.frames ∧ 8 + (nL2 + 11) + 38 * d2 ≤ R.locals
    omega
  have hrun : va_Run p l' e R s m args below meth c H locs n k 0 0 (F0 m pc ls (As.reverse ++ .ref b :: rest)) rest (va_Qv (fun (_ : Unit) => True) (fun _ t => va_P g.1 vwCl Wc t.heap) (va_A Wc H.size) (Value.ref b :: As).toArray) (va_A Wc H.size) := by
    rcases hlink with hlink | ⟨host, hlink⟩
    · exact va_runV (As := As) (rest := rest) ⟨hx, hb, hml, hown, hts⟩ (M H.size) (cwV As.length hts (good_cons hlink (good_cons hin (good_cons hsel (good_cons hini (good_cons hcode good_BIG))))) rfl rfl rfl ⟨rfl, hy⟩ hrm) hp rfl rfl hl.1 rfl (lv_room hcat) hd hnk
    · exact va_runVN (As := As) (rest := rest) ⟨hx, hb, hml, hown, hts⟩ (M H.size) ⟨va_cnB As.length hts (good_cons hcode good_BIG) rfl rfl rfl (hK.2.1 _ hlink) (hts _ hini) hy hrm, hts _ hin, hts _ hsel⟩ hp rfl rfl hl.1 rfl (lv_room hcat) hd hnk
  refine va_callv hrun hS (fun q _ h => hFc q h) hFc (fun u t H1 locs1 ht hvm hw1 hB hz1 hk1 hS1 => ?_)
  skip
  have hB : va_P g.1 vwCl Wc t.heap := hB
  rw [ht] at hB
  have hP2 := fjP hP hD isC hC hk1 hB
  exact kk H1 locs1 ls hP2 hD hS1 hl
theorem s_pV {l : Launch} {g : Gl} {X : Cx} {own : String} {cc : ByteArray} {nL d n k pc : Nat} {ws : va_W} {lv : List (Nat × Value)} {rest : List Value} {index : Nat} {y : MethodName} {cc2 : ByteArray} {nL2 d2 : Nat} {As st : List Value} {Wc : va_W}   (C : Ok l g X own cc nL d) (L : MLS own index y cc2 nL2 none As.length) (M : CtV l g y cc2 nL2 d2 As Wc Wc) (hd : decode cc pc = .ok (.invokestatic index, 3)) (hdd : d2 < d) (isC : List Nat) (hC : isC.map (fun i => ws[i]?) = Wc.map some) (hnd : va_nd isC = true)  (hst : st = As.reverse ++ rest) (hcat : (rest.map fun v => v.category).sum ≤ 8) (hnk : n ≤ cellsX X ∧ k ≤ slotsX X) (kk : Vw g X nL n k ws (pc + 3) lv rest) : Vw g X nL n k ws pc lv st := by
  obtain ⟨p, l', e, R, s, m, args, below, meth, c, Q, A⟩ := X
  obtain ⟨rfl, hx, hb, hml, hown, hts, hK, hlk, hA, hfr, hlo⟩ := C
  intro H locs ls hP hD hS hl
  subst hst
  obtain ⟨hlink, hin, hini, hcode, hy, hnl⟩ := L
  have hPc := hP.sub (ws' := Wc) isC (by have e1 := congrArg (fun z => z.filterMap id) hC; simpa [List.filterMap_map, Function.comp_def] using e1)
  have hDc := hD.sub (ws' := Wc) isC hnd hC
  have hFc := va_free (wc := Wc) hD hS hA isC hC
  have hp : PreS s H (va_Pc As (PreW g Wc H.size)) As := ⟨PreW.blind, fun U hU hW => ⟨rfl, by rw [hU], by rw [hU]; exact hPc, hK.warm hW, hDc.weaken (fun _ _ _ _ => trivial)⟩⟩
  have hrm : (rmq d2 0 0).frames + 1 ≤ R.frames ∧ 8 + (nL2 + 11) + (rmq d2 0 0).locals ≤ R.locals := by
    show d2 + 1 ≤ R.frames ∧ 8 + (nL2 + 11) + 38 * d2 ≤ R.locals
    omega
  have hrun : va_Run p l' e R s m args below meth c H locs n k 0 0 (F0 m pc ls (As.reverse ++ rest)) rest (va_Qv (fun (_ : Unit) => True) (fun _ t => va_P g.1 vwCl Wc t.heap) (va_A Wc H.size) As.toArray) (va_A Wc H.size) := by
    rcases hlink with hlink | ⟨host, hlink⟩
    · exact va_runS (As := As) (rest := rest) ⟨hx, hb, hml, hown, hts⟩ (M H.size) ⟨callB_of As.length hts (good_cons hcode good_BIG) rfl rfl rfl (hts _ hini) (hts _ hlink) hy hrm, hts _ hin⟩ hp rfl rfl hl.1 rfl (lv_room hcat) hd hnk
    · exact va_runSN (As := As) (rest := rest) ⟨hx, hb, hml, hown, hts⟩ (M H.size) ⟨va_cnB As.length hts (good_cons hcode good_BIG) rfl rfl rfl (hK.2.1 _ hlink) (hts _ hini) hy hrm, hts _ hin, trivial⟩ hp rfl rfl hl.1 rfl (lv_room hcat) hd hnk
  refine va_callv hrun hS (fun q _ h => hFc q h) hFc (fun u t H1 locs1 ht hvm hw1 hB hz1 hk1 hS1 => ?_)
  skip
  have hB : va_P g.1 vwCl Wc t.heap := hB
  rw [ht] at hB
  have hP2 := fjP hP hD isC hC hk1 hB
  exact kk H1 locs1 ls hP2 hD hS1 hl

