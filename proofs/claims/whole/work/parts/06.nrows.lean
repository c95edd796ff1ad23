theorem r_icmpeqN {l : Launch} {g : Gl} {X : Cx} {own : String} {cc : ByteArray} {nL d n k pc : Nat} {ws : va_W} {lv : List (Nat × Value)} {rest : List Value} {x y : Int32} {off : Int} (a b tgt : Nat) (C : Ok l g X own cc nL d) (hd : decode cc pc = .ok (.if_icmp .eq off, 3)) (ht : (pc : Int) + off = (tgt : Int)) (hxa : x = nI a) (hyb : y = nI b) (ha : a < 2 ^ 31) (hb : b < 2 ^ 31) (kt : a = b → Vw g X nL n k ws tgt lv rest) (kf : ¬ a = b → Vw g X nL n k ws (pc + 3) lv rest) : Vw g X nL n k ws pc lv (.int y :: .int x :: rest) := by
  subst hxa; subst hyb
  exact r_icmpeq tgt C hd ht (fun h => kt ((nI_eq ha hb).mp h)) (fun h => kf (fun e => h ((nI_eq ha hb).mpr e)))
theorem r_icmpneN {l : Launch} {g : Gl} {X : Cx} {own : String} {cc : ByteArray} {nL d n k pc : Nat} {ws : va_W} {lv : List (Nat × Value)} {rest : List Value} {x y : Int32} {off : Int} (a b tgt : Nat) (C : Ok l g X own cc nL d) (hd : decode cc pc = .ok (.if_icmp .ne off, 3)) (ht : (pc : Int) + off = (tgt : Int)) (hxa : x = nI a) (hyb : y = nI b) (ha : a < 2 ^ 31) (hb : b < 2 ^ 31) (kt : ¬ a = b → Vw g X nL n k ws tgt lv rest) (kf : a = b → Vw g X nL n k ws (pc + 3) lv rest) : Vw g X nL n k ws pc lv (.int y :: .int x :: rest) := by
  subst hxa; subst hyb
  exact r_icmpne tgt C hd ht (fun h => kt (fun e => h ((nI_eq ha hb).mpr e))) (fun h => kf ((nI_eq ha hb).mp h))
theorem r_icmpltN {l : Launch} {g : Gl} {X : Cx} {own : String} {cc : ByteArray} {nL d n k pc : Nat} {ws : va_W} {lv : List (Nat × Value)} {rest : List Value} {x y : Int32} {off : Int} (a b tgt : Nat) (C : Ok l g X own cc nL d) (hd : decode cc pc = .ok (.if_icmp .lt off, 3)) (ht : (pc : Int) + off = (tgt : Int)) (hxa : x = nI a) (hyb : y = nI b) (ha : a < 2 ^ 31) (hb : b < 2 ^ 31) (kt : a < b → Vw g X nL n k ws tgt lv rest) (kf : ¬ a < b → Vw g X nL n k ws (pc + 3) lv rest) : Vw g X nL n k ws pc lv (.int y :: .int x :: rest) := by
  subst hxa; subst hyb
  exact r_icmplt tgt C hd ht (fun h => kt ((nI_ltI ha hb).mp h)) (fun h => kf (fun e => h ((nI_ltI ha hb).mpr e)))
theorem r_icmpgeN {l : Launch} {g : Gl} {X : Cx} {own : String} {cc : ByteArray} {nL d n k pc : Nat} {ws : va_W} {lv : List (Nat × Value)} {rest : List Value} {x y : Int32} {off : Int} (a b tgt : Nat) (C : Ok l g X own cc nL d) (hd : decode cc pc = .ok (.if_icmp .ge off, 3)) (ht : (pc : Int) + off = (tgt : Int)) (hxa : x = nI a) (hyb : y = nI b) (ha : a < 2 ^ 31) (hb : b < 2 ^ 31) (kt : b ≤ a → Vw g X nL n k ws tgt lv rest) (kf : ¬ b ≤ a → Vw g X nL n k ws (pc + 3) lv rest) : Vw g X nL n k ws pc lv (.int y :: .int x :: rest) := by
  subst hxa; subst hyb
  exact r_icmpge tgt C hd ht (fun h => kt ((nI_leI hb ha).mp h)) (fun h => kf (fun e => h ((nI_leI hb ha).mpr e)))
theorem r_icmpgtN {l : Launch} {g : Gl} {X : Cx} {own : String} {cc : ByteArray} {nL d n k pc : Nat} {ws : va_W} {lv : List (Nat × Value)} {rest : List Value} {x y : Int32} {off : Int} (a b tgt : Nat) (C : Ok l g X own cc nL d) (hd : decode cc pc = .ok (.if_icmp .gt off, 3)) (ht : (pc : Int) + off = (tgt : Int)) (hxa : x = nI a) (hyb : y = nI b) (ha : a < 2 ^ 31) (hb : b < 2 ^ 31) (kt : b < a → Vw g X nL n k ws tgt lv rest) (kf : ¬ b < a → Vw g X nL n k ws (pc + 3) lv rest) : Vw g X nL n k ws pc lv (.int y :: .int x :: rest) := by
  subst hxa; subst hyb
  exact r_icmpgt tgt C hd ht (fun h => kt ((nI_ltI hb ha).mp h)) (fun h => kf (fun e => h ((nI_ltI hb ha).mpr e)))
theorem r_icmpleN {l : Launch} {g : Gl} {X : Cx} {own : String} {cc : ByteArray} {nL d n k pc : Nat} {ws : va_W} {lv : List (Nat × Value)} {rest : List Value} {x y : Int32} {off : Int} (a b tgt : Nat) (C : Ok l g X own cc nL d) (hd : decode cc pc = .ok (.if_icmp .le off, 3)) (ht : (pc : Int) + off = (tgt : Int)) (hxa : x = nI a) (hyb : y = nI b) (ha : a < 2 ^ 31) (hb : b < 2 ^ 31) (kt : a ≤ b → Vw g X nL n k ws tgt lv rest) (kf : ¬ a ≤ b → Vw g X nL n k ws (pc + 3) lv rest) : Vw g X nL n k ws pc lv (.int y :: .int x :: rest) := by
  subst hxa; subst hyb
  exact r_icmple tgt C hd ht (fun h => kt ((nI_leI ha hb).mp h)) (fun h => kf (fun e => h ((nI_leI ha hb).mpr e)))
theorem nI_z {a : Nat} (ha : a < 2 ^ 31) : nI a = 0 ↔ a = 0 := by rw [← nI_0]; exact nI_eq ha (by decide)
theorem nI_lez {a : Nat} (ha : a < 2 ^ 31) : nI a ≤ 0 ↔ a ≤ 0 := by rw [← nI_0]; exact nI_leI ha (by decide)
theorem nI_gtz {a : Nat} (ha : a < 2 ^ 31) : 0 < nI a ↔ 0 < a := by rw [← nI_0]; exact nI_ltI (by decide) ha
theorem r_ifeqN {l : Launch} {g : Gl} {X : Cx} {own : String} {cc : ByteArray} {nL d n k pc : Nat} {ws : va_W} {lv : List (Nat × Value)} {rest : List Value} {x : Int32} {off : Int} (a tgt : Nat) (C : Ok l g X own cc nL d) (hd : decode cc pc = .ok (.ifCond .eq off, 3)) (ht : (pc : Int) + off = (tgt : Int)) (hxa : x = nI a) (ha : a < 2 ^ 31) (kt : a = 0 → Vw g X nL n k ws tgt lv rest) (kf : ¬ a = 0 → Vw g X nL n k ws (pc + 3) lv rest) : Vw g X nL n k ws pc lv (.int x :: rest) := by
  subst hxa
  exact r_ifeq tgt C hd ht (fun h => kt ((nI_z ha).mp h)) (fun h => kf (fun e => h ((nI_z ha).mpr e)))
theorem r_ifneN {l : Launch} {g : Gl} {X : Cx} {own : String} {cc : ByteArray} {nL d n k pc : Nat} {ws : va_W} {lv : List (Nat × Value)} {rest : List Value} {x : Int32} {off : Int} (a tgt : Nat) (C : Ok l g X own cc nL d) (hd : decode cc pc = .ok (.ifCond .ne off, 3)) (ht : (pc : Int) + off = (tgt : Int)) (hxa : x = nI a) (ha : a < 2 ^ 31) (kt : ¬ a = 0 → Vw g X nL n k ws tgt lv rest) (kf : a = 0 → Vw g X nL n k ws (pc + 3) lv rest) : Vw g X nL n k ws pc lv (.int x :: rest) := by
  subst hxa
  exact r_ifne tgt C hd ht (fun h => kt (fun e => h ((nI_z ha).mpr e))) (fun h => kf ((nI_z ha).mp h))
theorem r_ifgtN {l : Launch} {g : Gl} {X : Cx} {own : String} {cc : ByteArray} {nL d n k pc : Nat} {ws : va_W} {lv : List (Nat × Value)} {rest : List Value} {x : Int32} {off : Int} (a tgt : Nat) (C : Ok l g X own cc nL d) (hd : decode cc pc = .ok (.ifCond .gt off, 3)) (ht : (pc : Int) + off = (tgt : Int)) (hxa : x = nI a) (ha : a < 2 ^ 31) (kt : 0 < a → Vw g X nL n k ws tgt lv rest) (kf : ¬ 0 < a → Vw g X nL n k ws (pc + 3) lv rest) : Vw g X nL n k ws pc lv (.int x :: rest) := by
  subst hxa
  exact r_ifgt tgt C hd ht (fun h => kt ((nI_gtz ha).mp h)) (fun h => kf (fun e => h ((nI_gtz ha).mpr e)))
theorem r_ifleN {l : Launch} {g : Gl} {X : Cx} {own : String} {cc : ByteArray} {nL d n k pc : Nat} {ws : va_W} {lv : List (Nat × Value)} {rest : List Value} {x : Int32} {off : Int} (a tgt : Nat) (C : Ok l g X own cc nL d) (hd : decode cc pc = .ok (.ifCond .le off, 3)) (ht : (pc : Int) + off = (tgt : Int)) (hxa : x = nI a) (ha : a < 2 ^ 31) (kt : a ≤ 0 → Vw g X nL n k ws tgt lv rest) (kf : ¬ a ≤ 0 → Vw g X nL n k ws (pc + 3) lv rest) : Vw g X nL n k ws pc lv (.int x :: rest) := by
  subst hxa
  exact r_ifle tgt C hd ht (fun h => kt ((nI_lez ha).mp h)) (fun h => kf (fun e => h ((nI_lez ha).mpr e)))
theorem r_mminN {l : Launch} {g : Gl} {X : Cx} {own : String} {cc : ByteArray} {nL d n k pc : Nat} {ws : va_W} {lv : List (Nat × Value)} {rest : List Value} {index : Nat} {x y : Int32} (a b : Nat) (C : Ok l g X own cc nL d) (hd : decode cc pc = .ok (.invokestatic index, 3)) (hlink : Cond.methodLink own index Lib.Math.min.name ∈ BIG) (hd1 : 1 ≤ d) (hcat : (rest.map fun v => v.category).sum ≤ 8) (hnk : n ≤ cellsX X ∧ k ≤ slotsX X) (hxa : x = nI a) (hyb : y = nI b) (ha : a < 2 ^ 31) (hb : b < 2 ^ 31) (kk : Vw g X nL n k ws (pc + 3) lv (.int (nI (min a b)) :: rest)) : Vw g X nL n k ws pc lv (.int y :: .int x :: rest) := by
  subst hxa; subst hyb
  refine r_mmin C hd hlink mst_min miz mco_min hd1 hcat hnk ?_
  have e : (if nI b < nI a then nI b else nI a) = nI (min a b) := by
    by_cases h : b < a
    · rw [if_pos ((nI_ltI hb ha).mpr h), Nat.min_eq_right (by omega)]
    · rw [if_neg (fun q => h ((nI_ltI hb ha).mp q)), Nat.min_eq_left (by omega)]
  rw [e]; exact kk
theorem nar_b {r : Int32} (h : r = 0 ∨ r = 1) : narrow .boolean (.int r) = .int r := by rcases h with rfl | rfl <;> rfl
theorem fit_b {r : Int32} (h : r = 0 ∨ r = 1) : fits .boolean (.int r) = true := by rcases h with rfl | rfl <;> rfl

theorem u_int {g : Gl} {X : Cx} {nL n k pc : Nat} {ws : va_W} {lv : List (Nat × Value)} {rest : List Value} {x : Int32} (kk : ∀ z : Int32, z = x → Vw g X nL n k ws pc lv (.int z :: rest)) : Vw g X nL n k ws pc lv (.int x :: rest) := kk x rfl
theorem u_lng {g : Gl} {X : Cx} {nL n k pc : Nat} {ws : va_W} {lv : List (Nat × Value)} {rest : List Value} {x : Int64} (kk : ∀ z : Int64, z = x → Vw g X nL n k ws pc lv (.long z :: rest)) : Vw g X nL n k ws pc lv (.long x :: rest) := kk x rfl
theorem u_lv {g : Gl} {X : Cx} {nL n k pc : Nat} {ws : va_W} {lv : List (Nat × Value)} {st : List Value} (lv' : List (Nat × Value)) (ks : List Nat) (h : lv_pick lv ks = lv') (kk : Vw g X nL n k ws pc lv' st) : Vw g X nL n k ws pc lv st := by
  obtain ⟨p, l', e, R, s, m, args, below, meth, c, Q, A⟩ := X
  exact fun H locs ls hP hD hS hl => kk H locs ls hP hD hS (lv_sub hl ks h)
theorem u_lvq {g : Gl} {X : Cx} {nL n k pc : Nat} {ws : va_W} {lv : List (Nat × Value)} {st : List Value} (lv' : List (Nat × Value)) (h : lv = lv') (kk : Vw g X nL n k ws pc lv' st) : Vw g X nL n k ws pc lv st := h ▸ kk
theorem clb (x : Int32) : x.toNatClampNeg < 2 ^ 31 := by
  have h := x.toInt_lt
  have h2 : (x.toNatClampNeg : Int) = max x.toInt 0 := by
    show ((x.toInt.toNat : Nat) : Int) = _
    omega
  omega
theorem cl_ge {x : Int32} {i : Nat} (h : x.toNatClampNeg ≤ i) (hi : i < 2 ^ 31) : x ≤ nI i := by
  rw [Int32.le_iff_toInt_le, nI_toInt hi]
  have h2 : x.toNatClampNeg = x.toInt.toNat := rfl
  omega
theorem cl_lt {x : Int32} {i : Nat} (h : i < x.toNatClampNeg) : ¬ x ≤ nI i := by
  have hb := clb x
  rw [Int32.le_iff_toInt_le, nI_toInt (by omega)]
  have h2 : x.toNatClampNeg = x.toInt.toNat := rfl
  omega
theorem natc {x : Int32} {B : Nat} (hB : B < 2 ^ 31) (h : ∃ j, j < B ∧ x = nI j) : x.toNatClampNeg < B ∧ nI x.toNatClampNeg = x := by
  obtain ⟨j, h1, rfl⟩ := h
  rw [nI_clamp (by omega)]
  exact ⟨h1, rfl⟩
theorem u_stq {g : Gl} {X : Cx} {nL n k pc : Nat} {ws : va_W} {lv : List (Nat × Value)} {st : List Value} (st' : List Value) (h : st = st') (kk : Vw g X nL n k ws pc lv st') : Vw g X nL n k ws pc lv st := h ▸ kk
theorem u_wsq {g : Gl} {X : Cx} {nL n k pc : Nat} {ws : va_W} {lv : List (Nat × Value)} {st : List Value} (ws' : va_W) (h : ws = ws') (kk : Vw g X nL n k ws' pc lv st) : Vw g X nL n k ws pc lv st := h ▸ kk
def wMom (g : Gl) (a p q : Nat) (pl sp : Nat → Int32) (be ti : Int32) : va_W := [(a, .inr (2, [.ref p, .ref q, .int be, .int ti])), (p, .inl (g.2.1, 6, .inl pl)), (q, .inl (g.2.1, 6, .inl sp))]
def wTol (g : Gl) (b d : Nat) (dr : Nat → Int32) (pc sl : Int32) (tp : Nat) : va_W := [(b, .inr (7, [.ref d, .int pc, .int sl, .int (nI tp)])), (d, .inl (g.2.1, 6, .inl dr))]
def wTex (g : Gl) (x xa : Nat) (le : Nat → Int32) (ln : Nat) : va_W := [(x, .inr (6, [.ref xa, .int (nI ln)])), (xa, .inl (g.2.1, 120, .inl le))]
def wRea (r x b a : Nat) (it st tk vl : Int32) (bg bh : Nat) : va_W := [(r, .inr (4, [.ref x, .ref b, .ref a, .int it, .int st, .int tk, .int vl, .int (nI bg), .int (nI bh)]))]
def wFut (f a : Nat) (rs rb ou ol : Int32) : va_W := [(f, .inr (0, [.ref a, .int rs, .int rb, .int ou, .int ol]))]
def wSee (g : Gl) (s sa sb sc : Nat) (fi bt su : Nat → Int32) (kn : Nat) : va_W := [(s, .inr (5, [.ref sa, .ref sb, .ref sc, .int (nI kn)])), (sa, .inl (g.2.1, 6, .inl fi)), (sb, .inl (g.2.1, 6, .inl bt)), (sc, .inl (g.2.1, 6, .inl su))]
def wKin (k : Nat) (tr : Int64) : va_W := [(k, .inr (1, [.long tr]))]

