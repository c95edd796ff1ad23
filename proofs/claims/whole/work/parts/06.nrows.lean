theorem r_icmpeqN {l : Launch} {g : Gl} {X : Cx} {own : String} {cc : ByteArray} {nL d n k pc : Nat} {ws : va_W} {lv : List (Nat × Value)} {rest : List Value} {x y : Int32} {off : Int} (a b tgt : Nat) (C : Ok l g X own cc nL d) (hd : decode cc pc = .ok (.if_icmp .eq off, 3)) (ht : (pc : Int) + off = (tgt : Int)) (hxa : x = nI a) (hyb : y = nI b) (ha : a < 2 ^ 31) (hb : b < 2 ^ 31) (kt : a = b → Vw g X nL n k ws tgt lv rest) (kf : ¬ a = b → Vw g X nL n k ws (pc + 3) lv rest) : Vw g X nL n k ws pc lv (.int y :: .int x :: rest) := by
  subst hxa; subst hyb
  exact r_icmpeq tgt C hd ht (fun h => kt ((nI_eq ha hb).mp h)) (fun h => kf (fun e => h ((nI_eq ha hb).mpr e)))
theorem r_icmpneN {l : Launch} {g : Gl} {X : Cx} {own : String} {cc : ByteArray} {nL d n k pc : Nat} {ws : va_W} {lv : List (Nat × Value)} {rest : List Value} {x y : Int32} {off : Int} (a b tgt : Nat) (C : Ok l g X own cc nL d) (hd : decode cc pc = .ok (.if_icmp .ne off, 3)) (ht : (pc : Int) + off = (tgt : Int)) (hxa : x = nI a) (hyb : y = nI b) (ha : a < 2 ^ 31) (hb : b < 2 ^ 31) (kt : ¬ a = b → Vw g X nL n k ws tgt lv rest) (kf : a = b → Vw g X nL n k ws (pc + 3) lv rest) : Vw g X nL n k ws pc lv (.int y :: .int x :: rest) := by
  subst hxa; subst hyb
  exact r_icmpne tgt C hd ht (fun h => kt (fun e => h ((nI_eq ha hb).mpr e))) (fun h => kf ((nI_eq ha hb).mp h))
theorem r_icmpltN {l : Launch} {g : Gl} {X : Cx} {own : String} {cc : ByteArray} {nL d n k pc : Nat} {ws : va_W} {lv : List (Nat × Value)} {rest : List Value} {x y : Int32} {off : Int} (a b tgt : Nat) (C : Ok l g X own cc nL d) (hd : decode cc pc = .ok (.if_icmp .lt off, 3)) (ht : (pc : Int) + off = (tgt : Int)) (hxa : x = nI a) (hyb : y = nI b) (ha : a < 2 ^ 31) (hb : b < 2 ^ 31) (kt : a < b → Vw g X nL n k ws tgt lv rest) (kf : ¬ a < b → Vw g X nL n k ws (pc + 3) lv rest) : Vw g X nL n k ws pc lv (.int y :: .int x :: rest) := by
  subst hxa; subst hyb
  exact r_icmplt tgt C hd ht (fun h => kt ((nI_ltI ha hb).mp h)) (fun h => kf (fun e => h ((nI_ltI ha hb).mpr e)))
theorem r_icmpgeN {l : Launch} {g : Gl} {X : Cx} {own : String} {cc : ByteArray} {nL d n k pc : Nat} {ws : va_W} {lv : List (Nat × Value)} {rest : List Value} {x y : Int32} {off : Int} (a b tgt : Nat) (C : Ok l g X own cc nL d) (hd : decode cc pc = .ok (.if_icmp .ge off, 3)) (ht : (pc : Int) + off = (tgt : Int)) (hxa : x = nI a) (hyb : y = nI b) (ha : a < 2 ^ 31) (hb : b < 2 ^ 31) (kt : b ≤ a → Vw g X nL n k ws tgt lv rest) (kf : ¬ b ≤ a → Vw g X nL n k ws (pc + 3) lv rest) : Vw g X nL n k ws pc lv (.int y :: .int x :: rest) := by
  subst hxa; subst hyb
  exact r_icmpge tgt C hd ht (fun h => kt ((nI_leI hb ha).mp h)) (fun h => kf (fun e => h ((nI_leI hb ha).mpr e)))
theorem r_icmpgtN {l : Launch} {g : Gl} {X : Cx} {own : String} {cc : ByteArray} {nL d n k pc : Nat} {ws : va_W} {lv : List (Nat × Value)} {rest : List Value} {x y : Int32} {off : Int} (a b tgt : Nat) (C : Ok l g X own cc nL d) (hd : decode cc pc = .ok (.if_icmp .gt off, 3)) (ht : (pc : Int) + off = (tgt : Int)) (hxa : x = nI a) (hyb : y = nI b) (ha : a < 2 ^ 31) (hb : b < 2 ^ 31) (kt : b < a → Vw g X nL n k ws tgt lv rest) (kf : ¬ b < a → Vw g X nL n k ws (pc + 3) lv rest) : Vw g X nL n k ws pc lv (.int y :: .int x :: rest) := by
  subst hxa; subst hyb
  exact r_icmpgt tgt C hd ht (fun h => kt ((nI_ltI hb ha).mp h)) (fun h => kf (fun e => h ((nI_ltI hb ha).mpr e)))
theorem r_icmpleN {l : Launch} {g : Gl} {X : Cx} {own : String} {cc : ByteArray} {nL d n k pc : Nat} {ws : va_W} {lv : List (Nat × Value)} {rest : List Value} {x y : Int32} {off : Int} (a b tgt : Nat) (C : Ok l g X own cc nL d) (hd : decode cc pc = .ok (.if_icmp .le off, 3)) (ht : (pc : Int) + off = (tgt : Int)) (hxa : x = nI a) (hyb : y = nI b) (ha : a < 2 ^ 31) (hb : b < 2 ^ 31) (kt : a ≤ b → Vw g X nL n k ws tgt lv rest) (kf : ¬ a ≤ b → Vw g X nL n k ws (pc + 3) lv rest) : Vw g X nL n k ws pc lv (.int y :: .int x :: rest) := by
  subst hxa; subst hyb
  exact r_icmple tgt C hd ht (fun h => kt ((nI_leI ha hb).mp h)) (fun h => kf (fun e => h ((nI_leI ha hb).mpr e)))
theorem nI_z {a : Nat} (ha : a < 2 ^ 31) : nI a = 0 ↔ a = 0 := by rw [← nI_0]; exact nI_eq ha (by decide)
theorem nI_lez {a : Nat} (ha : a < 2 ^ 31) : nI a ≤ 0 ↔ a ≤ 0 := by rw [← nI_0]; exact nI_leI ha (by decide)
theorem nI_gtz {a : Nat} (ha : a < 2 ^ 31) : 0 < nI a ↔ 0 < a := by rw [← nI_0]; exact nI_ltI (by decide) ha
theorem r_ifeqN {l : Launch} {g : Gl} {X : Cx} {own : String} {cc : ByteArray} {nL d n k pc : Nat} {ws : va_W} {lv : List (Nat × Value)} {rest : List Value} {x : Int32} {off : Int} (a tgt : Nat) (C : Ok l g X own cc nL d) (hd : decode cc pc = .ok (.ifCond .eq off, 3)) (ht : (pc : Int) + off = (tgt : Int)) (hxa : x = nI a) (ha : a < 2 ^ 31) (kt : a = 0 → Vw g X nL n k ws tgt lv rest) (kf : ¬ a = 0 → Vw g X nL n k ws (pc + 3) lv rest) : Vw g X nL n k ws pc lv (.int x :: rest) := by
  subst hxa
  exact r_ifeq tgt C hd ht (fun h => kt ((nI_z ha).mp h)) (fun h => kf (fun e => h ((nI_z ha).mpr e)))
theorem r_ifneN {l : Launch} {g : Gl} {X : Cx} {own : String} {cc : ByteArray} {nL d n k pc : Nat} {ws : va_W} {lv : List (Nat × Value)} {rest : List Value} {x : Int32} {off : Int} (a tgt : Nat) (C : Ok l g X own cc nL d) (hd : decode cc pc = .ok (.ifCond .ne off, 3)) (ht : (pc : Int) + off = (tgt : Int)) (hxa : x = nI a) (ha : a < 2 ^ 31) (kt : ¬ a = 0 → Vw g X nL n k ws tgt lv rest) (kf : a = 0 → Vw g X nL n k ws (pc + 3) lv rest) : Vw g X nL n k ws pc lv (.int x :: rest) := by
  subst hxa
  exact r_ifne tgt C hd ht (fun h => kt (fun e => h ((nI_z ha).mpr e))) (fun h => kf ((nI_z ha).mp h))
theorem r_ifgtN {l : Launch} {g : Gl} {X : Cx} {own : String} {cc : ByteArray} {nL d n k pc : Nat} {ws : va_W} {lv : List (Nat × Value)} {rest : List Value} {x : Int32} {off : Int} (a tgt : Nat) (C : Ok l g X own cc nL d) (hd : decode cc pc = .ok (.ifCond .gt off, 3)) (ht : (pc : Int) + off = (tgt : Int)) (hxa : x = nI a) (ha : a < 2 ^ 31) (kt : 0 < a → Vw g X nL n k ws tgt lv rest) (kf : ¬ 0 < a → Vw g X nL n k ws (pc + 3) lv rest) : Vw g X nL n k ws pc lv (.int x :: rest) := by
  subst hxa
  exact r_ifgt tgt C hd ht (fun h => kt ((nI_gtz ha).mp h)) (fun h => kf (fun e => h ((nI_gtz ha).mpr e)))
theorem r_ifleN {l : Launch} {g : Gl} {X : Cx} {own : String} {cc : ByteArray} {nL d n k pc : Nat} {ws : va_W} {lv : List (Nat × Value)} {rest : List Value} {x : Int32} {off : Int} (a tgt : Nat) (C : Ok l g X own cc nL d) (hd : decode cc pc = .ok (.ifCond .le off, 3)) (ht : (pc : Int) + off = (tgt : Int)) (hxa : x = nI a) (ha : a < 2 ^ 31) (kt : a ≤ 0 → Vw g X nL n k ws tgt lv rest) (kf : ¬ a ≤ 0 → Vw g X nL n k ws (pc + 3) lv rest) : Vw g X nL n k ws pc lv (.int x :: rest) := by
  subst hxa
  exact r_ifle tgt C hd ht (fun h => kt ((nI_lez ha).mp h)) (fun h => kf (fun e => h ((nI_lez ha).mpr e)))
theorem r_mminN {l : Launch} {g : Gl} {X : Cx} {own : String} {cc : ByteArray} {nL d n k pc : Nat} {ws : va_W} {lv : List (Nat × Value)} {rest : List Value} {index : Nat} {x y : Int32} (a b : Nat) (C : Ok l g X own cc nL d) (hd : decode cc pc = .ok (.invokestatic index, 3)) (hlink : Cond.methodLink own index Lib.Math.min.name ∈ BIG) (hd1 : 1 ≤ d) (hcat : (rest.map fun v => v.category).sum ≤ 8) (hnk : n ≤ cellsX X ∧ k ≤ slotsX X) (hxa : x = nI a) (hyb : y = nI b) (ha : a < 2 ^ 31) (hb : b < 2 ^ 31) (kk : Vw g X nL n k ws (pc + 3) lv (.int (nI (min a b)) :: rest)) : Vw g X nL n k ws pc lv (.int y :: .int x :: rest) := by
  subst hxa; subst hyb
  refine r_mmin C hd hlink mst_min miz mco_min hd1 hcat hnk ?_
  have e : (if nI b < nI a then nI b else nI a) = nI (min a b) := by
    by_cases h : b < a
    · rw [if_pos ((nI_ltI hb ha).mpr h), Nat.min_eq_right (by omega)]
    · rw [if_neg (fun q => h ((nI_ltI hb ha).mp q)), Nat.min_eq_left (by omega)]
  rw [e]; exact kk
theorem nar_b {r : Int32} (h : r = 0 ∨ r = 1) : narrow .boolean (.int r) = .int r := by rcases h with rfl | rfl <;> rfl
theorem fit_b {r : Int32} (h : r = 0 ∨ r = 1) : fits .boolean (.int r) = true := by rcases h with rfl | rfl <;> rfl

theorem u_int {g : Gl} {X : Cx} {nL n k pc : Nat} {ws : va_W} {lv : List (Nat × Value)} {rest : List Value} {x : Int32} (kk : ∀ z : Int32, z = x → Vw g X nL n k ws pc lv (.int z :: rest)) : Vw g X nL n k ws pc lv (.int x :: rest) := kk x rfl
theorem u_lng {g : Gl} {X : Cx} {nL n k pc : Nat} {ws : va_W} {lv : List (Nat × Value)} {rest : List Value} {x : Int64} (kk : ∀ z : Int64, z = x → Vw g X nL n k ws pc lv (.long z :: rest)) : Vw g X nL n k ws pc lv (.long x :: rest) := kk x rfl
theorem u_lv {g : Gl} {X : Cx} {nL n k pc : Nat} {ws : va_W} {lv : List (Nat × Value)} {st : List Value} (lv' : List (Nat × Value)) (ks : List Nat) (h : lv_pick lv ks = lv') (kk : Vw g X nL n k ws pc lv' st) : Vw g X nL n k ws pc lv st := by
  obtain ⟨p, l', e, R, s, m, args, below, meth, c, Q, A⟩ := X
  exact fun H locs ls hP hD hS hl => kk H locs ls hP hD hS (lv_sub hl ks h)
theorem u_lvq {g : Gl} {X : Cx} {nL n k pc : Nat} {ws : va_W} {lv : List (Nat × Value)} {st : List Value} (lv' : List (Nat × Value)) (h : lv = lv') (kk : Vw g X nL n k ws pc lv' st) : Vw g X nL n k ws pc lv st := h ▸ kk
theorem clb (x : Int32) : x.toNatClampNeg < 2 ^ 31 := by
  have h := x.toInt_lt
  have h2 : (x.toNatClampNeg : Int) = max x.toInt 0 := by
    show ((x.toInt.toNat : Nat) : Int) = _
    omega
  omega
theorem cl_ge {x : Int32} {i : Nat} (h : x.toNatClampNeg ≤ i) (hi : i < 2 ^ 31) : x ≤ nI i := by
  rw [Int32.le_iff_toInt_le, nI_toInt hi]
  have h2 : x.toNatClampNeg = x.toInt.toNat := rfl
  omega
theorem cl_lt {x : Int32} {i : Nat} (h : i < x.toNatClampNeg) : ¬ x ≤ nI i := by
  have hb := clb x
  rw [Int32.le_iff_toInt_le, nI_toInt (by omega)]
  have h2 : x.toNatClampNeg = x.toInt.toNat := rfl
  omega
theorem natc {x : Int32} {B : Nat} (hB : B < 2 ^ 31) (h : ∃ j, j < B ∧ x = nI j) : x.toNatClampNeg < B ∧ nI x.toNatClampNeg = x := by
  obtain ⟨j, h1, rfl⟩ := h
  rw [nI_clamp (by omega)]
  exact ⟨h1, rfl⟩
theorem u_stq {g : Gl} {X : Cx} {nL n k pc : Nat} {ws : va_W} {lv : List (Nat × Value)} {st : List Value} (st' : List Value) (h : st = st') (kk : Vw g X nL n k ws pc lv st') : Vw g X nL n k ws pc lv st := h ▸ kk
theorem u_wsq {g : Gl} {X : Cx} {nL n k pc : Nat} {ws : va_W} {lv : List (Nat × Value)} {st : List Value} (ws' : va_W) (h : ws = ws') (kk : Vw g X nL n k ws' pc lv st) : Vw g X nL n k ws pc lv st := h ▸ kk
def wMom (g : Gl) (a p q : Nat) (pl sp : Nat → Int32) (be ti : Int32) : va_W := [(a, .inr (2, [.ref p, .ref q, .int be, .int ti])), (p, .inl (g.2.1, 6, .inl pl)), (q, .inl (g.2.1, 6, .inl sp))]
def wTol (g : Gl) (b d : Nat) (dr : Nat → Int32) (pc sl : Int32) (tp : Nat) : va_W := [(b, .inr (7, [.ref d, .int pc, .int sl, .int (nI tp)])), (d, .inl (g.2.1, 6, .inl dr))]
def wTex (g : Gl) (x xa : Nat) (le : Nat → Int32) (ln : Nat) : va_W := [(x, .inr (6, [.ref xa, .int (nI ln)])), (xa, .inl (g.2.1, 120, .inl le))]
def wRea (r x b a : Nat) (it st tk vl : Int32) (bg bh : Nat) : va_W := [(r, .inr (4, [.ref x, .ref b, .ref a, .int it, .int st, .int tk, .int vl, .int (nI bg), .int (nI bh)]))]
def wFut (f a : Nat) (rs : Int32) (rb : Nat) (ou ol : Int32) : va_W := [(f, .inr (0, [.ref a, .int rs, .int (nI rb), .int ou, .int ol]))]
def wSee (g : Gl) (s sa sb sc : Nat) (fi bt su : Nat → Int32) (kn : Nat) : va_W := [(s, .inr (5, [.ref sa, .ref sb, .ref sc, .int (nI kn)])), (sa, .inl (g.2.1, 6, .inl fi)), (sb, .inl (g.2.1, 6, .inl bt)), (sc, .inl (g.2.1, 6, .inl su))]
def wM10 (f : Nat → va_W) : va_W := f 0 ++ (f 1 ++ (f 2 ++ (f 3 ++ (f 4 ++ (f 5 ++ (f 6 ++ (f 7 ++ (f 8 ++ f 9))))))))
def wPa0 (g : Gl) (ps ma : Nat) (mo : Nat → Nat) (nx kn : Nat) : va_W := [(ps, .inr (3, [.ref ma, .int (nI nx), .int (nI kn)])), (ma, .inl (g.2.2.2.2, 10, .inr (.inr (.inr (.inr (fun i => some (mo i)))))))]
def wPas (g : Gl) (ps ma : Nat) (mo mp mq : Nat → Nat) (PL SP : Nat → Nat → Int32) (BE TI : Nat → Int32) (nx kn : Nat) : va_W := wPa0 g ps ma mo nx kn ++ wM10 (fun i => wMom g (mo i) (mp i) (mq i) (PL i) (SP i) (BE i) (TI i))
def wPax (g : Gl) (mo mp mq : Nat → Nat) (PL SP : Nat → Nat → Int32) (BE TI : Nat → Int32) (k : Nat) : va_W := ((List.range 10).filter (fun i => !(i == k))).flatMap (fun i => wMom g (mo i) (mp i) (mq i) (PL i) (SP i) (BE i) (TI i))
theorem m10_eq (f : Nat → va_W) : wM10 f = (List.range 10).flatMap f := by
  rw [show List.range 10 = [0, 1, 2, 3, 4, 5, 6, 7, 8, 9] from by decide]
  simp [wM10, List.flatMap_cons]
theorem m10_perm (f : Nat → va_W) {k : Nat} (hk : k < 10) : (wM10 f).Perm (f k ++ ((List.range 10).filter (fun i => !(i == k))).flatMap f) := by
  rw [m10_eq, ← List.flatMap_cons]
  refine List.Perm.flatMap_right f ?_
  have h : ∀ k, k < 10 → (List.range 10).Perm (k :: (List.range 10).filter (fun i => !(i == k))) := by decide
  exact h k hk
theorem pas_in (g : Gl) (ps ma : Nat) (mo mp mq : Nat → Nat) (PL SP : Nat → Nat → Int32) (BE TI : Nat → Int32) (nx kn : Nat) {k : Nat} (hk : k < 10) (R : va_W) : (wPas g ps ma mo mp mq PL SP BE TI nx kn ++ R).Perm (wPa0 g ps ma mo nx kn ++ wMom g (mo k) (mp k) (mq k) (PL k) (SP k) (BE k) (TI k) ++ R ++ wPax g mo mp mq PL SP BE TI k) := by
  unfold wPas wPax
  rw [List.append_assoc, List.append_assoc, List.append_assoc]
  refine List.Perm.append_left _ ?_
  refine (List.Perm.append_right R (m10_perm _ hk)).trans ?_
  rw [List.append_assoc]
  exact List.Perm.append_left _ List.perm_append_comm
theorem pax_up (g : Gl) (mo mp mq : Nat → Nat) (PL SP : Nat → Nat → Int32) (BE TI : Nat → Int32) (k : Nat) (pl sp : Nat → Int32) (be ti : Int32) : wPax g mo mp mq (va_up PL k pl) (va_up SP k sp) (va_up BE k be) (va_up TI k ti) k = wPax g mo mp mq PL SP BE TI k := by
  unfold wPax
  rw [List.flatMap_def, List.flatMap_def]
  congr 1
  refine List.map_congr_left ?_
  intro i hi
  have h1 : i ≠ k := by
    have h2 := (List.mem_filter.mp hi).2
    intro e
    subst e
    simp at h2
  rw [va_up_ne _ _ h1, va_up_ne _ _ h1, va_up_ne _ _ h1, va_up_ne _ _ h1]
theorem va_D_pw {A : Nat → Prop} {ws : va_W} : va_D A ws ↔ (ws.Pairwise (fun a b => a.1 ≠ b.1) ∧ ∀ q ∈ ws, A q.1) := by
  constructor
  · intro h
    refine ⟨List.pairwise_iff_getElem.mpr (fun i j hi hj hij e => ?_), fun q hq => ?_⟩
    · have := h.1 i j _ _ (List.getElem?_eq_getElem hi) (List.getElem?_eq_getElem hj) e
      omega
    · obtain ⟨j, hj⟩ := List.getElem?_of_mem hq
      exact h.2 j q hj
  · intro h
    refine ⟨fun i j p q hp hq e => ?_, fun k q hq => h.2 q (List.mem_of_getElem? hq)⟩
    obtain ⟨hi1, hi2⟩ := List.getElem?_eq_some_iff.mp hp
    obtain ⟨hj1, hj2⟩ := List.getElem?_eq_some_iff.mp hq
    have pw := List.pairwise_iff_getElem.mp h.1
    rcases Nat.lt_trichotomy i j with c | c | c
    · exact absurd (by rw [hi2, hj2]; exact e) (pw i j hi1 hj1 c)
    · exact c
    · exact absurd (by rw [hi2, hj2]; exact e.symm) (pw j i hj1 hi1 c)
theorem va_D_perm {A : Nat → Prop} {ws ws' : va_W} (h : ws.Perm ws') (hD : va_D A ws) : va_D A ws' := by
  rw [va_D_pw] at hD ⊢
  exact ⟨(List.Perm.pairwise_iff (fun {a b} (e : a.1 ≠ b.1) => e.symm) h).mp hD.1, fun q hq => hD.2 q (h.symm.subset hq)⟩
theorem u_perm {g : Gl} {X : Cx} {nL n k pc : Nat} {ws : va_W} {lv : List (Nat × Value)} {st : List Value} (ws' : va_W) (h : ws.Perm ws') (kk : Vw g X nL n k ws' pc lv st) : Vw g X nL n k ws pc lv st := by
  obtain ⟨p, l', e, R, s, m, args, below, meth, c, Q, A⟩ := X
  refine fun H locs ls hP hD hS hl => kk H locs ls (fun j q hq => ?_) (va_D_perm h hD) hS hl
  obtain ⟨i, hi⟩ := List.getElem?_of_mem (h.symm.subset (List.mem_of_getElem? hq))
  exact hP i q hi
def wSpn (o x r tb na ps im kp f s k : Nat) : va_W := [(o, .inr (8, [.ref x, .ref r, .ref tb, .ref na, .ref ps, .ref im, .ref kp, .ref f, .ref s, .ref k]))]
def wImg (g : Gl) (im i0 i1 : Nat) : va_W := [(im, .inl (g.2.2.2.2, 2, .inr (.inr (.inr (.inr (fun i => some (if i = 0 then i0 else i1)))))))]
def wKep (g : Gl) (kp : Nat) (ke : Nat → Int32) : va_W := [(kp, .inl (g.2.2.2.1, 2, .inl ke))]
def wMod (g : Gl) (m a1 a2 a3 a4 a5 a6 a7 a8 a9 aa : Nat) (mp : Int32) (mt : Nat) (ml : Int32) (md : Nat → Int32) (np : Int32) (nt : Nat) (nl : Int32) (nP nS nD so : Nat → Int32) (ac : Nat) (mk : Nat → Int32) (mn : Nat) (mx : Nat → Int32) (nx mq : Nat) (mv wr ts : Int32) (sn : Nat) (sF sB sS : Nat → Int32) (mm : Int64) : va_W := [(m, .inr (9, [.int mp, .int (nI mt), .int ml, .ref a1, .int np, .int (nI nt), .int nl, .ref a2, .ref a3, .ref a4, .ref a5, .int (nI ac), .ref a6, .int (nI mn), .ref a7, .int (nI nx), .int (nI mq), .int mv, .int wr, .int ts, .int (nI sn), .ref a8, .ref a9, .ref aa, .long mm])), (a1, .inl (g.2.1, 6, .inl md)), (a2, .inl (g.2.1, 6, .inl nP)), (a3, .inl (g.2.1, 6, .inl nS)), (a4, .inl (g.2.1, 6, .inl nD)), (a5, .inl (g.2.1, 210, .inl so)), (a6, .inl (g.2.1, 2, .inl mk)), (a7, .inl (g.2.2.1, 120, .inl mx)), (a8, .inl (g.2.1, 6, .inl sF)), (a9, .inl (g.2.1, 6, .inl sB)), (aa, .inl (g.2.1, 6, .inl sS))]
def wKin (k : Nat) (tr : Int64) : va_W := [(k, .inr (1, [.long tr]))]

