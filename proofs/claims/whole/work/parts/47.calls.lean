theorem isTop_eq (mt : Nat) (t : Int32) : fX9_isTop mt t = fX8_isTop mt t := by
  simp only [fX9_isTop, fX8_isTop]; exact in_lit (by decide) rfl
theorem isTop_n {mt : Nat} {t : Int32} (hmt : mt ≤ 6) (h : ¬ fX8_isTop mt t = 0) : t.toNatClampNeg < mt ∧ nI t.toNatClampNeg = t := by
  simp only [fX8_isTop] at h
  obtain ⟨a, b⟩ := within_iff.mp h
  have e : (nI mt - 1).toInt = (mt : Int) - 1 := by
    rw [m_sub (by rw [nI_toInt (by omega)]; omega) (by rw [nI_toInt (by omega)]; omega) (by rw [m_1]; omega) (by rw [m_1]; omega), nI_toInt (by omega), m_1]
  have b' := b
  rw [m_le, e] at b'
  have a' := a
  rw [m_le, m_0] at a'
  obtain ⟨c, d⟩ := m_nat (n := mt - 1) a (by omega) (by omega)
  exact ⟨by omega, d⟩
theorem rm0_sp {pl sp so : Nat → Int32} {be ti : Int32} (h : RM pl sp be ti so 0) {t : Nat} (ht : t < 6) : so (6 + t) = sp t := by
  have := h.1 t ht; rw [Nat.zero_add] at this; exact this
theorem rm0_12 {pl sp so : Nat → Int32} {be ti : Int32} (h : RM pl sp be ti so 0) : so 12 = fX2_standing sp := h.2.1
theorem rm0_13 {pl sp so : Nat → Int32} {be ti : Int32} (h : RM pl sp be ti so 0) : so 13 = be := h.2.2.1
theorem rm0_14 {pl sp so : Nat → Int32} {be ti : Int32} (h : RM pl sp be ti so 0) : so 14 = ti := h.2.2.2.1
theorem rm0_pl {pl sp so : Nat → Int32} {be ti : Int32} (h : RM pl sp be ti so 0) {t : Nat} (ht : t < 6) (hp : 0 < sp t) : so t = pl t := by
  have := h.2.2.2.2 t ht hp; rw [Nat.zero_add] at this; exact this
theorem rm0_st {pl sp so : Nat → Int32} {be ti : Int32} (h : RM pl sp be ti so 0) {t : Nat} (ht : t < 6) : fX9_stands so (nI t) = fX2_stands sp t := by
  simp only [fX9_stands, rm0_12 h]
  by_cases hp : 0 < sp t
  · rw [has_1 ht hp, st_1 hp]
  · rw [has_0 ht hp, st_0 hp]
theorem spins_c {sp : Nat → Int32} : ∀ n m i x, (∀ t, i + n ≤ t → t < i + n + m → sp t = 0) → lX2_allSpins_4 sp (n + m) x i = lX2_allSpins_4 sp n x i := by
  intro n
  induction n with
  | zero =>
    intro m
    induction m with
    | zero => intro i x _; rfl
    | succ m ih =>
      intro i x h
      have e := h i (by omega) (by omega)
      have := ih (i + 1) x (fun t a b => h t (by omega) (by omega))
      simp only [Nat.zero_add] at this ⊢
      simp only [lX2_allSpins_4, e, m_add0] at this ⊢
      exact this
  | succ n ih =>
    intro m i x h
    rw [show n + 1 + m = (n + m) + 1 from by omega]
    simp only [lX2_allSpins_4]
    exact ih m (i + 1) _ (fun t a b => h t (by omega) (by omega))
theorem spins_m {sp so : Nat → Int32} : ∀ n i x, (∀ t, i ≤ t → t < i + n → so (6 + t) = sp t) → lX9_spins_4 so n x i = lX2_allSpins_4 sp n x i := by
  intro n
  induction n with
  | zero => intro i x _; rfl
  | succ n ih =>
    intro i x h
    simp only [lX9_spins_4, lX2_allSpins_4, h i (by omega) (by omega)]
    exact ih (i + 1) _ (fun t a b => h t (by omega) (by omega))
theorem allSpins_sim {pl sp so : Nat → Int32} {be ti mp : Int32} {mt : Nat} (hmt : mt ≤ 6) (hR : RM pl sp be ti so 0) (hM : MI mt mp pl sp) : fX2_allSpins sp = fX9_spins mt so := by
  simp only [fX2_allSpins, fX9_spins]
  have := spins_c (sp := sp) mt (6 - mt) 0 0 (fun t a b => (hM.1 t (by omega)).2.2 (by omega))
  rw [show mt + (6 - mt) = 6 from by omega] at this
  rw [this, spins_m mt 0 0 (fun t _ b => rm0_sp hR (by omega))]
def MOM (mt : Nat) (mp : Int32) (pl sp : Nat → Int32) (be ti : Int32) (so : Nat → Int32) (b : Nat) : Prop := RM pl sp be ti so b ∧ MI mt mp pl sp ∧ 0 ≤ be.toInt ∧ be.toInt ≤ 999
theorem mom_frm {mt : Nat} {mp : Int32} {pl sp so so' : Nat → Int32} {be ti : Int32} {b b1 : Nat} (h : MOM mt mp pl sp be ti so b) (hf : FRM so so' b1) (hd : b + 15 ≤ b1 ∨ b1 + 15 ≤ b) : MOM mt mp pl sp be ti so' b := ⟨rm_frm h.1 hf hd, h.2⟩
theorem mom_copy {mt : Nat} {mp : Int32} {pl sp so pl' sp' : Nat → Int32} {be ti : Int32} {b0 b1 : Nat} (hd : b0 + 15 ≤ b1 ∨ b1 + 15 ≤ b0) (h : MOM mt mp pl sp be ti so b0) : MOM mt mp (va_cpy pl pl' 0 0 6) (va_cpy sp sp' 0 0 6) be ti (fX9_copies so b0 b1) b1 := ⟨rm_ext (fun _ ht => cpy_at ht) (fun _ ht => cpy_at ht) (rm_copies hd h.1), mi_ext (fun _ ht => cpy_at ht) (fun _ ht => cpy_at ht) h.2.1, h.2.2⟩
theorem mom_sh {mt : Nat} {mp : Int32} {pl sp so so' : Nat → Int32} {be ti : Int32} {b b' : Nat} (h : MOM mt mp pl sp be ti so b) (he : ∀ k, k < 15 → so' (b' + k) = so (b + k)) : MOM mt mp pl sp be ti so' b' := by
  obtain ⟨⟨h1, h2, h3, h4, h5⟩, h6⟩ := h
  refine ⟨⟨fun t ht => ?_, ?_, ?_, ?_, fun t ht hp => ?_⟩, h6⟩
  · rw [Nat.add_assoc, he _ (by omega), ← Nat.add_assoc]; exact h1 t ht
  · rw [he _ (by omega)]; exact h2
  · rw [he _ (by omega)]; exact h3
  · rw [he _ (by omega)]; exact h4
  · rw [he _ (by omega)]; exact h5 t ht hp
def PAS (mt : Nat) (mp : Int32) (PL SP : Nat → Nat → Int32) (BE TI : Nat → Int32) (nx ac : Nat) (so : Nat → Int32) : Prop := nx < 10 ∧ ac ≤ 10 ∧ ∀ k, k < ac → MOM mt mp (PL ((nx + 9 - k) % 10)) (SP ((nx + 9 - k) % 10)) (BE ((nx + 9 - k) % 10)) (TI ((nx + 9 - k) % 10)) so ((ac - k) * 15)
def IMG (mt : Nat) (mp : Int32) (pl sp : Nat → Int32) (be ti : Int32) (k0 k1 : Int32) (so : Nat → Int32) (b : Nat) : Prop := k0 = k1 ∧ (k1 = 0 ∨ MOM mt mp pl sp be ti so b)
theorem pas_frm {mt : Nat} {mp : Int32} {PL SP : Nat → Nat → Int32} {BE TI : Nat → Int32} {nx ac b1 : Nat} {so so' : Nat → Int32} (h : PAS mt mp PL SP BE TI nx ac so) (hf : FRM so so' b1) (hb : b1 = 0 ∨ 165 ≤ b1) : PAS mt mp PL SP BE TI nx ac so' := ⟨h.1, h.2.1, fun k hk => mom_frm (h.2.2 k hk) hf (by have := h.2.1; omega)⟩
theorem img_frm {mt : Nat} {mp : Int32} {pl sp so so' : Nat → Int32} {be ti k0 k1 : Int32} {b b1 : Nat} (h : IMG mt mp pl sp be ti k0 k1 so b) (hf : FRM so so' b1) (hd : b + 15 ≤ b1 ∨ b1 + 15 ≤ b) : IMG mt mp pl sp be ti k0 k1 so' b := ⟨h.1, h.2.imp id (fun m => mom_frm m hf hd)⟩
theorem known12 : ∀ n i (so : Nat → Int32), i + n ≤ 150 → 15 ≤ i → ∀ j, lX9_known_12 n i so j = if i ≤ j ∧ j < i + n then so (j + 15) else so j := by
  intro n
  induction n with
  | zero => intro i so _ _ j; rw [if_neg (by omega)]; rfl
  | succ n ih =>
    intro i so hi h15 j
    simp only [lX9_known_12]
    rw [ih (i + 1) _ (by omega) (by omega) j]
    by_cases e : j = i
    · subst e; rw [if_neg (by omega), if_pos (by omega), m_us]
    · by_cases c : i + 1 ≤ j ∧ j < i + 1 + n
      · rw [if_pos c, if_pos (by omega), m_un (by omega)]
      · rw [if_neg c, if_neg (by omega), m_un e]
theorem known_sim {mt : Nat} {mp : Int32} {pl sp so : Nat → Int32} {be ti : Int32} {PL SP : Nat → Nat → Int32} {BE TI : Nat → Int32} {nx ac : Nat} (h : MOM mt mp pl sp be ti so 0) (hp : PAS mt mp PL SP BE TI nx ac so) : PAS mt mp (fX3_remember PL SP BE TI nx ac pl sp be ti).1 (fX3_remember PL SP BE TI nx ac pl sp be ti).2.1 (fX3_remember PL SP BE TI nx ac pl sp be ti).2.2.1 (fX3_remember PL SP BE TI nx ac pl sp be ti).2.2.2.1 (fX3_remember PL SP BE TI nx ac pl sp be ti).2.2.2.2.1 (fX9_known so ac).2 (fX9_known so ac).1 ∧ (fX3_remember PL SP BE TI nx ac pl sp be ti).2.2.2.2.2 = (fX9_known so ac).2 ∧ (∀ j, (j < 15 ∨ 165 ≤ j) → (fX9_known so ac).1 j = so j) := by
  obtain ⟨p1, p2, p3⟩ := hp
  have enx : (if 10 ≤ nx + 1 then 0 else nx + 1) = (nx + 1) % 10 := by
    by_cases c : 10 ≤ nx + 1
    · rw [if_pos c]; omega
    · rw [if_neg c]; omega
  have key : ∀ (so1 : Nat → Int32) (ac1 : Nat), ac1 + 1 = min 10 (ac + 1) → (∀ j, (j < 15 ∨ 165 ≤ j) → so1 j = so j) → (∀ k, k < ac1 → MOM mt mp (PL ((nx + 9 - k) % 10)) (SP ((nx + 9 - k) % 10)) (BE ((nx + 9 - k) % 10)) (TI ((nx + 9 - k) % 10)) so1 ((ac1 - k) * 15)) → (PAS mt mp (va_up PL nx (va_cpy pl (PL nx) 0 0 6)) (va_up SP nx (va_cpy sp (SP nx) 0 0 6)) (va_up BE nx be) (va_up TI nx ti) ((nx + 1) % 10) (ac1 + 1) (fX9_copies so1 0 ((ac1 + 1) * 15)) ∧ (∀ j, (j < 15 ∨ 165 ≤ j) → (fX9_copies so1 0 ((ac1 + 1) * 15)) j = so j)) := by
    intro so1 ac1 h1 h2 h3
    have hf : FRM so1 (fX9_copies so1 0 ((ac1 + 1) * 15)) ((ac1 + 1) * 15) := copies_frm (by omega)
    have hm : MOM mt mp pl sp be ti so1 0 := mom_sh h (fun k hk => h2 _ (by omega))
    refine ⟨⟨by omega, by omega, fun k hk => ?_⟩, fun j hj => by rw [hf j (by omega), h2 j hj]⟩
    by_cases e : k = 0
    · subst e
      rw [show ((nx + 1) % 10 + 9 - 0) % 10 = nx from by omega]
      simp only [va_up, if_true]
      exact mom_copy (by omega) hm
    · rw [show ((nx + 1) % 10 + 9 - k) % 10 = (nx + 9 - (k - 1)) % 10 from by omega]
      have hne : ¬ (nx + 9 - (k - 1)) % 10 = nx := by omega
      simp only [va_up, if_neg hne]
      have := h3 (k - 1) (by omega)
      rw [show (ac1 - (k - 1)) * 15 = (ac1 + 1 - k) * 15 from by omega] at this
      exact mom_frm this hf (by omega)
  simp only [fX3_remember, fX9_known, fX2_copy, enx]
  by_cases c : ac = 10
  · subst c
    simp only [if_true]
    have hk := known12 135 15 so (by omega) (by omega)
    obtain ⟨k1, k2⟩ := key (lX9_known_12 (150 - 15) 15 so) 9 (by omega) (fun j hj => by rw [hk j, if_neg (by omega)]) (fun k hk' => by
      have := p3 k (by omega)
      refine mom_sh this (fun i hi => ?_)
      rw [hk _, if_pos (by omega)]
      exact congrArg so (by omega))
    exact ⟨k1, rfl, k2⟩
  · simp only [if_neg c]
    obtain ⟨k1, k2⟩ := key so ac (by omega) (fun j _ => rfl) p3
    exact ⟨k1, by omega, k2⟩
