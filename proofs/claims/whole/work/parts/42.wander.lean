theorem who_spec {sp pl : Nat → Int32} {w : Int32} : ∀ n i, (lX2_who_2 sp pl w n i = -9 ∧ ∀ t, i ≤ t → t < i + n → 0 < sp t → pl t ≠ w) ∨ (∃ t, i ≤ t ∧ t < i + n ∧ 0 < sp t ∧ pl t = w ∧ lX2_who_2 sp pl w n i = nI t) := by
  intro n
  induction n with
  | zero => intro i; exact Or.inl ⟨rfl, fun t a b => absurd b (by omega)⟩
  | succ n ih =>
    intro i
    by_cases h : 0 < sp i
    · by_cases e : pl i = w
      · refine Or.inr ⟨i, Nat.le_refl _, by omega, h, e, ?_⟩
        simp only [lX2_who_2, st_1 h, if_neg m_10, if_pos e]
      · have es : lX2_who_2 sp pl w (n + 1) i = lX2_who_2 sp pl w n (i + 1) := by simp only [lX2_who_2, st_1 h, if_neg m_10, if_neg e]
        rw [es]
        rcases ih (i + 1) with ⟨a, c⟩ | ⟨t, a, c, d, f, g⟩
        · refine Or.inl ⟨a, fun t h1 h2 h3 => ?_⟩
          by_cases et : t = i
          · subst et; exact e
          · exact c t (by omega) (by omega) h3
        · exact Or.inr ⟨t, by omega, by omega, d, f, g⟩
    · have es : lX2_who_2 sp pl w (n + 1) i = lX2_who_2 sp pl w n (i + 1) := by simp only [lX2_who_2, st_0 h, if_true]
      rw [es]
      rcases ih (i + 1) with ⟨a, c⟩ | ⟨t, a, c, d, f, g⟩
      · refine Or.inl ⟨a, fun t h1 h2 h3 => ?_⟩
        by_cases et : t = i
        · subst et; exact absurd h3 h
        · exact c t (by omega) (by omega) h3
      · exact Or.inr ⟨t, by omega, by omega, d, f, g⟩
theorem who_cases (pl sp : Nat → Int32) (w : Int32) : (fX2_who pl sp w = -9 ∧ ∀ t, t < 6 → 0 < sp t → pl t ≠ w) ∨ (∃ t, t < 6 ∧ 0 < sp t ∧ pl t = w ∧ fX2_who pl sp w = nI t) := by
  simp only [fX2_who]
  rcases who_spec (sp := sp) (pl := pl) (w := w) 6 0 with ⟨a, c⟩ | ⟨t, a, c, d, f, g⟩
  · exact Or.inl ⟨a, fun t h1 h2 => c t (by omega) (by omega) h2⟩
  · exact Or.inr ⟨t, by omega, d, f, g⟩
theorem whoAt_spec {u w : Int32} {so : Nat → Int32} {b : Nat} : ∀ n i x, (lX9_whoAt_7 u so b w n x i = x ∧ ∀ t, i ≤ t → t < i + n → ¬ nI t = u → ¬ fX9_has (so (b + 12)) (nI t) = 0 → so (b + t) ≠ w) ∨ (∃ t, i ≤ t ∧ t < i + n ∧ ¬ fX9_has (so (b + 12)) (nI t) = 0 ∧ so (b + t) = w ∧ lX9_whoAt_7 u so b w n x i = nI t) := by
  intro n
  induction n with
  | zero => intro i x; exact Or.inl ⟨rfl, fun t a b => absurd b (by omega)⟩
  | succ n ih =>
    intro i x
    by_cases h : nI i = u
    · have es : lX9_whoAt_7 u so b w (n + 1) x i = lX9_whoAt_7 u so b w n x (i + 1) := by simp only [lX9_whoAt_7, if_pos h]
      rw [es]
      rcases ih (i + 1) x with ⟨a, c⟩ | ⟨t, a, c, d, f, g⟩
      · refine Or.inl ⟨a, fun t h1 h2 h3 h4 => ?_⟩
        by_cases et : t = i
        · subst et; exact absurd h h3
        · exact c t (by omega) (by omega) h3 h4
      · exact Or.inr ⟨t, by omega, by omega, d, f, g⟩
    · by_cases h2 : fX9_has (so (b + 12)) (nI i) = 0
      · have es : lX9_whoAt_7 u so b w (n + 1) x i = lX9_whoAt_7 u so b w n x (i + 1) := by simp only [lX9_whoAt_7, if_neg h, if_pos h2]
        rw [es]
        rcases ih (i + 1) x with ⟨a, c⟩ | ⟨t, a, c, d, f, g⟩
        · refine Or.inl ⟨a, fun t h1 h2 h3 h4 => ?_⟩
          by_cases et : t = i
          · subst et; exact absurd ‹_› h4
          · exact c t (by omega) (by omega) h3 h4
        · exact Or.inr ⟨t, by omega, by omega, d, f, g⟩
      · by_cases h3 : so (b + i) = w
        · have es : lX9_whoAt_7 u so b w (n + 1) x i = lX9_whoAt_7 u so b w n (nI i) (i + 1) := by simp only [lX9_whoAt_7, if_neg h, if_neg h2, if_pos h3]
          rw [es]
          rcases ih (i + 1) (nI i) with ⟨a, c⟩ | ⟨t, a, c, d, f, g⟩
          · exact Or.inr ⟨i, Nat.le_refl _, by omega, h2, h3, a⟩
          · exact Or.inr ⟨t, by omega, by omega, d, f, g⟩
        · have es : lX9_whoAt_7 u so b w (n + 1) x i = lX9_whoAt_7 u so b w n x (i + 1) := by simp only [lX9_whoAt_7, if_neg h, if_neg h2, if_neg h3]
          rw [es]
          rcases ih (i + 1) x with ⟨a, c⟩ | ⟨t, a, c, d, f, g⟩
          · refine Or.inl ⟨a, fun t h1 h2 h3' h4 => ?_⟩
            by_cases et : t = i
            · subst et; exact h3
            · exact c t (by omega) (by omega) h3' h4
          · exact Or.inr ⟨t, by omega, by omega, d, f, g⟩
theorem has_iff {pl sp so : Nat → Int32} {be ti : Int32} {b t : Nat} (hR : RM pl sp be ti so b) (ht : t < 6) : ¬ fX9_has (so (b + 12)) (nI t) = 0 ↔ 0 < sp t := by
  rw [hR.2.1]
  by_cases h : 0 < sp t
  · rw [has_1 ht h]; exact ⟨fun _ => h, fun _ => m_10⟩
  · rw [has_0 ht h]; exact ⟨fun c => absurd rfl c, fun c => absurd c h⟩
theorem who_eq {pl sp so : Nat → Int32} {be ti mp w u : Int32} {b mt : Nat} (hmt : mt ≤ 6) (hR : RM pl sp be ti so b) (hM : MI mt mp pl sp) (hu : ∀ t, t < 6 → 0 < sp t → pl t = w → ¬ nI t = u) : fX9_whoAt mt so b w u = fX2_who pl sp w := by
  have hlt : ∀ t, t < 6 → 0 < sp t → t < mt := by
    intro t ht hp
    rcases Nat.lt_or_ge t mt with c | c
    · exact c
    · have := (hM.1 t ht).2.2 c; rw [this] at hp; exact absurd hp npos_0
  simp only [fX9_whoAt]
  rcases whoAt_spec (u := u) (w := w) (so := so) (b := b) mt 0 (-9) with ⟨a, c⟩ | ⟨t, a1, a2, a3, a4, a5⟩
  · rcases who_cases pl sp w with ⟨a', _⟩ | ⟨s, b1, b2, b3, b4⟩
    · rw [a, a']
    · have hs := hlt s b1 b2
      have := c s (by omega) (by omega) (hu s b1 b2 b3) ((has_iff hR b1).mpr b2)
      rw [hR.2.2.2.2 s b1 b2] at this
      exact absurd b3 this
  · have t6 : t < 6 := by omega
    have hp := (has_iff hR t6).mp a3
    rw [hR.2.2.2.2 t t6 hp] at a4
    rcases who_cases pl sp w with ⟨_, c'⟩ | ⟨s, b1, b2, b3, b4⟩
    · exact absurd a4 (c' t t6 hp)
    · have := hM.2.2 s t b1 t6 b2 hp (b3.trans a4.symm)
      rw [a5, b4, this]
theorem nI_n9 {t : Nat} (ht : t < 6) : ¬ nI t = -9 := by
  intro h
  have := nI_toInt (n := t) (by omega)
  rw [h, m_n9] at this; omega
theorem nI_6 {t : Nat} (ht : t < 6) : (nI t).toNatClampNeg = t := nI_clamp (by omega)
theorem nI_nn {t : Nat} (ht : t < 6) : ¬ nI t < 0 := nI_pos (by omega)
theorem nI_ne {s t : Nat} (hs : s < 6) (ht : t < 6) (h : s ≠ t) : ¬ nI s = nI t := fun e => h ((nI_eq (by omega) (by omega)).mp e)

/-- the place beside -/
theorem nb_fin : ∀ p : Fin 11, 4 ≤ p.1 → ∀ q : Fin 11, q.1 < p.1 → (fX2_neighbour 1 (nI q.1) (nI p.1) = (nI q.1 + 1) - (nI q.1 + 1) / nI p.1 * nI p.1 ∧ fX2_neighbour 2 (nI q.1) (nI p.1) = (nI q.1 + (nI p.1 - 1)) - (nI q.1 + (nI p.1 - 1)) / nI p.1 * nI p.1 ∧ ¬ fX2_neighbour 1 (nI q.1) (nI p.1) = nI q.1 ∧ ¬ fX2_neighbour 2 (nI q.1) (nI p.1) = nI q.1 ∧ 0 ≤ (fX2_neighbour 1 (nI q.1) (nI p.1)).toInt ∧ (fX2_neighbour 1 (nI q.1) (nI p.1)).toInt < (nI p.1).toInt ∧ 0 ≤ (fX2_neighbour 2 (nI q.1) (nI p.1)).toInt ∧ (fX2_neighbour 2 (nI q.1) (nI p.1)).toInt < (nI p.1).toInt) := by decide +kernel
def PZ (mp : Int32) : Prop := 4 ≤ mp.toInt ∧ mp.toInt ≤ 10
theorem to_nI {x : Int32} {n : Nat} (hn : n < 2 ^ 31) (h : x.toInt = (n : Int)) : x = nI n := m_eq.mpr (by rw [h, nI_toInt hn])
theorem nb_gen {ti fr mp : Int32} (hp : PZ mp) (h1 : 0 ≤ fr.toInt) (h2 : fr.toInt < mp.toInt) : fX2_neighbour ti fr mp = (fr + (if ti = 1 then 1 else mp - 1)) - (fr + (if ti = 1 then 1 else mp - 1)) / mp * mp ∧ ¬ fX2_neighbour ti fr mp = fr ∧ 0 ≤ (fX2_neighbour ti fr mp).toInt ∧ (fX2_neighbour ti fr mp).toInt < mp.toInt := by
  obtain ⟨p1, p2⟩ := hp
  have ep : mp = nI mp.toInt.toNat := to_nI (by omega) (by omega)
  have eq : fr = nI fr.toInt.toNat := to_nI (by omega) (by omega)
  generalize hP : mp.toInt.toNat = P at *
  generalize hQ : fr.toInt.toNat = Q at *
  obtain ⟨a1, a2, a3, a4, a5, a6, a7, a8⟩ := nb_fin ⟨P, by omega⟩ (by simp only; omega) ⟨Q, by omega⟩ (by simp only; omega)
  simp only at a1 a2 a3 a4 a5 a6 a7 a8
  rw [ep, eq]
  by_cases h : ti = 1
  · rw [if_pos h, h]; exact ⟨a1, a3, a5, a6⟩
  · rw [if_neg h]
    have e2 : fX2_neighbour ti (nI Q) (nI P) = fX2_neighbour 2 (nI Q) (nI P) := by
      simp only [fX2_neighbour, if_neg h, if_neg (show ¬ ((2 : Int32) = 1) from by decide)]
    rw [e2]; exact ⟨a2, a4, a7, a8⟩

/-- a meeting: one falls, the other is knocked -/
def cm (pl sp : Nat → Int32) (lo wi : Nat) : (Nat → Int32) × (Nat → Int32) := fX2_spins (upd pl lo (-9)) (upd sp lo 0) wi (sp wi - 5)
def mm (so : Nat → Int32) (b lo wi : Nat) : Nat → Int32 := if 0 < so (b + 6 + wi) - 5 then upd (fX9_falls so b lo) (b + 6 + wi) (so (b + 6 + wi) - 5) else fX9_falls (upd (fX9_falls so b lo) (b + 6 + wi) (so (b + 6 + wi) - 5)) b wi
theorem falls_sp {so : Nat → Int32} {b lo s : Nat} (h : s ≠ lo) (hs : s < 6) : fX9_falls so b lo (b + 6 + s) = so (b + 6 + s) := by
  simp only [fX9_falls]
  rw [m_un (by omega), m_un (by omega)]
theorem cm_1 {pl sp : Nat → Int32} {lo wi : Nat} (h : 0 < sp wi - 5) : cm pl sp lo wi = (upd pl lo (-9), upd (upd sp lo 0) wi (sp wi - 5)) := by
  simp only [cm, fX2_spins, if_neg (m_nle.mpr h)]
theorem cm_0 {pl sp : Nat → Int32} {lo wi : Nat} (h : ¬ 0 < sp wi - 5) : cm pl sp lo wi = (upd (upd pl lo (-9)) wi (-9), upd (upd sp lo 0) wi 0) := by
  simp only [cm, fX2_spins, if_pos (m_nlt.mp h)]
theorem meet_c {pl sp : Nat → Int32} {t o : Nat} (hn : t ≠ o) : fX2_meet pl sp t o = if sp t ≤ sp o then cm pl sp t o else cm pl sp o t := by
  by_cases h : sp t ≤ sp o
  · have e1 : upd sp t 0 o = sp o := m_un (fun e => hn e.symm)
    have e0 : (0 : Int32) ≤ 0 := by decide
    simp only [fX2_meet, if_pos h, if_true, cm, fX2_spins, if_pos e0, e1]
  · have e1 : upd sp o 0 t = sp t := m_un hn
    have e0 : (0 : Int32) ≤ 0 := by decide
    simp only [fX2_meet, if_neg h, if_neg m_10, cm, fX2_spins, if_pos e0, if_true, e1]
theorem wnd_none {mp : Int32} {mt b t : Nat} {so : Nat → Int32} {y : Int32} (hy : y = ((so (b + t)) + (if (so (b + 14)) = 1 then 1 else mp - 1)) - ((so (b + t)) + (if (so (b + 14)) = 1 then 1 else mp - 1)) / mp * mp) (hw : fX9_whoAt mt so b y (nI t) = -9) : fX9_wanders mp mt so b t = upd so (b + t) y := by
  have e : (-9 : Int32) < 0 := by decide
  subst hy
  simp only [fX9_wanders, hw, if_pos e]
theorem wnd_some {mp : Int32} {mt b t o : Nat} {so : Nat → Int32} {y : Int32} (ht : t < 6) (ho : o < 6) (hn : t ≠ o) (hy : y = ((so (b + t)) + (if (so (b + 14)) = 1 then 1 else mp - 1)) - ((so (b + t)) + (if (so (b + 14)) = 1 then 1 else mp - 1)) / mp * mp) (hw : fX9_whoAt mt so b y (nI t) = nI o) : fX9_wanders mp mt so b t = upd (if so (b + 6 + t) ≤ so (b + 6 + o) then mm so b t o else mm so b o t) (b + t) y := by
  subst hy
  by_cases h : so (b + 6 + t) ≤ so (b + 6 + o)
  · have h' : ¬ so (b + 6 + o) < so (b + 6 + t) := m_nlt.mpr h
    simp only [fX9_wanders, hw, if_neg (nI_nn ho), nI_6 ho, if_neg h', if_neg m_10, m_us, falls_sp (fun e => hn e.symm) ho, if_pos h, mm]
  · have h' : so (b + 6 + o) < so (b + 6 + t) := m_nle.mp h
    simp only [fX9_wanders, hw, if_neg (nI_nn ho), nI_6 ho, if_pos h', if_true, m_us, falls_sp hn ht, if_neg h, mm]
theorem meet_sim {pl sp so : Nat → Int32} {be ti mp : Int32} {b mt lo wi : Nat} (hl : lo < 6) (hw : wi < 6) (hn : lo ≠ wi) (hR : RM pl sp be ti so b) (hM : MI mt mp pl sp) (hp : 0 < sp wi) : RM (cm pl sp lo wi).1 (cm pl sp lo wi).2 be ti (mm so b lo wi) b ∧ MI mt mp (cm pl sp lo wi).1 (cm pl sp lo wi).2 ∧ FRM so (mm so b lo wi) b ∧ ¬ 0 < (cm pl sp lo wi).2 lo ∧ (∀ t, t < 6 → 0 < (cm pl sp lo wi).2 t → 0 < sp t ∧ ((cm pl sp lo wi).2 t).toInt ≤ (sp t).toInt ∧ (cm pl sp lo wi).1 t = pl t) := by
  have hR0 := hR
  obtain ⟨h1, h2, h3, h4, h5⟩ := hR
  have hR1 : RM (upd pl lo (-9)) (upd sp lo 0) be ti (fX9_falls so b lo) b := rm_fall hl (fun s hs _ => h1 s hs) h2 h3 h4 h5
  have hM1 : MI mt mp (upd pl lo (-9)) (upd sp lo 0) := mi_fall hM
  have ew : upd sp lo 0 wi = sp wi := m_un (fun e => hn e.symm)
  have hb := hM.1 wi hw
  have hpp := m_pos.mp hp
  have hsub : (sp wi - 5).toInt = (sp wi).toInt - 5 := by rw [m_sub (by omega) (by omega) (by rw [m_5]; omega) (by rw [m_5]; omega), m_5]
  by_cases h : 0 < sp wi - 5
  · have h' : 0 < so (b + 6 + wi) - 5 := by rw [h1 wi hw]; exact h
    rw [cm_1 h]
    simp only [mm, if_pos h']
    rw [h1 wi hw]
    refine ⟨rm_set hw hR1 (by rw [ew]; exact hp) h, mi_set hM1 hw (by rw [ew]; exact hp) h (by omega), frm_trans (frm_falls hl) (frm_up (by omega) (by omega)), ?_, fun t ht hpt => ?_⟩
    · rw [m_un hn, m_us]; exact npos_0
    · by_cases e : t = wi
      · subst e; rw [m_us]; exact ⟨hp, by omega, m_un (fun e => hn e.symm)⟩
      · rw [m_un e] at hpt ⊢
        by_cases e2 : t = lo
        · subst e2; rw [m_us] at hpt; exact absurd hpt npos_0
        · rw [m_un e2] at hpt ⊢; exact ⟨hpt, Int.le_refl _, m_un e2⟩
  · have h' : ¬ 0 < so (b + 6 + wi) - 5 := by rw [h1 wi hw]; exact h
    rw [cm_0 h]
    simp only [mm, if_neg h']
    obtain ⟨g1, g2, g3, g4, g5⟩ := hR1
    refine ⟨rm_fall hw (fun s hs e => ?_) ?_ ?_ ?_ (fun s hs hps => ?_), mi_fall hM1, frm_trans (frm_trans (frm_falls hl) (frm_up (by omega) (by omega))) (frm_falls hw), ?_, fun t ht hpt => ?_⟩
    · rw [m_un (by omega)]; exact g1 s hs
    · rw [m_un (by omega)]; exact g2
    · rw [m_un (by omega)]; exact g3
    · rw [m_un (by omega)]; exact g4
    · rw [m_un (by omega)]; exact g5 s hs hps
    · rw [m_un hn, m_us]; exact npos_0
    · by_cases e : t = wi
      · subst e; rw [m_us] at hpt; exact absurd hpt npos_0
      · rw [m_un e] at hpt ⊢
        by_cases e2 : t = lo
        · subst e2; rw [m_us] at hpt; exact absurd hpt npos_0
        · rw [m_un e2] at hpt ⊢; exact ⟨hpt, Int.le_refl _, by rw [m_un e, m_un e2]⟩
theorem rm_any {pl sp so : Nat → Int32} {be ti y : Int32} {b t : Nat} (ht : t < 6) (hR : RM pl sp be ti so b) (h : ¬ 0 < sp t) : RM pl sp be ti (upd so (b + t) y) b := by
  obtain ⟨h1, h2, h3, h4, h5⟩ := hR
  refine ⟨fun s hs => ?_, ?_, ?_, ?_, fun s hs hp => ?_⟩
  · rw [m_un (by omega)]; exact h1 s hs
  · rw [m_un (by omega)]; exact h2
  · rw [m_un (by omega)]; exact h3
  · rw [m_un (by omega)]; exact h4
  · have : s ≠ t := fun e => h (e ▸ hp)
    rw [m_un (by omega)]; exact h5 s hs hp
theorem rm_move {pl sp so : Nat → Int32} {be ti y : Int32} {b t : Nat} (ht : t < 6) (hR : RM pl sp be ti so b) : RM (upd pl t y) sp be ti (upd so (b + t) y) b := by
  obtain ⟨h1, h2, h3, h4, h5⟩ := hR
  refine ⟨fun s hs => ?_, ?_, ?_, ?_, fun s hs hp => ?_⟩
  · rw [m_un (by omega)]; exact h1 s hs
  · rw [m_un (by omega)]; exact h2
  · rw [m_un (by omega)]; exact h3
  · rw [m_un (by omega)]; exact h4
  · by_cases e : s = t
    · subst e; rw [m_us, m_us]
    · rw [m_un (by omega), m_un e]; exact h5 s hs hp
/-- one that wanders, in the class -/
def cw (pl sp : Nat → Int32) (ti mp : Int32) (t : Nat) : (Nat → Int32) × (Nat → Int32) :=
  if fX2_who pl sp (fX2_neighbour ti (pl t) mp) = -9 then (upd pl t (fX2_neighbour ti (pl t) mp), sp) else (if 0 < (fX2_meet pl sp t (fX2_who pl sp (fX2_neighbour ti (pl t) mp)).toNatClampNeg).2 t then (upd (fX2_meet pl sp t (fX2_who pl sp (fX2_neighbour ti (pl t) mp)).toNatClampNeg).1 t (fX2_neighbour ti (pl t) mp), (fX2_meet pl sp t (fX2_who pl sp (fX2_neighbour ti (pl t) mp)).toNatClampNeg).2) else fX2_meet pl sp t (fX2_who pl sp (fX2_neighbour ti (pl t) mp)).toNatClampNeg)
theorem wd_s0 {sl ti pz : Int32} {pl sp : Nat → Int32} {n i : Nat} (h : ¬ 0 < sp i) : lX2_wander_2 sl ti pz (n + 1) i pl sp = lX2_wander_2 sl ti pz n (i + 1) pl sp := by
  simp only [lX2_wander_2, st_0 h, if_true]
theorem wd_s1 {sl ti pz : Int32} {pl sp : Nat → Int32} {n i : Nat} (h : 0 < sp i) (h2 : ¬ sp i ≤ sl) : lX2_wander_2 sl ti pz (n + 1) i pl sp = lX2_wander_2 sl ti pz n (i + 1) pl sp := by
  simp only [lX2_wander_2, st_1 h, if_neg m_10, if_neg h2]
theorem wd_s2 {sl ti pz : Int32} {pl sp : Nat → Int32} {n i : Nat} (h : 0 < sp i) (h2 : sp i ≤ sl) : lX2_wander_2 sl ti pz (n + 1) i pl sp = lX2_wander_2 sl ti pz n (i + 1) (cw pl sp ti pz i).1 (cw pl sp ti pz i).2 := by
  by_cases h3 : fX2_who pl sp (fX2_neighbour ti (pl i) pz) = -9
  · simp only [lX2_wander_2, st_1 h, if_neg m_10, if_pos h2, h3, if_true, cw]
  · by_cases h4 : 0 < (fX2_meet pl sp i (fX2_who pl sp (fX2_neighbour ti (pl i) pz)).toNatClampNeg).2 i
    · simp only [lX2_wander_2, st_1 h, if_neg m_10, if_pos h2, if_neg h3, st_1 h4, cw, if_pos h4]
    · simp only [lX2_wander_2, st_1 h, if_neg m_10, if_pos h2, if_neg h3, st_0 h4, if_true, cw, if_neg h4]
theorem cw_sim {pl sp so : Nat → Int32} {be ti mp : Int32} {b mt t : Nat} (hmt : mt ≤ 6) (ht : t < 6) (hP : PZ mp) (hR : RM pl sp be ti so b) (hM : MI mt mp pl sp) (hp : 0 < sp t) : RM (cw pl sp ti mp t).1 (cw pl sp ti mp t).2 be ti (fX9_wanders mp mt so b t) b ∧ MI mt mp (cw pl sp ti mp t).1 (cw pl sp ti mp t).2 ∧ FRM so (fX9_wanders mp mt so b t) b ∧ (∀ s, s < 6 → 0 < (cw pl sp ti mp t).2 s → 0 < sp s ∧ ((cw pl sp ti mp t).2 s).toInt ≤ (sp s).toInt) := by
  have hpl := (hM.2.1 t ht).1 hp
  obtain ⟨n1, n2, n3, n4⟩ := nb_gen (ti := ti) hP hpl.1 hpl.2
  generalize hy : fX2_neighbour ti (pl t) mp = y at *
  have hy' : y = ((so (b + t)) + (if (so (b + 14)) = 1 then 1 else mp - 1)) - ((so (b + t)) + (if (so (b + 14)) = 1 then 1 else mp - 1)) / mp * mp := by
    rw [hR.2.2.2.1, hR.2.2.2.2 t ht hp]; exact n1
  have hwho := who_eq (u := nI t) (w := y) hmt hR hM (fun s hs hps e => by
    by_cases est : s = t
    · subst est; exact absurd e.symm n2
    · exact nI_ne hs ht est)
  rcases who_cases pl sp y with ⟨a, c⟩ | ⟨o, o1, o2, o3, o4⟩
  · rw [wnd_none hy' (hwho.trans a)]
    have ec : cw pl sp ti mp t = (upd pl t y, sp) := by simp only [cw, hy, a, if_true]
    rw [ec]
    exact ⟨rm_move ht hR, mi_move hM hp ⟨n3, n4⟩ (fun s hs _ hps => c s hs hps), frm_up (by omega) (by omega), fun s hs h => ⟨h, Int.le_refl _⟩⟩
  · have hto : t ≠ o := fun e => by subst e; exact absurd o3.symm n2
    rw [wnd_some ht o1 hto hy' (hwho.trans o4), hR.1 t ht, hR.1 o o1]
    have hm := meet_c (pl := pl) (sp := sp) hto
    by_cases h : sp t ≤ sp o
    · rw [if_pos h] at hm ⊢
      obtain ⟨s1, s2, s3, s4, s5⟩ := meet_sim ht o1 hto hR hM o2
      have ec : cw pl sp ti mp t = cm pl sp t o := by simp only [cw, hy, o4, if_neg (nI_n9 o1), nI_6 o1, hm, if_neg s4]
      rw [ec]
      exact ⟨rm_any ht s1 s4, s2, frm_trans s3 (frm_up (by omega) (by omega)), fun s hs hps => ⟨(s5 s hs hps).1, (s5 s hs hps).2.1⟩⟩
    · rw [if_neg h] at hm ⊢
      obtain ⟨s1, s2, s3, s4, s5⟩ := meet_sim o1 ht (fun e => hto e.symm) hR hM hp
      by_cases h4 : 0 < (cm pl sp o t).2 t
      · have ec : cw pl sp ti mp t = (upd (cm pl sp o t).1 t y, (cm pl sp o t).2) := by simp only [cw, hy, o4, if_neg (nI_n9 o1), nI_6 o1, hm, if_pos h4]
        rw [ec]
        refine ⟨rm_move ht s1, mi_move s2 h4 ⟨n3, n4⟩ (fun s hs e hps e2 => ?_), frm_trans s3 (frm_up (by omega) (by omega)), fun s hs hps => ⟨(s5 s hs hps).1, (s5 s hs hps).2.1⟩⟩
        obtain ⟨g1, _, g3⟩ := s5 s hs hps
        rw [g3] at e2
        have := hM.2.2 s o hs o1 g1 o2 (e2.trans o3.symm)
        subst this; exact s4 hps
      · have ec : cw pl sp ti mp t = cm pl sp o t := by simp only [cw, hy, o4, if_neg (nI_n9 o1), nI_6 o1, hm, if_neg h4]
        rw [ec]
        exact ⟨rm_any ht s1 h4, s2, frm_trans s3 (frm_up (by omega) (by omega)), fun s hs hps => ⟨(s5 s hs hps).1, (s5 s hs hps).2.1⟩⟩
theorem wd_idle {sl ti pz : Int32} : ∀ (n i : Nat) (pl sp : Nat → Int32), (∀ t, i ≤ t → t < i + n → ¬ 0 < sp t) → lX2_wander_2 sl ti pz n i pl sp = (pl, sp) := by
  intro n
  induction n with
  | zero => intro i pl sp _; rfl
  | succ n ih => intro i pl sp h; rw [wd_s0 (h i (Nat.le_refl _) (by omega))]; exact ih _ _ _ (fun t a b => h t (by omega) (by omega))
theorem wd_app {sl ti pz : Int32} : ∀ (n m i : Nat) (pl sp : Nat → Int32), lX2_wander_2 sl ti pz (n + m) i pl sp = lX2_wander_2 sl ti pz m (i + n) (lX2_wander_2 sl ti pz n i pl sp).1 (lX2_wander_2 sl ti pz n i pl sp).2 := by
  intro n
  induction n with
  | zero => intro m i pl sp; simp only [Nat.zero_add, Nat.add_zero, lX2_wander_2]
  | succ n ih =>
    intro m i pl sp
    rw [show n + 1 + m = (n + m) + 1 from by omega, show i + (n + 1) = i + 1 + n from by omega]
    by_cases h : 0 < sp i
    · by_cases hv : sp i ≤ sl
      · rw [wd_s2 h hv, wd_s2 h hv]; exact ih _ _ _ _
      · rw [wd_s1 h hv, wd_s1 h hv]; exact ih _ _ _ _
    · rw [wd_s0 h, wd_s0 h]; exact ih _ _ _ _
theorem wander_sim {sl be ti mp : Int32} {b mt : Nat} (hmt : mt ≤ 6) (hP : PZ mp) (hti : ¬ ti = 0) : ∀ (n i : Nat) (pl sp so : Nat → Int32), i + n ≤ mt → RM pl sp be ti so b → MI mt mp pl sp → (RM (lX2_wander_2 sl ti mp n i pl sp).1 (lX2_wander_2 sl ti mp n i pl sp).2 be ti (lX9_beat_74 b sl mp mt n i so) b ∧ MI mt mp (lX2_wander_2 sl ti mp n i pl sp).1 (lX2_wander_2 sl ti mp n i pl sp).2 ∧ FRM so (lX9_beat_74 b sl mp mt n i so) b ∧ (∀ t, t < 6 → 0 < (lX2_wander_2 sl ti mp n i pl sp).2 t → 0 < sp t ∧ ((lX2_wander_2 sl ti mp n i pl sp).2 t).toInt ≤ (sp t).toInt)) := by
  intro n
  induction n with
  | zero =>
    intro i pl sp so _ hR hM
    exact ⟨hR, hM, frm_refl _ _, fun t ht hp => ⟨hp, Int.le_refl _⟩⟩
  | succ n ih =>
    intro i pl sp so hi hR hM
    have hi6 : i < 6 := by omega
    have ht : ¬ so (b + 14) = 0 := by rw [hR.2.2.2.1]; exact hti
    by_cases h : 0 < sp i
    · have hh : fX9_has (so (b + 12)) (nI i) = 1 := by rw [hR.2.1]; exact has_1 hi6 h
      by_cases h2 : sp i ≤ sl
      · have h2' : ¬ sl < so (b + 6 + i) := by rw [hR.1 i hi6]; exact m_nlt.mpr h2
        have em : lX9_beat_74 b sl mp mt (n + 1) i so = lX9_beat_74 b sl mp mt n (i + 1) (fX9_wanders mp mt so b i) := by
          simp only [lX9_beat_74, if_neg ht, hh, if_neg m_10, if_neg h2']
        rw [wd_s2 h h2, em]
        obtain ⟨s1, s2, s3, s4⟩ := cw_sim hmt hi6 hP hR hM h
        obtain ⟨r1, r2, r3, r4⟩ := ih (i + 1) _ _ _ (by omega) s1 s2
        refine ⟨r1, r2, frm_trans s3 r3, fun t ht hp => ?_⟩
        obtain ⟨a1, a2⟩ := r4 t ht hp
        obtain ⟨b1, b2⟩ := s4 t ht a1
        exact ⟨b1, by omega⟩
      · have h2' : sl < so (b + 6 + i) := by rw [hR.1 i hi6]; exact m_nle.mp h2
        have em : lX9_beat_74 b sl mp mt (n + 1) i so = lX9_beat_74 b sl mp mt n (i + 1) so := by
          simp only [lX9_beat_74, if_neg ht, hh, if_neg m_10, if_pos h2']
        rw [wd_s1 h h2, em]
        exact ih (i + 1) _ _ _ (by omega) hR hM
    · have hh : fX9_has (so (b + 12)) (nI i) = 0 := by rw [hR.2.1]; exact has_0 hi6 h
      have em : lX9_beat_74 b sl mp mt (n + 1) i so = lX9_beat_74 b sl mp mt n (i + 1) so := by
        simp only [lX9_beat_74, if_neg ht, hh, if_true]
      rw [wd_s0 h, em]
      exact ih (i + 1) _ _ _ (by omega) hR hM
theorem wander_all {sl be ti mp : Int32} {b mt : Nat} (hmt : mt ≤ 6) (hP : PZ mp) (hti : ¬ ti = 0) {pl sp so : Nat → Int32} (hR : RM pl sp be ti so b) (hM : MI mt mp pl sp) : RM (fX2_wander pl sp ti mp sl).1 (fX2_wander pl sp ti mp sl).2 be ti (lX9_beat_74 b sl mp mt mt 0 so) b ∧ MI mt mp (fX2_wander pl sp ti mp sl).1 (fX2_wander pl sp ti mp sl).2 ∧ FRM so (lX9_beat_74 b sl mp mt mt 0 so) b ∧ (∀ t, t < 6 → 0 < (fX2_wander pl sp ti mp sl).2 t → 0 < sp t ∧ ((fX2_wander pl sp ti mp sl).2 t).toInt ≤ (sp t).toInt) := by
  obtain ⟨r1, r2, r3, r4⟩ := wander_sim (sl := sl) hmt hP hti mt 0 pl sp so (by omega) hR hM
  have e : fX2_wander pl sp ti mp sl = lX2_wander_2 sl ti mp mt 0 pl sp := by
    simp only [fX2_wander]
    have := wd_app (sl := sl) (ti := ti) (pz := mp) mt (6 - mt) 0 pl sp
    rw [show mt + (6 - mt) = 6 from by omega] at this
    rw [this, wd_idle]
    intro t h1 h2
    have := (r2.1 t (by omega)).2.2 (by omega)
    rw [this]; exact npos_0
  rw [e]
  exact ⟨r1, r2, r3, r4⟩
/-- one beat, in the class -/
def cb (dr : Nat → Int32) (ti pz sl : Int32) (pl sp : Nat → Int32) : (Nat → Int32) × (Nat → Int32) := if ti = 0 then fX2_slowDown pl sp dr else fX2_wander (fX2_slowDown pl sp dr).1 (fX2_slowDown pl sp dr).2 ti pz sl
theorem goBy_s {dr : Nat → Int32} {ti pz sl be : Int32} {n x : Nat} {pl sp : Nat → Int32} : lX2_goBy_8 dr ti pz sl (n + 1) x pl sp be = lX2_goBy_8 dr ti pz sl n (x + 1) (cb dr ti pz sl pl sp).1 (cb dr ti pz sl pl sp).2 (be + 1) := by
  by_cases h : ti = 0
  · simp only [lX2_goBy_8, if_pos h, cb]
  · simp only [lX2_goBy_8, if_neg h, cb]
theorem beat_sim {dr md : Nat → Int32} {mt b : Nat} {mp ml be ti : Int32} (hmt : mt ≤ 6) (hd : DRG mt dr md) (hP : PZ mp) {pl sp so : Nat → Int32} (hR : RM pl sp be ti so b) (hM : MI mt mp pl sp) : RM (cb dr ti mp ml pl sp).1 (cb dr ti mp ml pl sp).2 (be + 1) ti (fX9_beat mp mt ml md so b) b ∧ MI mt mp (cb dr ti mp ml pl sp).1 (cb dr ti mp ml pl sp).2 ∧ FRM so (fX9_beat mp mt ml md so b) b ∧ (∀ t, t < 6 → 0 < (cb dr ti mp ml pl sp).2 t → 0 < sp t ∧ ((cb dr ti mp ml pl sp).2 t).toInt + 1 ≤ (sp t).toInt) := by
  obtain ⟨s1, s2, s3, s4⟩ := slow_all hmt hd hR hM
  have fin : ∀ {p s so' : Nat → Int32}, RM p s be ti so' b → RM p s (be + 1) ti (upd so' (b + 13) (so' (b + 13) + 1)) b := by
    intro p s so' h
    obtain ⟨h1, h2, h3, h4, h5⟩ := h
    refine ⟨fun t ht => ?_, ?_, ?_, ?_, fun t ht hp => ?_⟩
    · rw [m_un (by omega)]; exact h1 t ht
    · rw [m_un (by omega)]; exact h2
    · rw [m_us, h3]
    · rw [m_un (by omega)]; exact h4
    · rw [m_un (by omega)]; exact h5 t ht hp
  by_cases h : ti = 0
  · have e74 : lX9_beat_74 b ml mp mt mt 0 (lX9_beat_2 b md mt 0 so) = lX9_beat_2 b md mt 0 so := by
      have hz : (lX9_beat_2 b md mt 0 so) (b + 14) = 0 := by rw [s1.2.2.2.1]; exact h
      cases mt with
      | zero => rfl
      | succ k => simp only [lX9_beat_74, hz, if_true]
    simp only [cb, if_pos h, fX9_beat]
    rw [e74]
    exact ⟨fin s1, s2, frm_trans s3 (frm_up (by omega) (by omega)), s4⟩
  · simp only [cb, if_neg h, fX9_beat]
    obtain ⟨w1, w2, w3, w4⟩ := wander_all (sl := ml) hmt hP h s1 s2
    refine ⟨fin w1, w2, frm_trans (frm_trans s3 w3) (frm_up (by omega) (by omega)), fun t ht hp => ?_⟩
    obtain ⟨a1, a2⟩ := w4 t ht hp
    obtain ⟨c1, c2⟩ := s4 t ht a1
    exact ⟨c1, by omega⟩
