section
variable {dr md : Nat → Int32} {mt : Nat} {mp ml ti : Int32}
theorem fallOf_sim (hmt : mt ≤ 6) (hd : DRG mt dr md) (hP : PZ mp) {pl3 sp3 pl sp so : Nat → Int32} {be : Int32} {t : Nat} (ht : t < 6) (hR : RM pl sp be ti so 0) (hM : MI mt mp pl sp) : (fX9_fallOf mp mt ml md so (nI t)).1 = nI (FN dr ti mp ml 60 (va_cpy pl pl3 0 0 6) (va_cpy sp sp3 0 0 6) t) ∧ FRM so (fX9_fallOf mp mt ml md so (nI t)).2 195 := by
  have hb : ((va_cpy sp sp3 0 0 6) t).toInt ≤ ((60 : Nat) : Int) := by rw [cpy_at ht]; have := (hM.1 t ht).2.1; omega
  obtain ⟨r1, r2, r3⟩ := mfall_sim (ml := ml) hmt hd hP ht 60 0 _ _ _ _ (try_rm (pl3 := pl3) (sp3 := sp3) hR) (try_mi (pl3 := pl3) (sp3 := sp3) hM) hb
  simp only [fX9_fallOf, r2, if_true]
  exact ⟨by rw [r1, Nat.zero_add], frm_trans try_frm r3⟩
theorem fall_sim (hmt : mt ≤ 6) (hd : DRG mt dr md) (hP : PZ mp) {pl3 sp3 pl sp so : Nat → Int32} {be : Int32} {t : Nat} (ht : t < 6) (hR : RM pl sp be ti so 0) (hM : MI mt mp pl sp) : (fX0_fall pl3 sp3 dr mp ml pl sp be ti t).1 = (fX9_fallOf mp mt ml md so (nI t)).1 ∧ FRM so (fX9_fallOf mp mt ml md so (nI t)).2 195 := by
  obtain ⟨h1, h2⟩ := fallOf_sim (ml := ml) (pl3 := pl3) (sp3 := sp3) hmt hd hP ht hR hM
  refine ⟨?_, h2⟩
  rw [h1]
  simp only [fX0_fall, fX2_copy, fall_cnt, Nat.zero_add]

theorem low_spec {sp : Nat → Int32} : ∀ n i, (lX2_lowest_2 sp n i = -9 ∧ ∀ t, i ≤ t → t < i + n → ¬ 0 < sp t) ∨ (∃ t, i ≤ t ∧ t < i + n ∧ 0 < sp t ∧ lX2_lowest_2 sp n i = nI t ∧ ∀ s, i ≤ s → s < t → ¬ 0 < sp s) := by
  intro n
  induction n with
  | zero => intro i; exact Or.inl ⟨rfl, fun t a b => absurd b (by omega)⟩
  | succ n ih =>
    intro i
    by_cases h : 0 < sp i
    · refine Or.inr ⟨i, Nat.le_refl _, by omega, h, ?_, fun s a b => absurd b (by omega)⟩
      simp only [lX2_lowest_2, st_1 h, if_neg m_10]
    · have es : lX2_lowest_2 sp (n + 1) i = lX2_lowest_2 sp n (i + 1) := by simp only [lX2_lowest_2, st_0 h, if_true]
      rw [es]
      rcases ih (i + 1) with ⟨a, c⟩ | ⟨t, a, c, d, f, g⟩
      · refine Or.inl ⟨a, fun t h1 h2 => ?_⟩
        by_cases et : t = i
        · subst et; exact h
        · exact c t (by omega) (by omega)
      · refine Or.inr ⟨t, by omega, by omega, d, f, fun s h1 h2 => ?_⟩
        by_cases es : s = i
        · subst es; exact h
        · exact g s (by omega) h2
theorem low_cases (sp : Nat → Int32) : (fX2_lowest sp = -9 ∧ ∀ t, t < 6 → ¬ 0 < sp t) ∨ (∃ t, t < 6 ∧ 0 < sp t ∧ fX2_lowest sp = nI t ∧ ∀ s, s < t → ¬ 0 < sp s) := by
  simp only [fX2_lowest]
  rcases low_spec (sp := sp) 6 0 with ⟨a, c⟩ | ⟨t, a, c, d, f, g⟩
  · exact Or.inl ⟨a, fun t h1 => c t (by omega) (by omega)⟩
  · exact Or.inr ⟨t, by omega, d, f, fun s h => g s (by omega) h⟩
theorem last_s0 {n x : Nat} {x3 be : Int32} {pl sp : Nat → Int32} (h : fX2_lowest sp = -9) : lX0_last_19 ti dr mp ml (n + 1) x3 x pl sp be = (x3, pl, sp, be) := by
  simp only [lX0_last_19, h, if_true]
theorem last_s1 {n x : Nat} {x3 be : Int32} {pl sp : Nat → Int32} (h : ¬ fX2_lowest sp = -9) : lX0_last_19 ti dr mp ml (n + 1) x3 x pl sp be = lX0_last_19 ti dr mp ml n (fX2_lowest sp) (x + 1) (cb dr ti mp ml pl sp).1 (cb dr ti mp ml pl sp).2 (be + 1) := by
  simp only [lX0_last_19, if_neg h, goBy1a, goBy1b, goBy1c]
/-- the best of those that stand -/
def TOP (F : Nat → Nat) (sp : Nat → Int32) (K t : Nat) : Prop := t < K ∧ 0 < sp t ∧ ∀ s, s < K → 0 < sp s → F s ≤ F t ∧ (F s = F t → t ≤ s)
theorem top_uniq {F : Nat → Nat} {sp : Nat → Int32} {K t u : Nat} (h1 : TOP F sp K t) (h2 : TOP F sp K u) : t = u := by
  obtain ⟨a1, a2, a3⟩ := h1
  obtain ⟨b1, b2, b3⟩ := h2
  have c1 := a3 u b1 b2
  have c2 := b3 t a1 a2
  have e : F u = F t := by omega
  have := c1.2 e
  have := c2.2 e.symm
  omega
theorem last_cls (hmt : mt ≤ 6) (hd : DRG mt dr md) (hP : PZ mp) : ∀ (n x : Nat) (x3 be : Int32) (pl sp so : Nat → Int32), RM pl sp be ti so 195 → MI mt mp pl sp → (∀ t, t < 6 → (sp t).toInt ≤ n) → (((∀ t, t < 6 → ¬ 0 < sp t) → (lX0_last_19 ti dr mp ml n x3 x pl sp be).1 = x3) ∧ (¬ (∀ t, t < 6 → ¬ 0 < sp t) → ∃ t, TOP (FN dr ti mp ml n pl sp) sp 6 t ∧ (lX0_last_19 ti dr mp ml n x3 x pl sp be).1 = nI t)) := by
  intro n
  induction n with
  | zero =>
    intro x x3 be pl sp so hR hM hb
    refine ⟨fun _ => rfl, fun h => absurd ?_ h⟩
    intro t ht; have := hb t ht; rw [m_pos]; omega
  | succ n ih =>
    intro x x3 be pl sp so hR hM hb
    rcases low_cases sp with ⟨a, c⟩ | ⟨l, l1, l2, l3, l4⟩
    · refine ⟨fun _ => by rw [last_s0 a], fun h => absurd c h⟩
    · refine ⟨fun h => absurd l2 (h l l1), fun _ => ?_⟩
      rw [last_s1 (by rw [l3]; exact nI_n9 l1), l3]
      obtain ⟨s1, s2, _, s4⟩ := beat_sim (ml := ml) hmt hd hP hR hM
      have hb2 : ∀ t, t < 6 → ((cb dr ti mp ml pl sp).2 t).toInt ≤ n := by
        intro t ht
        by_cases hp : 0 < (cb dr ti mp ml pl sp).2 t
        · have := (s4 t ht hp).2; have := hb t ht; omega
        · rw [m_pos] at hp; omega
      obtain ⟨r1, r2⟩ := ih (x + 1) (nI l) _ _ _ _ s1 s2 hb2
      have hF : ∀ s, 0 < sp s → FN dr ti mp ml (n + 1) pl sp s = FN dr ti mp ml n (cb dr ti mp ml pl sp).1 (cb dr ti mp ml pl sp).2 s + 1 := fun s h => by simp only [FN, if_pos h]
      by_cases hall : ∀ t, t < 6 → ¬ 0 < (cb dr ti mp ml pl sp).2 t
      · refine ⟨l, ⟨l1, l2, fun s hs hps => ?_⟩, r1 hall⟩
        rw [hF s hps, hF l l2, FN_0 (hall s hs), FN_0 (hall l l1)]
        refine ⟨Nat.le_refl _, fun _ => ?_⟩
        rcases Nat.lt_or_ge s l with c | c
        · exact absurd hps (l4 s c)
        · exact c
      · obtain ⟨t, ⟨t1, t2, t3⟩, t4⟩ := r2 hall
        have hpt := (s4 t t1 t2).1
        refine ⟨t, ⟨t1, hpt, fun s hs hps => ?_⟩, t4⟩
        rw [hF s hps, hF t hpt]
        by_cases h2 : 0 < (cb dr ti mp ml pl sp).2 s
        · have := t3 s hs h2; exact ⟨by omega, fun e => this.2 (by omega)⟩
        · rw [FN_0 h2]
          have hn : 0 < n := by have := hb2 t t1; have := m_pos.mp t2; omega
          have := FN_ext (dr := dr) (ti := ti) (mp := mp) (ml := ml) n (pl := (cb dr ti mp ml pl sp).1) t2 hn
          exact ⟨by omega, fun e => by omega⟩
theorem mlast_sim (hmt : mt ≤ 6) (hd : DRG mt dr md) (hP : PZ mp) {pl3 sp3 pl sp : Nat → Int32} {be : Int32} (hM : MI mt mp pl sp) : ∀ (n i : Nat) (x1 x2 : Int32) (so : Nat → Int32), i + n = mt → RM pl sp be ti so 0 → ((x1 = -9 ∧ x2 = -1 ∧ ∀ t, t < i → ¬ 0 < sp t) ∨ ∃ t, TOP (FN dr ti mp ml 60 (va_cpy pl pl3 0 0 6) (va_cpy sp sp3 0 0 6)) sp i t ∧ x1 = nI t ∧ x2 = nI (FN dr ti mp ml 60 (va_cpy pl pl3 0 0 6) (va_cpy sp sp3 0 0 6) t)) → ((((lX9_last_7 mp mt ml md n x1 x2 i so).1 = -9 ∧ ∀ t, t < mt → ¬ 0 < sp t) ∨ ∃ t, TOP (FN dr ti mp ml 60 (va_cpy pl pl3 0 0 6) (va_cpy sp sp3 0 0 6)) sp mt t ∧ (lX9_last_7 mp mt ml md n x1 x2 i so).1 = nI t) ∧ FRM so (lX9_last_7 mp mt ml md n x1 x2 i so).2 195) := by
  intro n
  induction n with
  | zero =>
    intro i x1 x2 so hi hR h
    have e : i = mt := by omega
    subst e
    refine ⟨?_, frm_refl _ _⟩
    rcases h with ⟨a, _, c⟩ | ⟨t, a, b, _⟩
    · exact Or.inl ⟨a, c⟩
    · exact Or.inr ⟨t, a, b⟩
  | succ n ih =>
    intro i x1 x2 so hi hR h
    have hi6 : i < 6 := by omega
    by_cases hp : 0 < sp i
    · have hh : fX9_stands so (nI i) = 1 := by simp only [fX9_stands]; rw [show (12 : Nat) = 0 + 12 from rfl, hR.2.1]; exact has_1 hi6 hp
      obtain ⟨f1, f2⟩ := fallOf_sim (ml := ml) (pl3 := pl3) (sp3 := sp3) hmt hd hP hi6 hR hM
      generalize hF : FN dr ti mp ml 60 (va_cpy pl pl3 0 0 6) (va_cpy sp sp3 0 0 6) = F at *
      have hF60 : ∀ t, F t ≤ 60 := by intro t; rw [← hF]; exact FN_le _ _ _ _
      have hR2 := rm_frm hR f2 (by omega)
      by_cases hle : nI (F i) ≤ x2
      · have es : lX9_last_7 mp mt ml md (n + 1) x1 x2 i so = lX9_last_7 mp mt ml md n x1 x2 (i + 1) (fX9_fallOf mp mt ml md so (nI i)).2 := by
          simp only [lX9_last_7, hh, if_neg m_10, f1, if_pos hle, fX9_larger]
        rw [es]
        have hnew : (x1 = -9 ∧ x2 = -1 ∧ ∀ t, t < i + 1 → ¬ 0 < sp t) ∨ ∃ t, TOP F sp (i + 1) t ∧ x1 = nI t ∧ x2 = nI (F t) := by
          rcases h with ⟨a, b, c⟩ | ⟨t, ⟨a1, a2, a3⟩, b, c⟩
          · rw [b, m_le, nI_toInt (by have := hF60 i; omega), m_n1] at hle; omega
          · rw [c] at hle
            have hle' := (nI_leI (by have := hF60 i; omega) (by have := hF60 t; omega)).mp hle
            refine Or.inr ⟨t, ⟨by omega, a2, fun s hs hps => ?_⟩, b, c⟩
            by_cases e : s = i
            · subst e; exact ⟨hle', fun _ => by omega⟩
            · exact a3 s (by omega) hps
        obtain ⟨r1, r2⟩ := ih (i + 1) x1 x2 _ (by omega) hR2 hnew
        exact ⟨r1, frm_trans f2 r2⟩
      · have es : lX9_last_7 mp mt ml md (n + 1) x1 x2 i so = lX9_last_7 mp mt ml md n (nI i) (nI (F i)) (i + 1) (fX9_fallOf mp mt ml md so (nI i)).2 := by
          simp only [lX9_last_7, hh, if_neg m_10, f1, if_neg hle, fX9_larger]
        rw [es]
        have hnew : (nI i = -9 ∧ nI (F i) = -1 ∧ ∀ t, t < i + 1 → ¬ 0 < sp t) ∨ ∃ t, TOP F sp (i + 1) t ∧ nI i = nI t ∧ nI (F i) = nI (F t) := by
          refine Or.inr ⟨i, ⟨by omega, hp, fun s hs hps => ?_⟩, rfl, rfl⟩
          by_cases e : s = i
          · subst e; exact ⟨Nat.le_refl _, fun _ => Nat.le_refl _⟩
          · rcases h with ⟨a, b, c⟩ | ⟨t, ⟨a1, a2, a3⟩, b, c⟩
            · exact absurd hps (c s (by omega))
            · rw [c] at hle
              have hle' : ¬ F i ≤ F t := fun q => hle ((nI_leI (by have := hF60 i; omega) (by have := hF60 t; omega)).mpr q)
              have := (a3 s (by omega) hps).1
              exact ⟨by omega, fun e => by omega⟩
        obtain ⟨r1, r2⟩ := ih (i + 1) _ _ _ (by omega) hR2 hnew
        exact ⟨r1, frm_trans f2 r2⟩
    · have hh : fX9_stands so (nI i) = 0 := by simp only [fX9_stands]; rw [show (12 : Nat) = 0 + 12 from rfl, hR.2.1]; exact has_0 hi6 hp
      have hle : (-1 : Int32) ≤ x2 := by
        rcases h with ⟨_, b, _⟩ | ⟨t, _, _, c⟩
        · rw [b]; decide
        · rw [c, m_le, nI_toInt (by have := FN_le (dr := dr) (ti := ti) (mp := mp) (ml := ml) 60 (va_cpy pl pl3 0 0 6) (va_cpy sp sp3 0 0 6) t; omega), m_n1]; omega
      have es : lX9_last_7 mp mt ml md (n + 1) x1 x2 i so = lX9_last_7 mp mt ml md n x1 x2 (i + 1) so := by
        simp only [lX9_last_7, hh, if_true, if_pos hle, fX9_larger]
      rw [es]
      refine ih (i + 1) x1 x2 so (by omega) hR ?_
      rcases h with ⟨a, b, c⟩ | ⟨t, ⟨a1, a2, a3⟩, b, c⟩
      · refine Or.inl ⟨a, b, fun t ht => ?_⟩
        by_cases e : t = i
        · subst e; exact hp
        · exact c t (by omega)
      · refine Or.inr ⟨t, ⟨by omega, a2, fun s hs hps => ?_⟩, b, c⟩
        by_cases e : s = i
        · subst e; exact absurd hps hp
        · exact a3 s (by omega) hps
theorem last_sim (hmt : mt ≤ 6) (hd : DRG mt dr md) (hP : PZ mp) {pl3 sp3 pl sp so : Nat → Int32} {be : Int32} (hR : RM pl sp be ti so 0) (hM : MI mt mp pl sp) : (fX0_last pl3 sp3 dr mp ml pl sp be ti).1 = (fX9_last mp mt ml md so).1 ∧ FRM so (fX9_last mp mt ml md so).2 195 := by
  obtain ⟨r1, r2⟩ := mlast_sim (ml := ml) (pl3 := pl3) (sp3 := sp3) hmt hd hP hM mt 0 (-9) (-1) so (by omega) hR (Or.inl ⟨rfl, rfl, fun t h => absurd h (by omega)⟩)
  simp only [fX9_last]
  refine ⟨?_, r2⟩
  have hz : ∀ t, t < 6 → 0 < sp t → t < mt := by
    intro t ht hp
    rcases Nat.lt_or_ge t mt with c | c
    · exact c
    · have := (hM.1 t ht).2.2 c; rw [this] at hp; exact absurd hp npos_0
  have hcp : ∀ t, t < 6 → ((va_cpy sp sp3 0 0 6) t).toInt ≤ ((60 : Nat) : Int) := fun t ht => by rw [cpy_at ht]; have := (hM.1 t ht).2.1; omega
  obtain ⟨q1, q2⟩ := last_cls (ml := ml) hmt hd hP 60 0 (fX2_lowest (va_cpy sp sp3 0 0 6)) be _ _ _ (try_rm (pl3 := pl3) (sp3 := sp3) hR) (try_mi (pl3 := pl3) (sp3 := sp3) hM) hcp
  have e0 : (fX0_last pl3 sp3 dr mp ml pl sp be ti).1 = (lX0_last_19 ti dr mp ml 60 (fX2_lowest (va_cpy sp sp3 0 0 6)) 0 (va_cpy pl pl3 0 0 6) (va_cpy sp sp3 0 0 6) be).1 := by
    simp only [fX0_last, fX2_copy]
  rw [e0]
  by_cases hall : ∀ t, t < 6 → ¬ 0 < (va_cpy sp sp3 0 0 6) t
  · rw [q1 hall]
    rcases low_cases (va_cpy sp sp3 0 0 6) with ⟨a, _⟩ | ⟨l, l1, l2, _⟩
    · rw [a]
      rcases r1 with ⟨c, _⟩ | ⟨t, ⟨t1, t2, _⟩, _⟩
      · exact c.symm
      · have := hall t (by omega); rw [cpy_at (by omega)] at this; exact absurd t2 this
    · exact absurd l2 (hall l l1)
  · obtain ⟨t, ⟨t1, t2, t3⟩, t4⟩ := q2 hall
    rw [t4]
    rw [cpy_at t1] at t2
    have hT : TOP (FN dr ti mp ml 60 (va_cpy pl pl3 0 0 6) (va_cpy sp sp3 0 0 6)) sp mt t := ⟨hz t t1 t2, t2, fun s hs hps => t3 s (by omega) (by rw [cpy_at (by omega)]; exact hps)⟩
    rcases r1 with ⟨_, c⟩ | ⟨u, u1, u2⟩
    · exact absurd t2 (c t (hz t t1 t2))
    · rw [u2, top_uniq hT u1]

theorem whip_sim {pl sp so : Nat → Int32} {be v : Int32} {b t : Nat} (ht : t < 6) (hR : RM pl sp be ti so b) (hM : MI mt mp pl sp) (hp : 0 < sp t) (hv : 0 ≤ v.toInt ∧ v.toInt ≤ 20) : RM pl (fX2_whipped sp t v) be ti (fX9_whipped so b t v) b ∧ MI mt mp pl (fX2_whipped sp t v) ∧ FRM so (fX9_whipped so b t v) b ∧ fX2_whipped sp t v t = fX9_whipped so b t v (b + 6 + t) := by
  have hb := hM.1 t ht
  have hpp := m_pos.mp hp
  have ha : (sp t + v).toInt = (sp t).toInt + v.toInt := m_add (by omega) (by omega) (by omega) (by omega)
  have e : (if sp t + v ≤ 60 then sp t + v else 60) = (if sp t + v < 60 then sp t + v else 60) := by
    by_cases h1 : sp t + v < 60
    · rw [if_pos h1, if_pos]; rw [m_lt, m_60] at h1; rw [m_le, m_60]; omega
    · rw [if_neg h1]
      by_cases h2 : sp t + v ≤ 60
      · rw [if_pos h2, m_eq]; rw [m_lt, m_60] at h1; rw [m_le, m_60] at h2; rw [m_60]; omega
      · rw [if_neg h2]
  have h0 : 0 < (if sp t + v < 60 then sp t + v else 60) ∧ (if sp t + v < 60 then sp t + v else 60).toInt ≤ 60 := by
    by_cases h1 : sp t + v < 60
    · rw [if_pos h1, m_pos]; rw [m_lt, m_60] at h1; omega
    · rw [if_neg h1]; decide
  simp only [fX2_whipped, fX9_whipped]
  rw [hR.1 t ht, e]
  exact ⟨rm_set ht hR hp h0.1, mi_set hM ht hp h0.1 h0.2, frm_up (by omega) (by omega), by rw [m_us, m_us]⟩
theorem bestWhip_sim (hmt : mt ≤ 6) (hd : DRG mt dr md) (hP : PZ mp) {pl sp : Nat → Int32} {be v mI : Int32} {m : Nat} (hm : mI.toNatClampNeg = m) (hM : MI mt mp pl sp) (hv : 0 ≤ v.toInt ∧ v.toInt ≤ 20) : ∀ (n i : Nat) (x5 x6 : Int32) (pl1 sp1 : Nat → Int32) (be1 ti1 : Int32) (so : Nat → Int32), i + n = mt → RM pl sp be ti so 0 → ((lX0_bestWhip_10 sp pl be ti v dr mp ml m n x5 x6 i pl1 sp1 be1 ti1).1 = (lX9_whip_35 v mp mt ml md mI n x5 x6 i so).1 ∧ FRM so (lX9_whip_35 v mp mt ml md mI n x5 x6 i so).2 195) := by
  intro n
  induction n with
  | zero => intro i x5 x6 pl1 sp1 be1 ti1 so _ _; exact ⟨rfl, frm_refl _ _⟩
  | succ n ih =>
    intro i x5 x6 pl1 sp1 be1 ti1 so hi hR
    have hi6 : i < 6 := by omega
    by_cases hp : 0 < sp i
    · have hh : fX9_stands so (nI i) = 1 := by simp only [fX9_stands]; rw [show (12 : Nat) = 0 + 12 from rfl, hR.2.1]; exact has_1 hi6 hp
      have w1 := try_rm (pl3 := pl1) (sp3 := sp1) hR
      have w2 := try_mi (pl3 := pl1) (sp3 := sp1) hM
      have hp' : 0 < (va_cpy sp sp1 0 0 6) i := by rw [cpy_at hi6]; exact hp
      obtain ⟨v1, v2, v3, _⟩ := whip_sim (v := v) hi6 w1 w2 hp' hv
      obtain ⟨g1, g2, g3⟩ := goN_sim (ml := ml) hmt hd hP m 0 0 _ _ _ _ v1 v2
      have ebits : fX2_howMany (lX2_goBy_8 dr ti mp ml m 0 (va_cpy pl pl1 0 0 6) (fX2_whipped (va_cpy sp sp1 0 0 6) i v) be).2.1 = fX9_bits ((lX9_standBehind_2 mp mt ml md m 0 (fX9_whipped (fX9_copies so 0 195) 195 i v)) 207) := by
        rw [many_bits, show (207 : Nat) = 195 + 12 from rfl, g1.2.1]
      have hF : FRM so (lX9_standBehind_2 mp mt ml md m 0 (fX9_whipped (fX9_copies so 0 195) 195 i v)) 195 := frm_trans (frm_trans try_frm v3) g3
      have hR2 := rm_frm hR hF (by omega)
      generalize hr : fX9_bits ((lX9_standBehind_2 mp mt ml md m 0 (fX9_whipped (fX9_copies so 0 195) 195 i v)) 207) = r at *
      by_cases hle : r ≤ x6
      · have e1 : lX9_whip_35 v mp mt ml md mI (n + 1) x5 x6 i so = lX9_whip_35 v mp mt ml md mI n x5 x6 (i + 1) (lX9_standBehind_2 mp mt ml md m 0 (fX9_whipped (fX9_copies so 0 195) 195 i v)) := by
          simp only [lX9_whip_35, hh, if_neg m_10, fX9_standBehind, hm, hr, if_pos hle, fX9_larger]
        rw [e1]
        simp only [lX0_bestWhip_10, st_1 hp, if_neg m_10, fX2_copy, fX2_goBy, ebits, if_pos hle]
        obtain ⟨r1, r2⟩ := ih (i + 1) x5 x6 (lX2_goBy_8 dr ti mp ml m 0 (va_cpy pl pl1 0 0 6) (fX2_whipped (va_cpy sp sp1 0 0 6) i v) be).1 (lX2_goBy_8 dr ti mp ml m 0 (va_cpy pl pl1 0 0 6) (fX2_whipped (va_cpy sp sp1 0 0 6) i v) be).2.1 (lX2_goBy_8 dr ti mp ml m 0 (va_cpy pl pl1 0 0 6) (fX2_whipped (va_cpy sp sp1 0 0 6) i v) be).2.2 ti _ (by omega) hR2
        exact ⟨r1, frm_trans hF r2⟩
      · have e1 : lX9_whip_35 v mp mt ml md mI (n + 1) x5 x6 i so = lX9_whip_35 v mp mt ml md mI n (nI i) r (i + 1) (lX9_standBehind_2 mp mt ml md m 0 (fX9_whipped (fX9_copies so 0 195) 195 i v)) := by
          simp only [lX9_whip_35, hh, if_neg m_10, fX9_standBehind, hm, hr, if_neg hle, fX9_larger]
        rw [e1]
        simp only [lX0_bestWhip_10, st_1 hp, if_neg m_10, fX2_copy, fX2_goBy, ebits, if_neg hle]
        obtain ⟨r1, r2⟩ := ih (i + 1) (nI i) r (lX2_goBy_8 dr ti mp ml m 0 (va_cpy pl pl1 0 0 6) (fX2_whipped (va_cpy sp sp1 0 0 6) i v) be).1 (lX2_goBy_8 dr ti mp ml m 0 (va_cpy pl pl1 0 0 6) (fX2_whipped (va_cpy sp sp1 0 0 6) i v) be).2.1 (lX2_goBy_8 dr ti mp ml m 0 (va_cpy pl pl1 0 0 6) (fX2_whipped (va_cpy sp sp1 0 0 6) i v) be).2.2 ti _ (by omega) hR2
        exact ⟨r1, frm_trans hF r2⟩
    · have hh : fX9_stands so (nI i) = 0 := by simp only [fX9_stands]; rw [show (12 : Nat) = 0 + 12 from rfl, hR.2.1]; exact has_0 hi6 hp
      have e1 : lX9_whip_35 v mp mt ml md mI (n + 1) x5 x6 i so = lX9_whip_35 v mp mt ml md mI n x5 x6 (i + 1) so := by
        simp only [lX9_whip_35, hh, if_true]
      rw [e1]
      simp only [lX0_bestWhip_10, st_0 hp, if_true]
      exact ih (i + 1) x5 x6 pl1 sp1 be1 ti1 so (by omega) hR
end
