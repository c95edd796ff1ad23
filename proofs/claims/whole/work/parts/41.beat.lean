def RM (pl sp : Nat → Int32) (be ti : Int32) (so : Nat → Int32) (b : Nat) : Prop := (∀ t, t < 6 → so (b + 6 + t) = sp t) ∧ so (b + 12) = fX2_standing sp ∧ so (b + 13) = be ∧ so (b + 14) = ti ∧ (∀ t, t < 6 → 0 < sp t → so (b + t) = pl t)
def SPB (mt : Nat) (sp : Nat → Int32) : Prop := ∀ t, t < 6 → 0 ≤ (sp t).toInt ∧ (sp t).toInt ≤ 60 ∧ (mt ≤ t → sp t = 0)
def PLB (mp : Int32) (pl sp : Nat → Int32) : Prop := ∀ t, t < 6 → (0 < sp t → 0 ≤ (pl t).toInt ∧ (pl t).toInt < mp.toInt) ∧ (¬ 0 < sp t → pl t = -9)
def DST (pl sp : Nat → Int32) : Prop := ∀ s t, s < 6 → t < 6 → 0 < sp s → 0 < sp t → pl s = pl t → s = t
def MI (mt : Nat) (mp : Int32) (pl sp : Nat → Int32) : Prop := SPB mt sp ∧ PLB mp pl sp ∧ DST pl sp
def DRG (mt : Nat) (dr md : Nat → Int32) : Prop := ∀ t, t < mt → dr t = md t ∧ 1 ≤ (dr t).toInt ∧ (dr t).toInt ≤ 9
def FRM (so so' : Nat → Int32) (b : Nat) : Prop := ∀ j, (j < b ∨ b + 15 ≤ j) → so' j = so j

theorem frm_refl (so : Nat → Int32) (b : Nat) : FRM so so b := fun _ _ => rfl
theorem frm_trans {s0 s1 s2 : Nat → Int32} {b : Nat} (h1 : FRM s0 s1 b) (h2 : FRM s1 s2 b) : FRM s0 s2 b := fun j hj => (h2 j hj).trans (h1 j hj)
theorem frm_up {so : Nat → Int32} {b k : Nat} {v : Int32} (h1 : b ≤ k) (h2 : k < b + 15) : FRM so (upd so k v) b := fun j hj => m_un (by omega)
theorem frm_falls {so : Nat → Int32} {b t : Nat} (ht : t < 6) : FRM so (fX9_falls so b t) b := by
  simp only [fX9_falls]
  exact frm_trans (frm_up (by omega) (by omega)) (frm_up (by omega) (by omega))
theorem npos_0 : ¬ (0 < (0 : Int32)) := by decide

/-- one falls: the model may have another number at its spin -/
theorem rm_fall {pl sp so : Nat → Int32} {be ti : Int32} {b t : Nat} (ht : t < 6) (h1 : ∀ s, s < 6 → s ≠ t → so (b + 6 + s) = sp s) (h2 : so (b + 12) = fX2_standing sp) (h3 : so (b + 13) = be) (h4 : so (b + 14) = ti) (h5 : ∀ s, s < 6 → 0 < sp s → so (b + s) = pl s) : RM (upd pl t (-9)) (upd sp t 0) be ti (fX9_falls so b t) b := by
  simp only [fX9_falls]
  refine ⟨fun s hs => ?_, ?_, ?_, ?_, fun s hs hp => ?_⟩
  · rw [m_un (by omega)]
    by_cases e : s = t
    · subst e; rw [m_us, m_us]
    · rw [m_un (by omega), m_un e]; exact h1 s hs e
  · rw [m_us, m_un (by omega), h2, standing_fall ht]
  · rw [m_un (by omega), m_un (by omega), h3]
  · rw [m_un (by omega), m_un (by omega), h4]
  · have e : s ≠ t := by intro e; subst e; rw [m_us] at hp; exact npos_0 hp
    rw [m_un e] at hp ⊢
    rw [m_un (by omega), m_un (by omega)]
    exact h5 s hs hp
theorem rm_set {pl sp so : Nat → Int32} {be ti v : Int32} {b t : Nat} (ht : t < 6) (h : RM pl sp be ti so b) (h0 : 0 < sp t) (hv : 0 < v) : RM pl (upd sp t v) be ti (upd so (b + 6 + t) v) b := by
  obtain ⟨h1, h2, h3, h4, h5⟩ := h
  refine ⟨fun s hs => ?_, ?_, ?_, ?_, fun s hs hp => ?_⟩
  · by_cases e : s = t
    · subst e; rw [m_us, m_us]
    · rw [m_un (by omega), m_un e]; exact h1 s hs
  · rw [m_un (by omega), h2]
    refine standing_ext (fun s hs => ?_)
    by_cases e : s = t
    · subst e; rw [m_us]; exact ⟨fun _ => hv, fun _ => h0⟩
    · rw [m_un e]
  · rw [m_un (by omega), h3]
  · rw [m_un (by omega), h4]
  · rw [m_un (by omega)]
    by_cases e : s = t
    · subst e; exact h5 s hs h0
    · rw [m_un e] at hp; exact h5 s hs hp
theorem mi_fall {mt : Nat} {mp : Int32} {pl sp : Nat → Int32} {t : Nat} (h : MI mt mp pl sp) : MI mt mp (upd pl t (-9)) (upd sp t 0) := by
  obtain ⟨h1, h2, h3⟩ := h
  have hne : ∀ {s}, 0 < upd sp t 0 s → s ≠ t := by
    intro s hp e; subst e; rw [m_us] at hp; exact npos_0 hp
  refine ⟨fun s hs => ?_, fun s hs => ?_, fun s u hs hu ps pu e => ?_⟩
  · by_cases e : s = t
    · subst e; rw [m_us, m_0]; exact ⟨by omega, by omega, fun _ => rfl⟩
    · rw [m_un e]; exact h1 s hs
  · by_cases e : s = t
    · subst e; rw [m_us, m_us]; exact ⟨fun c => absurd c npos_0, fun _ => rfl⟩
    · rw [m_un e, m_un e]; exact h2 s hs
  · have e1 := hne ps
    have e2 := hne pu
    rw [m_un e1] at ps e
    rw [m_un e2] at pu e
    exact h3 s u hs hu ps pu e
theorem mi_set {mt : Nat} {mp v : Int32} {pl sp : Nat → Int32} {t : Nat} (h : MI mt mp pl sp) (ht : t < 6) (h0 : 0 < sp t) (hv : 0 < v) (hb : v.toInt ≤ 60) : MI mt mp pl (upd sp t v) := by
  obtain ⟨h1, h2, h3⟩ := h
  have hne : ∀ {s}, s < 6 → 0 < upd sp t v s → 0 < sp s := by
    intro s hs hp
    by_cases e : s = t
    · subst e; exact h0
    · rw [m_un e] at hp; exact hp
  refine ⟨fun s hs => ?_, fun s hs => ?_, fun s u hs hu ps pu e => h3 s u hs hu (hne hs ps) (hne hu pu) e⟩
  · by_cases e : s = t
    · subst e; rw [m_us]
      refine ⟨?_, hb, fun c => ?_⟩
      · rw [m_pos] at hv; omega
      · have := (h1 s hs).2.2 c; rw [this] at h0; exact absurd h0 npos_0
    · rw [m_un e]; exact h1 s hs
  · refine ⟨fun hp => (h2 s hs).1 (hne hs hp), fun hp => ?_⟩
    by_cases e : s = t
    · subst e; rw [m_us] at hp; exact absurd hv hp
    · rw [m_un e] at hp; exact (h2 s hs).2 hp
theorem mi_move {mt : Nat} {mp w : Int32} {pl sp : Nat → Int32} {t : Nat} (h : MI mt mp pl sp) (h0 : 0 < sp t) (hw : 0 ≤ w.toInt ∧ w.toInt < mp.toInt) (hn : ∀ s, s < 6 → s ≠ t → 0 < sp s → pl s ≠ w) : MI mt mp (upd pl t w) sp := by
  obtain ⟨h1, h2, h3⟩ := h
  refine ⟨h1, fun s hs => ?_, fun s u hs hu ps pu e => ?_⟩
  · by_cases e : s = t
    · subst e; rw [m_us]; exact ⟨fun _ => hw, fun c => absurd h0 c⟩
    · rw [m_un e]; exact h2 s hs
  · by_cases e1 : s = t
    · by_cases e2 : u = t
      · rw [e1, e2]
      · rw [e1, m_us, m_un e2] at e; exact absurd e.symm (hn u hu e2 pu)
    · by_cases e2 : u = t
      · rw [e2, m_us, m_un e1] at e; exact absurd e (hn s hs e1 ps)
      · rw [m_un e1, m_un e2] at e; exact h3 s u hs hu ps pu e

theorem slow_s0 {dr pl sp : Nat → Int32} {n i : Nat} (h : ¬ 0 < sp i) : lX2_slowDown_2 dr (n + 1) i pl sp = lX2_slowDown_2 dr n (i + 1) pl sp := by
  simp only [lX2_slowDown_2, st_0 h, if_true]
theorem slow_s1 {dr pl sp : Nat → Int32} {n i : Nat} (h : 0 < sp i) (hv : ¬ 0 < sp i - dr i) : lX2_slowDown_2 dr (n + 1) i pl sp = lX2_slowDown_2 dr n (i + 1) (upd pl i (-9)) (upd sp i 0) := by
  simp only [lX2_slowDown_2, st_1 h, if_neg m_10, fX2_spins, if_pos (m_nlt.mp hv)]
theorem slow_s2 {dr pl sp : Nat → Int32} {n i : Nat} (h : 0 < sp i) (hv : 0 < sp i - dr i) : lX2_slowDown_2 dr (n + 1) i pl sp = lX2_slowDown_2 dr n (i + 1) pl (upd sp i (sp i - dr i)) := by
  simp only [lX2_slowDown_2, st_1 h, if_neg m_10, fX2_spins, if_neg (m_nle.mpr hv)]
theorem slow_idle {dr : Nat → Int32} : ∀ (n i : Nat) (pl sp : Nat → Int32), (∀ t, i ≤ t → t < i + n → ¬ 0 < sp t) → lX2_slowDown_2 dr n i pl sp = (pl, sp) := by
  intro n
  induction n with
  | zero => intro i pl sp _; rfl
  | succ n ih => intro i pl sp h; rw [slow_s0 (h i (Nat.le_refl _) (by omega))]; exact ih _ _ _ (fun t a b => h t (by omega) (by omega))
theorem slow_app {dr : Nat → Int32} : ∀ (n m i : Nat) (pl sp : Nat → Int32), lX2_slowDown_2 dr (n + m) i pl sp = lX2_slowDown_2 dr m (i + n) (lX2_slowDown_2 dr n i pl sp).1 (lX2_slowDown_2 dr n i pl sp).2 := by
  intro n
  induction n with
  | zero => intro m i pl sp; simp only [Nat.zero_add, Nat.add_zero, lX2_slowDown_2]
  | succ n ih =>
    intro m i pl sp
    rw [show n + 1 + m = (n + m) + 1 from by omega, show i + (n + 1) = i + 1 + n from by omega]
    by_cases h : 0 < sp i
    · by_cases hv : 0 < sp i - dr i
      · rw [slow_s2 h hv, slow_s2 h hv]; exact ih _ _ _ _
      · rw [slow_s1 h hv, slow_s1 h hv]; exact ih _ _ _ _
    · rw [slow_s0 h, slow_s0 h]; exact ih _ _ _ _
theorem mslow_s0 {md so : Nat → Int32} {b n i : Nat} (h : fX9_has (so (b + 12)) (nI i) = 0) : lX9_beat_2 b md (n + 1) i so = lX9_beat_2 b md n (i + 1) so := by
  simp only [lX9_beat_2, h, if_true]
theorem mslow_s1 {md so : Nat → Int32} {b n i : Nat} (h : fX9_has (so (b + 12)) (nI i) = 1) (hv : ¬ 0 < so (b + 6 + i) - md i) : lX9_beat_2 b md (n + 1) i so = lX9_beat_2 b md n (i + 1) (fX9_falls (upd so (b + 6 + i) (so (b + 6 + i) - md i)) b i) := by
  simp only [lX9_beat_2, h, if_neg m_10, m_us, if_neg hv]
theorem mslow_s2 {md so : Nat → Int32} {b n i : Nat} (h : fX9_has (so (b + 12)) (nI i) = 1) (hv : 0 < so (b + 6 + i) - md i) : lX9_beat_2 b md (n + 1) i so = lX9_beat_2 b md n (i + 1) (upd so (b + 6 + i) (so (b + 6 + i) - md i)) := by
  simp only [lX9_beat_2, h, if_neg m_10, m_us, if_pos hv]

theorem slow_sim {dr md : Nat → Int32} {mt : Nat} {mp be ti : Int32} {b : Nat} (hmt : mt ≤ 6) (hd : DRG mt dr md) : ∀ (n i : Nat) (pl sp so : Nat → Int32), i + n ≤ mt → RM pl sp be ti so b → MI mt mp pl sp → (RM (lX2_slowDown_2 dr n i pl sp).1 (lX2_slowDown_2 dr n i pl sp).2 be ti (lX9_beat_2 b md n i so) b ∧ MI mt mp (lX2_slowDown_2 dr n i pl sp).1 (lX2_slowDown_2 dr n i pl sp).2 ∧ FRM so (lX9_beat_2 b md n i so) b ∧ (∀ t, t < 6 → 0 < (lX2_slowDown_2 dr n i pl sp).2 t → 0 < sp t ∧ ((lX2_slowDown_2 dr n i pl sp).2 t).toInt ≤ (sp t).toInt ∧ (i ≤ t → t < i + n → ((lX2_slowDown_2 dr n i pl sp).2 t).toInt + 1 ≤ (sp t).toInt))) := by
  intro n
  induction n with
  | zero =>
    intro i pl sp so _ hR hM
    exact ⟨hR, hM, frm_refl _ _, fun t ht hp => ⟨hp, Int.le_refl _, fun a b => absurd b (by omega)⟩⟩
  | succ n ih =>
    intro i pl sp so hi hR hM
    have hi6 : i < 6 := by omega
    have hR' := hR
    obtain ⟨h1, h2, h3, h4, h5⟩ := hR'
    have hb := hM.1 i hi6
    obtain ⟨d1, d2, d3⟩ := hd i (by omega)
    by_cases h : 0 < sp i
    · have hp := m_pos.mp h
      have hh : fX9_has (so (b + 12)) (nI i) = 1 := by rw [h2]; exact has_1 hi6 h
      have hs : (sp i - dr i).toInt = (sp i).toInt - (dr i).toInt := m_sub (by omega) (by omega) (by omega) (by omega)
      by_cases hv : 0 < sp i - dr i
      · have hv' : 0 < so (b + 6 + i) - md i := by rw [h1 i hi6, ← d1]; exact hv
        rw [slow_s2 h hv, mslow_s2 hh hv']
        have hR2 : RM pl (upd sp i (sp i - dr i)) be ti (upd so (b + 6 + i) (so (b + 6 + i) - md i)) b := by
          rw [h1 i hi6, ← d1]; exact rm_set hi6 hR h hv
        have hM2 : MI mt mp pl (upd sp i (sp i - dr i)) := mi_set hM hi6 h hv (by omega)
        obtain ⟨r1, r2, r3, r4⟩ := ih (i + 1) _ _ _ (by omega) hR2 hM2
        refine ⟨r1, r2, frm_trans (frm_up (by omega) (by omega)) r3, fun t ht hp' => ?_⟩
        obtain ⟨a1, a2, a3⟩ := r4 t ht hp'
        by_cases e : t = i
        · subst e; rw [m_us] at a2; exact ⟨h, by omega, fun _ _ => by omega⟩
        · rw [m_un e] at a1 a2 a3; exact ⟨a1, a2, fun _ _ => a3 (by omega) (by omega)⟩
      · have hv' : ¬ 0 < so (b + 6 + i) - md i := by rw [h1 i hi6, ← d1]; exact hv
        rw [slow_s1 h hv, mslow_s1 hh hv']
        have hR2 : RM (upd pl i (-9)) (upd sp i 0) be ti (fX9_falls (upd so (b + 6 + i) (so (b + 6 + i) - md i)) b i) b := by
          refine rm_fall hi6 (fun s hs e => ?_) ?_ ?_ ?_ (fun s hs hp => ?_)
          · rw [m_un (by omega)]; exact h1 s hs
          · rw [m_un (by omega)]; exact h2
          · rw [m_un (by omega)]; exact h3
          · rw [m_un (by omega)]; exact h4
          · rw [m_un (by omega)]; exact h5 s hs hp
        obtain ⟨r1, r2, r3, r4⟩ := ih (i + 1) _ _ _ (by omega) hR2 (mi_fall hM)
        refine ⟨r1, r2, frm_trans (frm_trans (frm_up (by omega) (by omega)) (frm_falls hi6)) r3, fun t ht hp' => ?_⟩
        obtain ⟨a1, a2, a3⟩ := r4 t ht hp'
        by_cases e : t = i
        · subst e; rw [m_us] at a1; exact absurd a1 npos_0
        · rw [m_un e] at a1 a2 a3; exact ⟨a1, a2, fun _ _ => a3 (by omega) (by omega)⟩
    · have hh : fX9_has (so (b + 12)) (nI i) = 0 := by rw [h2]; exact has_0 hi6 h
      rw [slow_s0 h, mslow_s0 hh]
      obtain ⟨r1, r2, r3, r4⟩ := ih (i + 1) _ _ _ (by omega) hR hM
      refine ⟨r1, r2, r3, fun t ht hp' => ?_⟩
      obtain ⟨a1, a2, a3⟩ := r4 t ht hp'
      refine ⟨a1, a2, fun _ _ => ?_⟩
      by_cases e : t = i
      · subst e; exact absurd a1 h
      · exact a3 (by omega) (by omega)
theorem slow_all {dr md : Nat → Int32} {mt : Nat} {mp be ti : Int32} {b : Nat} (hmt : mt ≤ 6) (hd : DRG mt dr md) {pl sp so : Nat → Int32} (hR : RM pl sp be ti so b) (hM : MI mt mp pl sp) : RM (fX2_slowDown pl sp dr).1 (fX2_slowDown pl sp dr).2 be ti (lX9_beat_2 b md mt 0 so) b ∧ MI mt mp (fX2_slowDown pl sp dr).1 (fX2_slowDown pl sp dr).2 ∧ FRM so (lX9_beat_2 b md mt 0 so) b ∧ (∀ t, t < 6 → 0 < (fX2_slowDown pl sp dr).2 t → 0 < sp t ∧ ((fX2_slowDown pl sp dr).2 t).toInt + 1 ≤ (sp t).toInt) := by
  obtain ⟨r1, r2, r3, r4⟩ := slow_sim hmt hd mt 0 pl sp so (by omega) hR hM
  have e : fX2_slowDown pl sp dr = lX2_slowDown_2 dr mt 0 pl sp := by
    simp only [fX2_slowDown]
    have := slow_app (dr := dr) mt (6 - mt) 0 pl sp
    rw [show mt + (6 - mt) = 6 from by omega] at this
    rw [this, slow_idle]
    intro t h1 h2
    have := (r2.1 t (by omega)).2.2 (by omega)
    rw [this]; exact npos_0
  rw [e]
  refine ⟨r1, r2, r3, fun t ht hp => ?_⟩
  obtain ⟨a1, a2, a3⟩ := r4 t ht hp
  refine ⟨a1, a3 (by omega) ?_⟩
  rcases Nat.lt_or_ge t mt with c | c
  · omega
  · have := (r2.1 t ht).2.2 c; rw [this] at hp; exact absurd hp npos_0
