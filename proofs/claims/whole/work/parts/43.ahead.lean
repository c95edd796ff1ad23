theorem cpy_at {f g : Nat → Int32} {t : Nat} (ht : t < 6) : va_cpy f g 0 0 6 t = f t := by
  simp only [va_cpy, Nat.zero_le, Nat.zero_add, Nat.sub_zero, true_and, if_pos ht]
theorem rm_ext {pl sp pl' sp' so : Nat → Int32} {be ti : Int32} {b : Nat} (hp : ∀ t, t < 6 → pl' t = pl t) (hs : ∀ t, t < 6 → sp' t = sp t) (h : RM pl sp be ti so b) : RM pl' sp' be ti so b := by
  obtain ⟨h1, h2, h3, h4, h5⟩ := h
  refine ⟨fun t ht => by rw [hs t ht]; exact h1 t ht, ?_, h3, h4, fun t ht h => by rw [hp t ht]; rw [hs t ht] at h; exact h5 t ht h⟩
  rw [h2]; exact standing_ext (fun t ht => by rw [hs t ht])
theorem mi_ext {pl sp pl' sp' : Nat → Int32} {mt : Nat} {mp : Int32} (hp : ∀ t, t < 6 → pl' t = pl t) (hs : ∀ t, t < 6 → sp' t = sp t) (h : MI mt mp pl sp) : MI mt mp pl' sp' := by
  obtain ⟨h1, h2, h3⟩ := h
  refine ⟨fun t ht => by rw [hs t ht]; exact h1 t ht, fun t ht => by rw [hs t ht, hp t ht]; exact h2 t ht, fun s t hs' ht a b c => ?_⟩
  rw [hs s hs'] at a; rw [hs t ht] at b; rw [hp s hs', hp t ht] at c
  exact h3 s t hs' ht a b c
theorem rm_frm {pl sp so so' : Nat → Int32} {be ti : Int32} {b b1 : Nat} (h : RM pl sp be ti so b) (hf : FRM so so' b1) (hd : b + 15 ≤ b1 ∨ b1 + 15 ≤ b) : RM pl sp be ti so' b := by
  obtain ⟨h1, h2, h3, h4, h5⟩ := h
  refine ⟨fun t ht => ?_, ?_, ?_, ?_, fun t ht hp => ?_⟩
  · rw [hf _ (by omega)]; exact h1 t ht
  · rw [hf _ (by omega)]; exact h2
  · rw [hf _ (by omega)]; exact h3
  · rw [hf _ (by omega)]; exact h4
  · rw [hf _ (by omega)]; exact h5 t ht hp
theorem copies_spec {b0 b1 : Nat} (hd : b0 + 15 ≤ b1 ∨ b1 + 15 ≤ b0) : ∀ (n i : Nat) (so : Nat → Int32), i + n ≤ 15 → (∀ k, i ≤ k → k < i + n → lX9_copies_2 b1 b0 n i so (b1 + k) = so (b0 + k)) ∧ (∀ j, (j < b1 + i ∨ b1 + i + n ≤ j) → lX9_copies_2 b1 b0 n i so j = so j) := by
  intro n
  induction n with
  | zero => intro i so _; exact ⟨fun k a b => absurd b (by omega), fun j _ => rfl⟩
  | succ n ih =>
    intro i so hi
    obtain ⟨r1, r2⟩ := ih (i + 1) (upd so (b1 + i) (so (b0 + i))) (by omega)
    refine ⟨fun k a b => ?_, fun j hj => ?_⟩
    · simp only [lX9_copies_2]
      by_cases e : k = i
      · subst e; rw [r2 _ (by omega), m_us]
      · rw [r1 k (by omega) (by omega), m_un (by omega)]
    · simp only [lX9_copies_2]
      rw [r2 j (by omega), m_un (by omega)]
theorem copies_at {b0 b1 : Nat} (hd : b0 + 15 ≤ b1 ∨ b1 + 15 ≤ b0) {so : Nat → Int32} {k : Nat} (hk : k < 15) : fX9_copies so b0 b1 (b1 + k) = so (b0 + k) := by
  simp only [fX9_copies]; exact (copies_spec hd 15 0 so (by omega)).1 k (by omega) (by omega)
theorem copies_frm {b0 b1 : Nat} (hd : b0 + 15 ≤ b1 ∨ b1 + 15 ≤ b0) {so : Nat → Int32} : FRM so (fX9_copies so b0 b1) b1 := by
  intro j hj
  simp only [fX9_copies]; exact (copies_spec hd 15 0 so (by omega)).2 j (by omega)
theorem rm_copies {pl sp so : Nat → Int32} {be ti : Int32} {b0 b1 : Nat} (hd : b0 + 15 ≤ b1 ∨ b1 + 15 ≤ b0) (h : RM pl sp be ti so b0) : RM pl sp be ti (fX9_copies so b0 b1) b1 := by
  obtain ⟨h1, h2, h3, h4, h5⟩ := h
  refine ⟨fun t ht => ?_, ?_, ?_, ?_, fun t ht hp => ?_⟩
  · rw [show b1 + 6 + t = b1 + (6 + t) from by omega, copies_at hd (by omega), ← Nat.add_assoc]; exact h1 t ht
  · rw [copies_at hd (by omega)]; exact h2
  · rw [copies_at hd (by omega)]; exact h3
  · rw [copies_at hd (by omega)]; exact h4
  · rw [copies_at hd (by omega)]; exact h5 t ht hp
/-- a trial is begun -/
theorem try_rm {pl sp so : Nat → Int32} {be ti : Int32} {pl3 sp3 : Nat → Int32} (h : RM pl sp be ti so 0) : RM (va_cpy pl pl3 0 0 6) (va_cpy sp sp3 0 0 6) be ti (fX9_copies so 0 195) 195 := rm_ext (fun _ ht => cpy_at ht) (fun _ ht => cpy_at ht) (rm_copies (by omega) h)
theorem try_mi {pl sp : Nat → Int32} {mt : Nat} {mp : Int32} {pl3 sp3 : Nat → Int32} (h : MI mt mp pl sp) : MI mt mp (va_cpy pl pl3 0 0 6) (va_cpy sp sp3 0 0 6) := mi_ext (fun _ ht => cpy_at ht) (fun _ ht => cpy_at ht) h
theorem try_frm {so : Nat → Int32} : FRM so (fX9_copies so 0 195) 195 := copies_frm (by omega)

section
variable {dr md : Nat → Int32} {mt : Nat} {mp ml ti : Int32}
theorem goN_sim (hmt : mt ≤ 6) (hd : DRG mt dr md) (hP : PZ mp) : ∀ (n x y : Nat) (pl sp : Nat → Int32) (be : Int32) (so : Nat → Int32), RM pl sp be ti so 195 → MI mt mp pl sp → (RM (lX2_goBy_8 dr ti mp ml n x pl sp be).1 (lX2_goBy_8 dr ti mp ml n x pl sp be).2.1 (lX2_goBy_8 dr ti mp ml n x pl sp be).2.2 ti (lX9_standBehind_2 mp mt ml md n y so) 195 ∧ MI mt mp (lX2_goBy_8 dr ti mp ml n x pl sp be).1 (lX2_goBy_8 dr ti mp ml n x pl sp be).2.1 ∧ FRM so (lX9_standBehind_2 mp mt ml md n y so) 195) := by
  intro n
  induction n with
  | zero => intro x y pl sp be so hR hM; exact ⟨hR, hM, frm_refl _ _⟩
  | succ n ih =>
    intro x y pl sp be so hR hM
    obtain ⟨s1, s2, s3, _⟩ := beat_sim (ml := ml) hmt hd hP hR hM
    rw [goBy_s]
    simp only [lX9_standBehind_2]
    obtain ⟨r1, r2, r3⟩ := ih (x + 1) (y + 1) _ _ _ _ s1 s2
    exact ⟨r1, r2, frm_trans s3 r3⟩
theorem standing_sim (hmt : mt ≤ 6) (hd : DRG mt dr md) (hP : PZ mp) {pl3 sp3 pl sp so : Nat → Int32} {be : Int32} {m : Nat} (hR : RM pl sp be ti so 0) (hM : MI mt mp pl sp) : (fX0_standing pl3 sp3 dr mp ml pl sp be ti m).1 = (fX9_standBehind mp mt ml md (fX9_copies so 0 195) m).1 ∧ FRM so (fX9_standBehind mp mt ml md (fX9_copies so 0 195) m).2 195 := by
  obtain ⟨r1, r2, r3⟩ := goN_sim (ml := ml) hmt hd hP m 0 0 _ _ _ _ (try_rm (pl3 := pl3) (sp3 := sp3) hR) (try_mi (pl3 := pl3) (sp3 := sp3) hM)
  simp only [fX0_standing, fX9_standBehind, fX2_copy, fX2_goBy]
  exact ⟨r1.2.1.symm, frm_trans try_frm r3⟩

def FN (dr : Nat → Int32) (ti mp ml : Int32) : Nat → (Nat → Int32) → (Nat → Int32) → Nat → Nat
  | 0, _, _, _ => 0
  | n + 1, pl, sp, t => if 0 < sp t then FN dr ti mp ml n (cb dr ti mp ml pl sp).1 (cb dr ti mp ml pl sp).2 t + 1 else 0
theorem FN_le : ∀ (n : Nat) (pl sp : Nat → Int32) (t : Nat), FN dr ti mp ml n pl sp t ≤ n := by
  intro n
  induction n with
  | zero => intro pl sp t; exact Nat.le_refl _
  | succ n ih =>
    intro pl sp t
    simp only [FN]
    by_cases h : 0 < sp t
    · rw [if_pos h]; have := ih (cb dr ti mp ml pl sp).1 (cb dr ti mp ml pl sp).2 t; omega
    · rw [if_neg h]; omega
theorem FN_0 {n : Nat} {pl sp : Nat → Int32} {t : Nat} (h : ¬ 0 < sp t) : FN dr ti mp ml n pl sp t = 0 := by
  cases n with
  | zero => rfl
  | succ n => simp only [FN, if_neg h]
theorem FN_ext : ∀ (n : Nat) {pl sp : Nat → Int32} {t : Nat} , 0 < sp t → 0 < n → 0 < FN dr ti mp ml n pl sp t := by
  intro n pl sp t h hn
  cases n with
  | zero => omega
  | succ n => simp only [FN, if_pos h]; omega
theorem goBy1 {pl sp : Nat → Int32} {be : Int32} : (fX2_goBy pl sp be ti dr mp ml 1).2 = ((cb dr ti mp ml pl sp).1, (cb dr ti mp ml pl sp).2, be + 1) := by
  simp only [fX2_goBy]
  rw [goBy_s]
  simp only [lX2_goBy_8]
theorem goBy1a {pl sp : Nat → Int32} {be : Int32} : (fX2_goBy pl sp be ti dr mp ml 1).2.1 = (cb dr ti mp ml pl sp).1 := by rw [goBy1]
theorem goBy1b {pl sp : Nat → Int32} {be : Int32} : (fX2_goBy pl sp be ti dr mp ml 1).2.2.1 = (cb dr ti mp ml pl sp).2 := by rw [goBy1]
theorem goBy1c {pl sp : Nat → Int32} {be : Int32} : (fX2_goBy pl sp be ti dr mp ml 1).2.2.2 = be + 1 := by rw [goBy1]
theorem fall_s0 {t n x : Nat} {pl sp : Nat → Int32} {be : Int32} (h : ¬ 0 < sp t) : lX0_fall_11 t ti dr mp ml (n + 1) x pl sp be = (x, pl, sp, be) := by
  simp only [lX0_fall_11, st_0 h, if_true]
theorem fall_s1 {t n x : Nat} {pl sp : Nat → Int32} {be : Int32} (h : 0 < sp t) : lX0_fall_11 t ti dr mp ml (n + 1) x pl sp be = lX0_fall_11 t ti dr mp ml n (x + 1) (cb dr ti mp ml pl sp).1 (cb dr ti mp ml pl sp).2 (be + 1) := by
  simp only [lX0_fall_11, st_1 h, if_neg m_10, goBy1a, goBy1b, goBy1c]
theorem fall_cnt {t : Nat} : ∀ (n x : Nat) (pl sp : Nat → Int32) (be : Int32), (lX0_fall_11 t ti dr mp ml n x pl sp be).1 = x + FN dr ti mp ml n pl sp t := by
  intro n
  induction n with
  | zero => intro x pl sp be; rfl
  | succ n ih =>
    intro x pl sp be
    by_cases h : 0 < sp t
    · rw [fall_s1 h, ih]; simp only [FN, if_pos h]; omega
    · rw [fall_s0 h]; simp only [FN, if_neg h]; omega
theorem mfall_sim (hmt : mt ≤ 6) (hd : DRG mt dr md) (hP : PZ mp) {t : Nat} (ht : t < 6) : ∀ (n y : Nat) (pl sp : Nat → Int32) (be : Int32) (so : Nat → Int32), RM pl sp be ti so 195 → MI mt mp pl sp → (sp t).toInt ≤ n → ((lX9_fallOf_10 (nI t) mp mt ml md n y so).1 = y + FN dr ti mp ml n pl sp t ∧ fX9_has ((lX9_fallOf_10 (nI t) mp mt ml md n y so).2 207) (nI t) = 0 ∧ FRM so (lX9_fallOf_10 (nI t) mp mt ml md n y so).2 195) := by
  intro n
  induction n with
  | zero =>
    intro y pl sp be so hR hM hb
    refine ⟨rfl, ?_, frm_refl _ _⟩
    have h : ¬ 0 < sp t := by rw [m_pos]; omega
    simp only [lX9_fallOf_10]
    rw [show (207 : Nat) = 195 + 12 from rfl, hR.2.1]; exact has_0 ht h
  | succ n ih =>
    intro y pl sp be so hR hM hb
    by_cases h : 0 < sp t
    · have hh : fX9_has (so 207) (nI t) = 1 := by rw [show (207 : Nat) = 195 + 12 from rfl, hR.2.1]; exact has_1 ht h
      obtain ⟨s1, s2, s3, s4⟩ := beat_sim (ml := ml) hmt hd hP hR hM
      have hb2 : ((cb dr ti mp ml pl sp).2 t).toInt ≤ n := by
        by_cases hp : 0 < (cb dr ti mp ml pl sp).2 t
        · have := (s4 t ht hp).2; omega
        · rw [m_pos] at hp; omega
      obtain ⟨r1, r2, r3⟩ := ih (y + 1) _ _ _ _ s1 s2 hb2
      simp only [lX9_fallOf_10, hh, if_neg m_10, FN, if_pos h]
      exact ⟨by rw [r1]; omega, r2, frm_trans s3 r3⟩
    · have hh : fX9_has (so 207) (nI t) = 0 := by rw [show (207 : Nat) = 195 + 12 from rfl, hR.2.1]; exact has_0 ht h
      simp only [lX9_fallOf_10, hh, if_true, FN, if_neg h]
      exact ⟨rfl, trivial, frm_refl _ _⟩
theorem FN_cong : ∀ (n : Nat) (pl sp pl' sp' : Nat → Int32) (t : Nat), n = 0 ∨ (sp' t = sp t ∧ (cb dr ti mp ml pl' sp').1 = (cb dr ti mp ml pl sp).1 ∧ (cb dr ti mp ml pl' sp').2 = (cb dr ti mp ml pl sp).2) → FN dr ti mp ml n pl' sp' t = FN dr ti mp ml n pl sp t := by
  intro n pl sp pl' sp' t h
  cases n with
  | zero => rfl
  | succ n =>
    rcases h with h | ⟨h1, h2, h3⟩
    · omega
    · simp only [FN, h1, h2, h3]
end
