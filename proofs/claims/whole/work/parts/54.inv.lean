def INV (le : Nat → Int32) (ln : Nat) (dr : Nat → Int32) (pz sl : Int32) (tp : Nat) (pl sp : Nat → Int32) (be ti : Int32) (PL SP : Nat → Nat → Int32) (BE TI : Nat → Int32) (nx kn : Nat) (plI spI : Nat → Int32) (beI tiI : Int32) (plJ spJ : Nat → Int32) (beJ tiJ : Int32) (ke : Nat → Int32) (fi bt su : Nat → Int32) (knE : Nat) (tr : Int64) (mp : Int32) (mt : Nat) (ml : Int32) (md so : Nat → Int32) (ac : Nat) (mk : Nat → Int32) (mn : Nat) (mx : Nat → Int32) (sn : Nat) (sF sB sS : Nat → Int32) (mm : Int64) : Prop :=
  ITX le ln mn mx ∧ (pz = mp ∧ sl = ml ∧ tp = mt ∧ mt ≤ 6 ∧ PZ mp ∧ DRG mt dr md) ∧ MOM mt mp pl sp be ti so 0 ∧ (kn = ac ∧ PAS mt mp PL SP BE TI nx ac so) ∧ IMG mt mp plI spI beI tiI (ke 0) (mk 0) so 165 ∧ IMG mt mp plJ spJ beJ tiJ (ke 1) (mk 1) so 180 ∧ (knE = sn ∧ sn ≤ 6 ∧ SE fi bt su sF sB sS sn) ∧ tr = mm
theorem reset12 : ∀ n i (pl sp : Nat → Int32), (∀ t, i ≤ t → t < i + n → (lX2_reset_12 n i pl sp).1 t = -9 ∧ (lX2_reset_12 n i pl sp).2 t = 0) ∧ (∀ t, t < i → (lX2_reset_12 n i pl sp).1 t = pl t ∧ (lX2_reset_12 n i pl sp).2 t = sp t) := by
  intro n
  induction n with
  | zero => intro i pl sp; exact ⟨fun t a b => absurd b (by omega), fun t _ => ⟨rfl, rfl⟩⟩
  | succ n ih =>
    intro i pl sp
    have z : (0 : Int32) ≤ 0 := by decide
    obtain ⟨r1, r2⟩ := ih (i + 1) (upd pl i (-9)) (upd sp i 0)
    simp only [lX2_reset_12, fX2_spins, if_pos z]
    refine ⟨fun t a b => ?_, fun t a => ?_⟩
    · by_cases e : t = i
      · subst e; have := r2 t (by omega); rw [m_us, m_us] at this; exact this
      · exact r1 t (by omega) (by omega)
    · have := r2 t (by omega); rw [m_un (by omega), m_un (by omega)] at this; exact this
theorem set26 {nD nP nS : Nat → Int32} {nt : Nat} : ∀ n i (md so : Nat → Int32), i + n ≤ 6 → ((∀ t, i ≤ t → t < i + n → (lX9_settles_26 nD nt nP nS n i md so).1 t = nD t ∧ (lX9_settles_26 nD nt nP nS n i md so).2 t = (if nt ≤ t then 0 else nP t) ∧ (lX9_settles_26 nD nt nP nS n i md so).2 (6 + t) = (if nt ≤ t then 0 else nS t)) ∧ (∀ t, t < i → (lX9_settles_26 nD nt nP nS n i md so).1 t = md t ∧ (lX9_settles_26 nD nt nP nS n i md so).2 t = so t ∧ (lX9_settles_26 nD nt nP nS n i md so).2 (6 + t) = so (6 + t))) := by
  intro n
  induction n with
  | zero => intro i md so _; exact ⟨fun t a b => absurd b (by omega), fun t _ => ⟨rfl, rfl, rfl⟩⟩
  | succ n ih =>
    intro i md so hi
    obtain ⟨r1, r2⟩ := ih (i + 1) (upd md i (nD i)) (upd (upd so i (if nt ≤ i then 0 else nP i)) (6 + i) (if nt ≤ i then 0 else nS i)) (by omega)
    simp only [lX9_settles_26]
    refine ⟨fun t a b => ?_, fun t a => ?_⟩
    · by_cases e : t = i
      · subst e
        obtain ⟨q1, q2, q3⟩ := r2 t (by omega)
        rw [m_us] at q1
        rw [m_un (by omega), m_us] at q2
        rw [m_us] at q3
        exact ⟨q1, q2, q3⟩
      · exact r1 t (by omega) (by omega)
    · obtain ⟨q1, q2, q3⟩ := r2 t (by omega)
      rw [m_un (by omega)] at q1
      rw [m_un (by omega), m_un (by omega)] at q2
      rw [m_un (by omega), m_un (by omega)] at q3
      exact ⟨q1, q2, q3⟩
theorem first_fin : ∀ nt : Fin 7, fX2_standing (fun t => if t < nt.1 then 1 else 0) = (1 <<< ((nI nt.1) &&& 31)) - 1 := by decide +kernel
theorem settle_mom {np : Int32} {nt : Nat} {nP nS nD dr pl sp md so : Nat → Int32} (hD : DR np nt nP nS nD dr pl sp) : MOM nt np pl sp 0 0 (upd (upd (upd (lX9_settles_26 nD nt nP nS 6 0 md so).2 12 ((1 <<< ((nI nt) &&& 31)) - 1)) 13 0) 14 0) 0 := by
  have hD0 := hD
  obtain ⟨d1, d2, d3, d4, d5⟩ := hD
  obtain ⟨s1, _⟩ := set26 (nD := nD) (nP := nP) (nS := nS) (nt := nt) 6 0 md so (by omega)
  refine ⟨⟨fun t ht => ?_, ?_, ?_, ?_, fun t ht hp => ?_⟩, ⟨fun t ht => ?_, fun t ht => ?_, fun s t hs ht ps pt e => ?_⟩, by decide, by decide⟩
  · rw [m_un (by omega), m_un (by omega), m_un (by omega), Nat.zero_add, (s1 t (by omega) (by omega)).2.2]
    rcases Nat.lt_or_ge t nt with c | c
    · rw [if_neg (by omega)]; exact (d3 t c).2.1.symm
    · rw [if_pos c]; exact (d4 t c ht).1.symm
  · rw [m_un (by omega), m_un (by omega), Nat.zero_add, m_us, ← first_fin ⟨nt, by omega⟩]
    refine standing_ext (fun t ht => ?_)
    rw [dr_sp hD0 ht]
    rcases Nat.lt_or_ge t nt with c | c
    · simp only [if_pos c]; exact ⟨fun _ => c, fun _ => by decide⟩
    · simp only [if_neg (show ¬ t < nt by omega)]; exact ⟨fun q => absurd q npos_0, fun q => absurd q (by omega)⟩
  · rw [m_un (by omega), Nat.zero_add, m_us]
  · exact m_us
  · have c := (dr_sp hD0 ht).mp hp
    rw [m_un (by omega), m_un (by omega), m_un (by omega), Nat.zero_add, (s1 t (by omega) (by omega)).2.1, if_neg (by omega)]
    exact (d3 t c).1.symm
  · rcases Nat.lt_or_ge t nt with c | c
    · have := d3 t c; exact ⟨by omega, this.2.2.2.2.1, fun q => absurd q (by omega)⟩
    · rw [(d4 t c ht).1]; exact ⟨by decide, by decide, fun _ => rfl⟩
  · refine ⟨fun hp => ?_, fun hp => ?_⟩
    · have c := (dr_sp hD0 ht).mp hp
      exact ⟨(d3 t c).2.2.2.2.2.1, (d3 t c).2.2.2.2.2.2.1⟩
    · have c : ¬ t < nt := fun c => hp ((dr_sp hD0 ht).mpr c)
      exact (d4 t (by omega) ht).2
  · exact d5 s t ((dr_sp hD0 hs).mp ps) ((dr_sp hD0 ht).mp pt) e
theorem tray60 (ke : Nat → Int32) : (lX8_tray_60 2 0 ke) 0 = 0 ∧ (lX8_tray_60 2 0 ke) 1 = 0 := by
  have e : vp_nar .boolean 0 = 0 := by decide
  simp only [lX8_tray_60, e]
  exact ⟨by rw [m_un (by omega), m_us], by rw [Nat.zero_add, m_us]⟩
