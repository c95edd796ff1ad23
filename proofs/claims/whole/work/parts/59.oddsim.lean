theorem w_has : ∀ h : Fin 64, ∀ q : Fin 6, fX9_has (nI h.1) (nI q.1) = if h.1 / 2 ^ q.1 % 2 = 1 then 1 else 0 := by decide +kernel
theorem w_le : ∀ S h : Fin 64, h.1 &&& S.1 = h.1 → ∀ x : Fin 11, wt S.1 h.1 x.1 ≤ 1000000 := by decide +kernel
theorem pow_4 (b : Nat) : ∀ n a i, lX8_power_4 (nI b) n (nI a) i = nI (a * b ^ n) := by
  intro n
  induction n with
  | zero => intro a i; simp only [lX8_power_4, Nat.pow_zero, Nat.mul_one]
  | succ n ih => intro a i; simp only [lX8_power_4]; rw [nI_mulN, ih, Nat.pow_succ, Nat.mul_assoc, Nat.mul_comm b]
theorem pow_n {b k : Nat} (hk : k < 2 ^ 31) : fX8_power (nI b) (nI k) = nI (b ^ k) := by
  simp only [fX8_power]; rw [nI_clamp hk, show (1 : Int32) = nI 1 from rfl, pow_4, Nat.one_mul]
theorem hit_idle {h : Nat} (hh : h < 64) : ∀ (k i : Nat) (sp : Nat → Int32), i + k ≤ 6 → (∀ t, i ≤ t → t < i + k → ¬ h / 2 ^ t % 2 = 1) → lX0_standsIfHit_11 (nI h) k i sp = sp := by
  intro k
  induction k with
  | zero => intro i sp _ _; rfl
  | succ k ih =>
    intro i sp hi hb
    have e : ((nI h >>> ((nI i) &&& 31)) &&& 1) = if h / 2 ^ i % 2 = 1 then 1 else 0 := w_bit ⟨h, hh⟩ ⟨i, by omega⟩
    rw [if_neg (hb i (Nat.le_refl _) (by omega))] at e
    simp only [lX0_standsIfHit_11, e, if_true]
    exact ih (i + 1) sp (by omega) (fun t a b => hb t (by omega) (by omega))
theorem wprod_idle {S h x : Nat} : ∀ (k i w : Nat), (∀ t, i ≤ t → t < i + k → ¬ S / 2 ^ t % 2 = 1) → wprod S h x k i w = w := by
  intro k
  induction k with
  | zero => intro i w _; rfl
  | succ k ih =>
    intro i w hb
    simp only [wprod, if_neg (hb i (Nat.le_refl _) (by omega))]
    exact ih (i + 1) w (fun t a b => hb t (by omega) (by omega))
theorem sbit {sp : Nat → Int32} {S t : Nat} (hS : S < 64) (ht : t < 6) (e : fX2_standing sp = nI S) : S / 2 ^ t % 2 = 1 ↔ 0 < sp t := by
  have a := has_st (sp := sp) ht
  have a1 : fX9_has (nI S) (nI t) = if S / 2 ^ t % 2 = 1 then 1 else 0 := w_has ⟨S, hS⟩ ⟨t, ht⟩
  rw [e, a1] at a
  by_cases c1 : S / 2 ^ t % 2 = 1
  · by_cases c2 : 0 < sp t
    · exact ⟨fun _ => c2, fun _ => c1⟩
    · rw [if_pos c1, if_neg c2] at a; exact absurd a m_10
  · by_cases c2 : 0 < sp t
    · rw [if_neg c1, if_pos c2] at a; exact absurd a m_01
    · exact ⟨fun q => absurd q c1, fun q => absurd q c2⟩
theorem whp_pos {sp : Nat → Int32} {t s : Nat} {v : Int32} (ht : t < 6) (hp : 0 < sp t) (hb : (sp t).toInt ≤ 60) (hv : 0 ≤ v.toInt ∧ v.toInt ≤ 20) : 0 < fX2_whipped sp t v s ↔ 0 < sp s := by
  simp only [fX2_whipped]
  by_cases e : s = t
  · subst e
    rw [m_us]
    refine ⟨fun _ => hp, fun _ => ?_⟩
    by_cases h1 : sp s + v < 60
    · rw [if_pos h1, m_pos, m_add (by rw [m_pos] at hp; omega) (by omega) (by omega) (by omega)]; rw [m_pos] at hp; omega
    · rw [if_neg h1]; decide
  · rw [m_un e]
theorem whp_0 {sp : Nat → Int32} {t : Nat} (h0 : 0 ≤ (sp t).toInt) (hb : (sp t).toInt ≤ 60) (s : Nat) : fX2_whipped sp t 0 s = sp s := by
  simp only [fX2_whipped]
  by_cases e : s = t
  · subst e
    rw [m_us]
    have ha : (sp s + 0).toInt = (sp s).toInt := by rw [m_add (by omega) (by omega) (by rw [m_0]; omega) (by rw [m_0]; omega), m_0]; omega
    by_cases h1 : sp s + 0 < 60
    · rw [if_pos h1, m_eq]; exact ha
    · rw [if_neg h1, m_eq, m_60]; rw [m_lt, m_60] at h1; omega
  · rw [m_un e]
section
variable {dr md : Nat → Int32} {mt : Nat} {mp ml ti : Int32}
theorem hit_sim (hmt : mt ≤ 6) {S h x : Nat} (hS : S < 64) (hh : h < 64) (hsub : h &&& S = h) (hx : x ≤ 10) {pl sp0 : Nat → Int32} {be : Int32} (hz : ∀ t, t < 6 → mt ≤ t → ¬ 0 < sp0 t) (eS : fX2_standing sp0 = nI S) : ∀ (n i w : Nat) (sp so : Nat → Int32), i + n = mt → RM pl sp be ti so 195 → MI mt mp pl sp → so 12 = nI S → (∀ t, t < 6 → (0 < sp t ↔ 0 < sp0 t)) → (RM pl (lX0_standsIfHit_11 (nI h) (6 - i) i sp) be ti (lX9_odds_90 h (nI x) n (nI w) i so).2 195 ∧ MI mt mp pl (lX0_standsIfHit_11 (nI h) (6 - i) i sp) ∧ FRM so (lX9_odds_90 h (nI x) n (nI w) i so).2 195 ∧ (lX9_odds_90 h (nI x) n (nI w) i so).1 = nI (wprod S h x (6 - i) i w)) := by
  have hb : ∀ t, t < 6 → (S / 2 ^ t % 2 = 1 ↔ 0 < sp0 t) := fun t ht => sbit hS ht eS
  have hin : ∀ q : Fin 6, h / 2 ^ q.1 % 2 = 1 → S / 2 ^ q.1 % 2 = 1 := (w_in ⟨S, hS⟩ ⟨h, hh⟩ hsub).2
  intro n
  induction n with
  | zero =>
    intro i w sp so hi hR hM hs hp
    have h0 : ∀ t, i ≤ t → t < i + (6 - i) → ¬ S / 2 ^ t % 2 = 1 := fun t a b q => hz t (by omega) (by omega) ((hb t (by omega)).mp q)
    rw [hit_idle hh (6 - i) i sp (by omega) (fun t a b q => h0 t a b (hin ⟨t, by omega⟩ q)), wprod_idle _ _ _ h0]
    exact ⟨hR, hM, frm_refl _ _, rfl⟩
  | succ n ih =>
    intro i w sp so hi hR hM hs hp
    have hi6 : i < 6 := by omega
    have eb : ((nI h >>> ((nI i) &&& 31)) &&& 1) = if h / 2 ^ i % 2 = 1 then 1 else 0 := w_bit ⟨h, hh⟩ ⟨i, hi6⟩
    have eh : fX9_has (nI h) (nI i) = if h / 2 ^ i % 2 = 1 then 1 else 0 := w_has ⟨h, hh⟩ ⟨i, hi6⟩
    have e10 : 10 - nI x = nI (10 - x) := by rw [show (10 : Int32) = nI 10 from rfl, nI_subN hx]
    rw [show 6 - i = (6 - (i + 1)) + 1 from by omega]
    by_cases c : 0 < sp0 i
    · have cS := (hb i hi6).mpr c
      have cp := (hp i hi6).mpr c
      have hB := hM.1 i hi6
      have hst : fX9_stands so (nI i) = 1 := by simp only [fX9_stands]; rw [hs, ← eS]; exact has_1 hi6 c
      by_cases c2 : h / 2 ^ i % 2 = 1
      · rw [if_pos c2] at eb eh
        have v5 : 0 ≤ (5 : Int32).toInt ∧ (5 : Int32).toInt ≤ 20 := by decide
        obtain ⟨v1, v2, v3, _⟩ := whip_sim (v := 5) hi6 hR hM cp v5
        have hs2 : (fX9_whipped so 195 i 5) 12 = nI S := by rw [v3 12 (by omega)]; exact hs
        obtain ⟨r1, r2, r3, r4⟩ := ih (i + 1) (w * x) _ _ (by omega) v1 v2 hs2 (fun t ht => by rw [whp_pos hi6 cp hB.2.1 v5]; exact hp t ht)
        simp only [lX0_standsIfHit_11, lX9_odds_90, hst, eh, eb, if_neg m_10, wprod, if_pos cS, if_pos c2, nI_mulN]
        exact ⟨r1, r2, frm_trans v3 r3, r4⟩
      · rw [if_neg c2] at eb eh
        have v0 : 0 ≤ (0 : Int32).toInt ∧ (0 : Int32).toInt ≤ 20 := by decide
        obtain ⟨v1, v2, v3, _⟩ := whip_sim (v := 0) hi6 hR hM cp v0
        have e0 : ∀ s, s < 6 → sp s = fX2_whipped sp i 0 s := fun s _ => (whp_0 hB.1 hB.2.1 s).symm
        have hs2 : (fX9_whipped so 195 i 0) 12 = nI S := by rw [v3 12 (by omega)]; exact hs
        obtain ⟨r1, r2, r3, r4⟩ := ih (i + 1) (w * (10 - x)) sp _ (by omega) (rm_ext (fun _ _ => rfl) e0 v1) hM hs2 hp
        simp only [lX0_standsIfHit_11, lX9_odds_90, hst, eh, eb, if_neg m_10, if_true, wprod, if_pos cS, if_neg c2, e10, nI_mulN]
        exact ⟨r1, r2, frm_trans v3 r3, r4⟩
    · have cS : ¬ S / 2 ^ i % 2 = 1 := fun q => c ((hb i hi6).mp q)
      have c2 : ¬ h / 2 ^ i % 2 = 1 := fun q => cS (hin ⟨i, hi6⟩ q)
      have hst : fX9_stands so (nI i) = 0 := by simp only [fX9_stands]; rw [hs, ← eS]; exact has_0 hi6 c
      rw [if_neg c2] at eb
      obtain ⟨r1, r2, r3, r4⟩ := ih (i + 1) w sp so (by omega) hR hM hs hp
      simp only [lX0_standsIfHit_11, lX9_odds_90, hst, eb, if_true, wprod, if_neg cS]
      exact ⟨r1, r2, r3, r4⟩
theorem odds_loop (hmt : mt ≤ 6) (hd : DRG mt dr md) (hP : PZ mp) {S x : Nat} (hS : S < 64) (hx : x ≤ 10) {pl sp : Nat → Int32} {be mI : Int32} {m t : Nat} (ht : t < 6) (hm : mI.toNatClampNeg = m) (hM : MI mt mp pl sp) (eS : fX2_standing sp = nI S) : ∀ (n h a b : Nat) (pl1 sp1 : Nat → Int32) (be1 ti1 : Int32) (so : Nat → Int32), h + n = 64 → a ≤ b → RM pl sp be ti so 0 → ∃ a', a' ≤ wsum S x n h b ∧ (lX0_findOdds_31 (nI S) (nI x) (nI (pc6 S)) dr mp ml pl sp be ti t m n h (nI a) pl1 sp1 be1 ti1).1 = nI a' ∧ (lX9_odds_54 (nI x) mt mp ml md mI (nI t) n (nI a) (nI b) h so).1 = nI a' ∧ (lX9_odds_54 (nI x) mt mp ml md mI (nI t) n (nI a) (nI b) h so).2.1 = nI (wsum S x n h b) ∧ FRM so (lX9_odds_54 (nI x) mt mp ml md mI (nI t) n (nI a) (nI b) h so).2.2 195 := by
  intro n
  induction n with
  | zero => intro h a b pl1 sp1 be1 ti1 so _ hab _; exact ⟨a, hab, rfl, rfl, rfl, frm_refl _ _⟩
  | succ n ih =>
    intro h a b pl1 sp1 be1 ti1 so hn hab hR
    have hh : h < 64 := by omega
    have hs12 : so 12 = nI S := by rw [show (12 : Nat) = 0 + 12 from rfl, hR.2.1]; exact eS
    have hsub : ((nI h) &&& ((nI S) ^^^ (-1))) = 0 ↔ h &&& S = h := w_sub ⟨S, hS⟩ ⟨h, hh⟩
    by_cases c : h &&& S = h
    · have hz := hsub.mpr c
      have hs12' : (fX9_copies so 0 195) 12 = nI S := by rw [try_frm (so := so) 12 (by omega)]; exact hs12
      obtain ⟨k1, k2, k3, k4⟩ := hit_sim (mp := mp) (ti := ti) hmt hS hh c hx (sp0 := sp) (fun u hu q => by rw [(hM.1 u hu).2.2 q]; exact npos_0) eS mt 0 1 _ _ (by omega) (try_rm (pl3 := pl1) (sp3 := sp1) hR) (try_mi (pl3 := pl1) (sp3 := sp1) hM) hs12' (fun u hu => by rw [cpy_at hu])
      have hwt : wprod S h x 6 0 1 = wt S h x := w_pr ⟨S, hS⟩ ⟨h, hh⟩ c ⟨x, by omega⟩
      have hwl : wt S h x ≤ 1000000 := w_le ⟨S, hS⟩ ⟨h, hh⟩ c ⟨x, by omega⟩
      have hpc : pc6 h ≤ pc6 S := (w_in ⟨S, hS⟩ ⟨h, hh⟩ c).1
      have hcn : fJ6_bitCount_0f7a4 (nI h) = nI (pc6 h) := w_cnt ⟨h, hh⟩
      have p6 := pc6_le S
      have e10 : 10 - nI x = nI (10 - x) := by rw [show (10 : Int32) = nI 10 from rfl, nI_subN hx]
      have hw : fX8_power (nI x) (nI (pc6 h)) * fX8_power (nI (10 - x)) (nI (pc6 S) - nI (pc6 h)) = nI (wt S h x) := by
        rw [nI_subN hpc, pow_n (by omega), pow_n (by omega), nI_mulN]; rfl
      rw [show nI 1 = (1 : Int32) from rfl, Nat.sub_zero] at k1
      rw [Nat.sub_zero] at k2
      rw [show nI 1 = (1 : Int32) from rfl] at k3
      rw [show nI 1 = (1 : Int32) from rfl, Nat.sub_zero, hwt] at k4
      obtain ⟨g1, g2, g3⟩ := goN_sim (ml := ml) hmt hd hP m 0 0 _ _ _ _ k1 k2
      have hF := frm_trans (frm_trans try_frm k3) g3
      have hR2 := rm_frm hR hF (by omega)
      have eW : wsum S x (n + 1) h b = wsum S x n (h + 1) (b + wt S h x) := by simp only [wsum, if_pos c]
      have step : ∃ (A : Nat) (P1 P2 : Nat → Int32) (P3 P4 : Int32), A ≤ b + wt S h x ∧ lX0_findOdds_31 (nI S) (nI x) (nI (pc6 S)) dr mp ml pl sp be ti t m (n + 1) h (nI a) pl1 sp1 be1 ti1 = lX0_findOdds_31 (nI S) (nI x) (nI (pc6 S)) dr mp ml pl sp be ti t m n (h + 1) (nI A) P1 P2 P3 P4 ∧ lX9_odds_54 (nI x) mt mp ml md mI (nI t) (n + 1) (nI a) (nI b) h so = lX9_odds_54 (nI x) mt mp ml md mI (nI t) n (nI A) (nI (b + wt S h x)) (h + 1) (lX9_standBehind_2 mp mt ml md m 0 (lX9_odds_90 h (nI x) mt 1 0 (fX9_copies so 0 195)).2) := by
        by_cases c3 : 0 < (lX2_goBy_8 dr ti mp ml m 0 (va_cpy pl pl1 0 0 6) (lX0_standsIfHit_11 (nI h) 6 0 (va_cpy sp sp1 0 0 6)) be).2.1 t
        · have hhas : fX9_has ((lX9_standBehind_2 mp mt ml md m 0 (lX9_odds_90 h (nI x) mt 1 0 (fX9_copies so 0 195)).2) 207) (nI t) = 1 := by
            rw [show (207 : Nat) = 195 + 12 from rfl, g1.2.1]; exact has_1 ht c3
          by_cases c4 : wt S h x = 0
          · refine ⟨a, pl1, sp1, be1, ti1, by omega, ?_, ?_⟩
            · simp only [lX0_findOdds_31, hz, if_true, hcn, e10, hw, if_pos (show nI (wt S h x) ≤ 0 from (nI_lez (by omega)).mpr (by omega))]
            · simp only [lX9_odds_54, hs12, hz, if_true, fX9_standBehind, hm, hhas, if_neg m_10, k4, nI_add]
              rw [c4, Nat.add_zero, Nat.add_zero]
          · refine ⟨a + wt S h x, (lX2_goBy_8 dr ti mp ml m 0 (va_cpy pl pl1 0 0 6) (lX0_standsIfHit_11 (nI h) 6 0 (va_cpy sp sp1 0 0 6)) be).1, (lX2_goBy_8 dr ti mp ml m 0 (va_cpy pl pl1 0 0 6) (lX0_standsIfHit_11 (nI h) 6 0 (va_cpy sp sp1 0 0 6)) be).2.1, (lX2_goBy_8 dr ti mp ml m 0 (va_cpy pl pl1 0 0 6) (lX0_standsIfHit_11 (nI h) 6 0 (va_cpy sp sp1 0 0 6)) be).2.2, ti, by omega, ?_, ?_⟩
            · simp only [lX0_findOdds_31, hz, if_true, hcn, e10, hw, if_neg (show ¬ nI (wt S h x) ≤ 0 from fun q => c4 (by have := (nI_lez (by omega)).mp q; omega)), fX0_standsIfHit, fX2_copy, fX2_goBy, st_1 c3, if_neg m_10, nI_add]
            · simp only [lX9_odds_54, hs12, hz, if_true, fX9_standBehind, hm, hhas, if_neg m_10, k4, nI_add]
        · have hhas : fX9_has ((lX9_standBehind_2 mp mt ml md m 0 (lX9_odds_90 h (nI x) mt 1 0 (fX9_copies so 0 195)).2) 207) (nI t) = 0 := by
            rw [show (207 : Nat) = 195 + 12 from rfl, g1.2.1]; exact has_0 ht c3
          have ea : nI a + 0 = nI a := by rw [← nI_0, nI_add, Nat.add_zero]
          by_cases c4 : wt S h x = 0
          · refine ⟨a, pl1, sp1, be1, ti1, by omega, ?_, ?_⟩
            · simp only [lX0_findOdds_31, hz, if_true, hcn, e10, hw, if_pos (show nI (wt S h x) ≤ 0 from (nI_lez (by omega)).mpr (by omega))]
            · simp only [lX9_odds_54, hs12, hz, if_true, fX9_standBehind, hm, hhas, k4, ea, nI_add]
          · refine ⟨a, (lX2_goBy_8 dr ti mp ml m 0 (va_cpy pl pl1 0 0 6) (lX0_standsIfHit_11 (nI h) 6 0 (va_cpy sp sp1 0 0 6)) be).1, (lX2_goBy_8 dr ti mp ml m 0 (va_cpy pl pl1 0 0 6) (lX0_standsIfHit_11 (nI h) 6 0 (va_cpy sp sp1 0 0 6)) be).2.1, (lX2_goBy_8 dr ti mp ml m 0 (va_cpy pl pl1 0 0 6) (lX0_standsIfHit_11 (nI h) 6 0 (va_cpy sp sp1 0 0 6)) be).2.2, ti, by omega, ?_, ?_⟩
            · simp only [lX0_findOdds_31, hz, if_true, hcn, e10, hw, if_neg (show ¬ nI (wt S h x) ≤ 0 from fun q => c4 (by have := (nI_lez (by omega)).mp q; omega)), fX0_standsIfHit, fX2_copy, fX2_goBy, st_0 c3]
            · simp only [lX9_odds_54, hs12, hz, if_true, fX9_standBehind, hm, hhas, k4, ea, nI_add]
      obtain ⟨A, P1, P2, P3, P4, hA, eC, eM⟩ := step
      rw [eW, eC, eM]
      obtain ⟨a', q1, q2, q3, q4, q5⟩ := ih (h + 1) A (b + wt S h x) P1 P2 P3 P4 _ (by omega) hA hR2
      exact ⟨a', q1, q2, q3, q4, frm_trans hF q5⟩
    · have hz : ¬ ((nI h) &&& ((nI S) ^^^ (-1))) = 0 := fun q => c (hsub.mp q)
      have eW : wsum S x (n + 1) h b = wsum S x n (h + 1) b := by simp only [wsum, if_neg c]
      have eC : lX0_findOdds_31 (nI S) (nI x) (nI (pc6 S)) dr mp ml pl sp be ti t m (n + 1) h (nI a) pl1 sp1 be1 ti1 = lX0_findOdds_31 (nI S) (nI x) (nI (pc6 S)) dr mp ml pl sp be ti t m n (h + 1) (nI a) pl1 sp1 be1 ti1 := by
        simp only [lX0_findOdds_31, if_neg hz]
      have eM : lX9_odds_54 (nI x) mt mp ml md mI (nI t) (n + 1) (nI a) (nI b) h so = lX9_odds_54 (nI x) mt mp ml md mI (nI t) n (nI a) (nI b) (h + 1) so := by
        simp only [lX9_odds_54, hs12, if_neg hz]
      rw [eW, eC, eM]
      exact ih (h + 1) a b pl1 sp1 be1 ti1 so (by omega) hab hR
theorem odds_core (hmt : mt ≤ 6) (hd : DRG mt dr md) (hP : PZ mp) {pl sp so pl3 sp3 : Nat → Int32} {be be3 ti3 : Int32} (hR : RM pl sp be ti so 0) (hM : MI mt mp pl sp) {t v m : Int32} (h1 : ¬ fX8_isTop mt t = 0) (h2 : ¬ fX8_within v 0 10 = 0) : ∃ a K : Nat, K ≤ 6 ∧ a ≤ 10 ^ K ∧ (lX9_odds_54 v mt mp ml md m t 64 0 0 0 so).1 = nI a ∧ (lX9_odds_54 v mt mp ml md m t 64 0 0 0 so).2.1 = nI (10 ^ K) ∧ FRM so (lX9_odds_54 v mt mp ml md m t 64 0 0 0 so).2.2 195 ∧ (fX0_findOdds pl3 sp3 be3 ti3 dr mp ml pl sp be ti t.toNatClampNeg v m.toNatClampNeg).1 = nI (a / Nat.gcd a (10 ^ K)) ∧ (fX0_findOdds pl3 sp3 be3 ti3 dr mp ml pl sp be ti t.toNatClampNeg v m.toNatClampNeg).2.1 = nI (10 ^ K / Nat.gcd a (10 ^ K)) := by
  obtain ⟨t1, t2⟩ := isTop_n hmt h1
  obtain ⟨v1, v2⟩ := within_iff.mp h2
  obtain ⟨x1, x2⟩ := m_nat (n := 10) v1 (by rw [m_le] at v2; exact v2) (by omega)
  obtain ⟨S, hS, eS⟩ := stand_nat sp
  have p6 := pc6_le S
  have hK : fX2_howMany sp = nI (pc6 S) := by simp only [fX2_howMany]; rw [eS]; exact w_cnt ⟨S, hS⟩
  have hall : wsum S v.toNatClampNeg 64 0 0 = 10 ^ pc6 S := w_all ⟨S, hS⟩ ⟨v.toNatClampNeg, by omega⟩
  obtain ⟨a, q1, q2, q3, q4, q5⟩ := odds_loop (ml := ml) hmt hd hP hS x1 (t := t.toNatClampNeg) (by omega) (mI := m) rfl hM eS 64 0 0 0 pl3 sp3 be3 ti3 so (by omega) (by omega) hR
  rw [t2, x2, nI_0] at q3 q4 q5
  rw [x2, nI_0] at q2
  rw [hall] at q1 q4
  have hp : 10 ^ pc6 S ≤ 10 ^ 6 := Nat.pow_le_pow_right (by omega) p6
  have h10 : fX8_power 10 (nI (pc6 S)) = nI (10 ^ pc6 S) := by rw [show (10 : Int32) = nI 10 from rfl, pow_n (by omega)]
  have ed : lX0_findOdds_120 (pc6 S) 0 (nI a) (nI (10 ^ pc6 S)) = (nI (a / Nat.gcd a (10 ^ pc6 S)), nI (10 ^ pc6 S / Nat.gcd a (10 ^ pc6 S))) := by
    rw [od120 _ _ _ _ (by omega) (by omega), dvN_gcd _ _ _ (tf_10 (pc6 S) a)]
  refine ⟨a, pc6 S, p6, q1, q3, q4, q5, ?_, ?_⟩
  · simp only [fX0_findOdds, hK, eS, h10, q2, nI_clamp (show pc6 S < 2 ^ 31 by omega), ed]
  · simp only [fX0_findOdds, hK, eS, h10, q2, nI_clamp (show pc6 S < 2 ^ 31 by omega), ed]
theorem odds_pre (hmt : mt ≤ 6) (hd : DRG mt dr md) (hP : PZ mp) {pl sp so : Nat → Int32} {be : Int32} (hR : RM pl sp be ti so 0) (hM : MI mt mp pl sp) (t v m : Int32) : ¬ fX9_isTop mt t = 0 → ¬ fX9_in v.toInt64 0 10 = 0 → ¬ fX9_in m.toInt64 0 60 = 0 → (∃ j, j < 1000001 ∧ (lX9_odds_54 v mt mp ml md m t 64 0 0 0 so).1 = nI j) ∧ (∃ j, j < 1000001 ∧ (lX9_odds_54 v mt mp ml md m t 64 0 0 0 so).2.1 = nI j) ∧ ¬ ((lX9_odds_54 v mt mp ml md m t 64 0 0 0 so).2.1).toNatClampNeg = 0 := by
  intro h1 h2 _
  rw [isTop_eq] at h1
  rw [in_lit (lo := 0) (hi := 10) (by decide) (by decide)] at h2
  obtain ⟨a, K, hK, ha, q3, q4, _, _, _⟩ := odds_core (ml := ml) (pl3 := pl) (sp3 := sp) (be3 := be) (ti3 := be) (m := m) hmt hd hP hR hM h1 h2
  have hp : 10 ^ K ≤ 10 ^ 6 := Nat.pow_le_pow_right (by omega) hK
  have h0 : 0 < 10 ^ K := Nat.pow_pos (by omega)
  refine ⟨⟨a, by omega, q3⟩, ⟨10 ^ K, by omega, q4⟩, ?_⟩
  rw [q4, nI_clamp (by omega)]; omega
theorem odds_sim (hmt : mt ≤ 6) (hd : DRG mt dr md) (hP : PZ mp) {pl sp so pl3 sp3 : Nat → Int32} {be be3 ti3 ou ol : Int32} (hR : RM pl sp be ti so 0) (hM : MI mt mp pl sp) (t v m w : Int32) : (fX8_odds dr mp ml mt pl sp be ti ou ol pl3 sp3 be3 ti3 t v m w).1 = (fX9_odds mp mt ml md so t v m w).1 ∧ FRM so (fX9_odds mp mt ml md so t v m w).2 195 := by
  have i1 := isTop_eq mt t
  have i2 : fX9_in v.toInt64 0 10 = fX8_within v 0 10 := in_lit (by decide) (by decide)
  have i3 : fX9_in m.toInt64 0 60 = fX8_isAhead m := in_lit (by decide) (by decide)
  have i4 : fX9_in w.toInt64 0 1 = fX8_within w 0 1 := in_lit (by decide) (by decide)
  by_cases h1 : fX8_isTop mt t = 0
  · simp only [fX8_odds, fX9_odds, i1, h1, if_true]; exact ⟨trivial, frm_refl _ _⟩
  by_cases h2 : fX8_within v 0 10 = 0
  · simp only [fX8_odds, fX9_odds, i1, i2, if_neg h1, h2, if_true]; exact ⟨trivial, frm_refl _ _⟩
  by_cases h3 : fX8_isAhead m = 0
  · simp only [fX8_odds, fX9_odds, i1, i2, i3, if_neg h1, if_neg h2, h3, if_true]; exact ⟨trivial, frm_refl _ _⟩
  by_cases h4 : fX8_within w 0 1 = 0
  · simp only [fX8_odds, fX9_odds, i1, i2, i3, i4, if_neg h1, if_neg h2, if_neg h3, h4, if_true]; exact ⟨trivial, frm_refl _ _⟩
  obtain ⟨a, K, hK, ha, q3, q4, q5, q6, q7⟩ := odds_core (ml := ml) (pl3 := pl3) (sp3 := sp3) (be3 := be3) (ti3 := ti3) (m := m) hmt hd hP hR hM h1 h2
  have hp : 10 ^ K ≤ 10 ^ 6 := Nat.pow_le_pow_right (by omega) hK
  have eg : lX9_odds_205 (10 ^ K + 1) a (10 ^ K) = Nat.gcd a (10 ^ K) := od205 _ _ _ (by omega)
  by_cases hw : w = 0
  · simp only [fX8_odds, fX9_odds, i1, i2, i3, i4, if_neg h1, if_neg h2, if_neg h3, if_neg h4, if_pos hw, q6, q3, q4, nI_clamp (show a < 2 ^ 31 by omega), nI_clamp (show 10 ^ K < 2 ^ 31 by omega), eg]
    exact ⟨trivial, q5⟩
  · simp only [fX8_odds, fX9_odds, i1, i2, i3, i4, if_neg h1, if_neg h2, if_neg h3, if_neg h4, if_neg hw, q7, q3, q4, nI_clamp (show a < 2 ^ 31 by omega), nI_clamp (show 10 ^ K < 2 ^ 31 by omega), eg]
    exact ⟨trivial, q5⟩
end
theorem c_odds {le : Nat → Int32} {ln : Nat} {dr : Nat → Int32} {pz : Int32} {sl : Int32} {tp : Nat} {pl : Nat → Int32} {sp : Nat → Int32} {be : Int32} {ti : Int32} {PLP : Nat → Nat → Int32} {SPP : Nat → Nat → Int32} {BEP : Nat → Int32} {TIP : Nat → Int32} {nxP : Nat} {knP : Nat} {plI : Nat → Int32} {spI : Nat → Int32} {beI : Int32} {tiI : Int32} {plJ : Nat → Int32} {spJ : Nat → Int32} {beJ : Int32} {tiJ : Int32} {ke : Nat → Int32} {fiE : Nat → Int32} {btE : Nat → Int32} {suE : Nat → Int32} {knE : Nat} {tr : Int64} {mp : Int32} {mt : Nat} {ml : Int32} {md : Nat → Int32} {so : Nat → Int32} {ac : Nat} {mk : Nat → Int32} {mn : Nat} {mx : Nat → Int32} {sn : Nat} {sF : Nat → Int32} {sB : Nat → Int32} {sS : Nat → Int32} {mm : Int64} (h : INV le ln dr pz sl tp pl sp be ti PLP SPP BEP TIP nxP knP plI spI beI tiI plJ spJ beJ tiJ ke fiE btE suE knE tr mp mt ml md so ac mk mn mx sn sF sB sS mm) (ou : Int32) (ol : Int32) (pl3 : Nat → Int32) (sp3 : Nat → Int32) (be3 : Int32) (ti3 : Int32) (t : Int32) (v : Int32) (m : Int32) (w : Int32) : (fX8_odds dr pz sl tp pl sp be ti ou ol pl3 sp3 be3 ti3 t v m w).1 = (fX9_odds mp mt ml md so t v m w).1 ∧ INV le ln dr pz sl tp pl sp be ti PLP SPP BEP TIP nxP knP plI spI beI tiI plJ spJ beJ tiJ ke fiE btE suE knE tr mp mt ml md ((fX9_odds mp mt ml md so t v m w).2) ac mk mn mx sn sF sB sS mm := by
  obtain ⟨h1, ⟨rfl, rfl, rfl, hmt, hP, hd⟩, h3, ⟨rfl, h4⟩, h5, h6, ⟨rfl, h7, h8⟩, rfl⟩ := h
  obtain ⟨e1, hf⟩ := odds_sim (pl3 := pl3) (sp3 := sp3) (be3 := be3) (ti3 := ti3) (ou := ou) (ol := ol) hmt hd hP h3.1 h3.2.1 t v m w
  exact ⟨e1, h1, ⟨rfl, rfl, rfl, hmt, hP, hd⟩, mom_frm h3 hf (by omega), ⟨rfl, pas_frm h4 hf (by omega)⟩, img_frm h5 hf (by omega), img_frm h6 hf (by omega), ⟨rfl, h7, h8⟩, rfl⟩
