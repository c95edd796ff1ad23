theorem within_iff {x lo hi : Int32} : ¬ fX8_within x lo hi = 0 ↔ lo ≤ x ∧ x ≤ hi := by
  simp only [fX8_within]
  by_cases h1 : x < lo
  · rw [if_pos h1]; exact ⟨fun c => absurd rfl c, fun c => absurd c.1 (m_nle.mpr h1)⟩
  · rw [if_neg h1]
    by_cases h2 : hi < x
    · rw [if_pos h2]; exact ⟨fun c => absurd rfl c, fun c => absurd c.2 (m_nle.mpr h2)⟩
    · rw [if_neg h2]; exact ⟨fun _ => ⟨m_nlt.mp h1, m_nlt.mp h2⟩, fun _ => m_10⟩
theorem i64_lt {x y : Int32} : x.toInt64 < y.toInt64 ↔ x < y := by rw [Int64.lt_iff_toInt_lt, Int32.toInt_toInt64, Int32.toInt_toInt64, m_lt]
theorem in_lit {x lo hi : Int32} {LO HI : Int64} (h1 : LO = lo.toInt64) (h2 : HI = hi.toInt64) : fX9_in x.toInt64 LO HI = fX8_within x lo hi := by
  subst h1 h2
  simp only [fX9_in, fX8_within, lg_cmp_lt, lg_cmp_gt, i64_lt]
theorem m_nat {x : Int32} {n : Nat} (h1 : 0 ≤ x) (h2 : x.toInt ≤ n) (hn : n < 1000000000) : x.toNatClampNeg ≤ n ∧ nI x.toNatClampNeg = x := by
  rw [m_le, m_0] at h1
  have e : x = nI x.toInt.toNat := to_nI (by omega) (by omega)
  have := natc (x := x) (B := n + 1) (by omega) ⟨x.toInt.toNat, by omega, e⟩
  exact ⟨by omega, this.2⟩
theorem tiltOf_div : ∀ (k w x : Nat), lX0_tiltOf_8 k w x = w / 3 ^ k := by
  intro k
  induction k with
  | zero => intro w x; simp only [lX0_tiltOf_8, Nat.pow_zero, Nat.div_one]
  | succ k ih => intro w x; simp only [lX0_tiltOf_8, ih]; rw [Nat.div_div_eq_div_mul, Nat.pow_succ, Nat.mul_comm]
theorem row33 : ∀ (k a x : Nat), lX9_row_33 k a x = a * 3 ^ k := by
  intro k
  induction k with
  | zero => intro a x; simp only [lX9_row_33, Nat.pow_zero, Nat.mul_one]
  | succ k ih => intro a x; simp only [lX9_row_33, ih]; rw [Nat.pow_succ, Nat.mul_assoc, Nat.mul_comm 3]
theorem pow3_fin : ∀ m : Fin 6, (fX8_power 3 (nI m.1)).toNatClampNeg = 3 ^ m.1 := by decide +kernel
theorem rm_tilt {pl sp so : Nat → Int32} {be ti v : Int32} (h : RM pl sp be ti so 195) : RM pl sp be v (upd so 209 v) 195 := by
  obtain ⟨h1, h2, h3, h4, h5⟩ := h
  refine ⟨fun t ht => ?_, ?_, ?_, ?_, fun t ht hp => ?_⟩
  · rw [m_un (by omega)]; exact h1 t ht
  · rw [m_un (by omega)]; exact h2
  · rw [m_un (by omega)]; exact h3
  · exact m_us
  · rw [m_un (by omega)]; exact h5 t ht hp
section
variable {dr md : Nat → Int32} {mt : Nat} {mp ml : Int32}
theorem row38 (hmt : mt ≤ 6) (hd : DRG mt dr md) (hP : PZ mp) {row m : Nat} : ∀ (n x6 q : Nat) (pl1 sp1 : Nat → Int32) (be1 ti1 : Int32) (so : Nat → Int32), x6 + n = m → RM pl1 sp1 be1 ti1 so 195 → MI mt mp pl1 sp1 → (RM (lX0_findRow_38 row m dr mp ml n x6 pl1 sp1 be1 ti1).1 (lX0_findRow_38 row m dr mp ml n x6 pl1 sp1 be1 ti1).2.1 (lX0_findRow_38 row m dr mp ml n x6 pl1 sp1 be1 ti1).2.2.1 (lX0_findRow_38 row m dr mp ml n x6 pl1 sp1 be1 ti1).2.2.2 (lX9_row_78 row mp mt ml md n (3 ^ n) q so) 195 ∧ MI mt mp (lX0_findRow_38 row m dr mp ml n x6 pl1 sp1 be1 ti1).1 (lX0_findRow_38 row m dr mp ml n x6 pl1 sp1 be1 ti1).2.1 ∧ FRM so (lX9_row_78 row mp mt ml md n (3 ^ n) q so) 195) := by
  intro n
  induction n with
  | zero => intro x6 q pl1 sp1 be1 ti1 so _ hR hM; exact ⟨hR, hM, frm_refl _ _⟩
  | succ n ih =>
    intro x6 q pl1 sp1 be1 ti1 so hx hR hM
    have e1 : fX0_tiltOf row m x6 = nI (row / 3 ^ n % 3) := by
      simp only [fX0_tiltOf, tiltOf_div]; rw [show m - 1 - x6 = n from by omega]
    have e2 : 3 ^ (n + 1) / 3 = 3 ^ n := by rw [Nat.pow_succ]; exact Nat.mul_div_cancel _ (by omega)
    have hR1 := rm_tilt (v := nI (row / 3 ^ n % 3)) hR
    obtain ⟨s1, s2, s3, _⟩ := beat_sim (ml := ml) hmt hd hP hR1 hM
    obtain ⟨r1, r2, r3⟩ := ih (x6 + 1) (q + 1) _ _ _ _ _ (by omega) s1 s2
    simp only [lX0_findRow_38, lX9_row_78, e1, e2, goBy1a, goBy1b, goBy1c]
    exact ⟨r1, r2, frm_trans (frm_trans (frm_up (by omega) (by omega)) s3) r3⟩
theorem row20 (hmt : mt ≤ 6) (hd : DRG mt dr md) (hP : PZ mp) {pl sp : Nat → Int32} {be ti mI : Int32} {m : Nat} (hm : mI.toNatClampNeg = m) (hM : MI mt mp pl sp) : ∀ (n row : Nat) (rs : Int32) (rb : Nat) (pl1 sp1 : Nat → Int32) (be1 ti1 : Int32) (so : Nat → Int32), RM pl sp be ti so 0 → ((lX0_findRow_20 pl sp be ti m dr mp ml n row rs rb pl1 sp1 be1 ti1).1 = (lX9_row_58 mp mt ml md mI (3 ^ m) n rb rs row so).2.1 ∧ (lX0_findRow_20 pl sp be ti m dr mp ml n row rs rb pl1 sp1 be1 ti1).2.1 = (lX9_row_58 mp mt ml md mI (3 ^ m) n rb rs row so).1 ∧ FRM so (lX9_row_58 mp mt ml md mI (3 ^ m) n rb rs row so).2.2 195) := by
  intro n
  induction n with
  | zero => intro row rs rb pl1 sp1 be1 ti1 so _; exact ⟨rfl, rfl, frm_refl _ _⟩
  | succ n ih =>
    intro row rs rb pl1 sp1 be1 ti1 so hR
    obtain ⟨s1, s2, s3⟩ := row38 (ml := ml) (row := row) (m := m) hmt hd hP m 0 0 _ _ _ _ _ (by omega) (try_rm (pl3 := pl1) (sp3 := sp1) hR) (try_mi (pl3 := pl1) (sp3 := sp1) hM)
    have hF := frm_trans try_frm s3
    have hR2 := rm_frm hR hF (by omega)
    have eb : fX2_howMany (lX0_findRow_38 row m dr mp ml m 0 (va_cpy pl pl1 0 0 6) (va_cpy sp sp1 0 0 6) be ti).2.1 = fX9_bits ((lX9_row_78 row mp mt ml md m (3 ^ m) 0 (fX9_copies so 0 195)) 207) := by
      rw [many_bits, show (207 : Nat) = 195 + 12 from rfl, s1.2.1]
    generalize hr : fX9_bits ((lX9_row_78 row mp mt ml md m (3 ^ m) 0 (fX9_copies so 0 195)) 207) = r at *
    by_cases hle : r ≤ rs
    · simp only [lX0_findRow_20, lX9_row_58, fX2_copy, hm, eb, hr, if_pos hle, fX9_larger]
      obtain ⟨r1, r2, r3⟩ := ih (row + 1) rs rb (lX0_findRow_38 row m dr mp ml m 0 (va_cpy pl pl1 0 0 6) (va_cpy sp sp1 0 0 6) be ti).1 (lX0_findRow_38 row m dr mp ml m 0 (va_cpy pl pl1 0 0 6) (va_cpy sp sp1 0 0 6) be ti).2.1 (lX0_findRow_38 row m dr mp ml m 0 (va_cpy pl pl1 0 0 6) (va_cpy sp sp1 0 0 6) be ti).2.2.1 (lX0_findRow_38 row m dr mp ml m 0 (va_cpy pl pl1 0 0 6) (va_cpy sp sp1 0 0 6) be ti).2.2.2 _ hR2
      exact ⟨r1, r2, frm_trans hF r3⟩
    · simp only [lX0_findRow_20, lX9_row_58, fX2_copy, hm, eb, hr, if_neg hle, fX9_larger]
      obtain ⟨r1, r2, r3⟩ := ih (row + 1) r row (lX0_findRow_38 row m dr mp ml m 0 (va_cpy pl pl1 0 0 6) (va_cpy sp sp1 0 0 6) be ti).1 (lX0_findRow_38 row m dr mp ml m 0 (va_cpy pl pl1 0 0 6) (va_cpy sp sp1 0 0 6) be ti).2.1 (lX0_findRow_38 row m dr mp ml m 0 (va_cpy pl pl1 0 0 6) (va_cpy sp sp1 0 0 6) be ti).2.2.1 (lX0_findRow_38 row m dr mp ml m 0 (va_cpy pl pl1 0 0 6) (va_cpy sp sp1 0 0 6) be ti).2.2.2 _ hR2
      exact ⟨r1, r2, frm_trans hF r3⟩
theorem row167 {k : Nat} (hk : k < 6) : ∀ (n x j : Nat), j < 6 → j - k ≤ n → lX9_row_167 (nI k) n x (nI j) = x / 3 ^ (j - k) := by
  intro n
  induction n with
  | zero => intro x j _ h; rw [show j - k = 0 from by omega]; simp only [lX9_row_167, Nat.pow_zero, Nat.div_one]
  | succ n ih =>
    intro x j hj h
    by_cases c : j ≤ k
    · have : nI j ≤ nI k := (nI_leI (by omega) (by omega)).mpr c
      rw [show j - k = 0 from by omega]
      simp only [lX9_row_167, if_pos this, Nat.pow_zero, Nat.div_one]
    · have h1 : ¬ nI j ≤ nI k := fun q => c ((nI_leI (by omega) (by omega)).mp q)
      have h2 : nI j + (-1) = nI (j - 1) := by
        rw [show (-1 : Int32) = Int32.ofInt (-1) from by decide]; exact dec1 (by omega)
      simp only [lX9_row_167, if_neg h1, if_neg (nI_nn hk), h2]
      rw [ih (x / 3) (j - 1) (by omega) (by omega), Nat.div_div_eq_div_mul]
      rw [show j - k = (j - 1 - k) + 1 from by omega, Nat.pow_succ, Nat.mul_comm]
theorem row_sim (hmt : mt ≤ 6) (hd : DRG mt dr md) (hP : PZ mp) {pl sp so pl3 sp3 : Nat → Int32} {be ti be3 ti3 rs m v : Int32} {rb : Nat} (hR : RM pl sp be ti so 0) (hM : MI mt mp pl sp) : (fX8_row dr mp ml pl sp be ti rs rb pl3 sp3 be3 ti3 m v).1 = (fX9_row mp mt ml md so m v).1 ∧ FRM so (fX9_row mp mt ml md so m v).2 195 := by
  have i1 : fX9_in m.toInt64 0 5 = fX8_within m 0 5 := in_lit (by decide) (by decide)
  have i2 : fX9_in v.toInt64 (-1) 4 = fX8_within v (-1) 4 := in_lit (by decide) (by decide)
  by_cases h1 : fX8_within m 0 5 = 0
  · simp only [fX8_row, fX9_row, i1, h1, if_true]; exact ⟨trivial, frm_refl _ _⟩
  by_cases h2 : fX8_within v (-1) 4 = 0
  · simp only [fX8_row, fX9_row, i1, i2, h1, h2, if_true, if_false]; exact ⟨trivial, frm_refl _ _⟩
  obtain ⟨w1, w2⟩ := within_iff.mp h1
  obtain ⟨w3, w4⟩ := within_iff.mp h2
  obtain ⟨n1, n2⟩ := m_nat (n := 5) w1 (by rw [m_le] at w2; exact w2) (by omega)
  generalize hm : m.toNatClampNeg = k at *
  have hpow := pow3_fin ⟨k, by omega⟩
  simp only at hpow
  have e33 : lX9_row_33 k 1 0 = 3 ^ k := by rw [row33, Nat.one_mul]
  obtain ⟨r1, r2, r3⟩ := row20 (ml := ml) hmt hd hP hm hM (3 ^ k) 0 (-1) 0 pl3 sp3 be3 ti3 so hR
  simp only [fX8_row, fX9_row, i1, i2, if_neg h1, if_neg h2, fX0_findRow, hm, hpow, e33, r1, r2]
  by_cases hv : 0 ≤ v
  · obtain ⟨v1, v2⟩ := m_nat (n := 4) hv (by rw [m_le] at w4; exact w4) (by omega)
    generalize hvk : v.toNatClampNeg = j at *
    by_cases hj : k ≤ j
    · have hlt : ¬ v < nI k := by rw [← v2]; exact nI_nlt hj (by omega)
      simp only [if_pos hv, if_pos hj, if_neg hlt]
      exact ⟨trivial, r3⟩
    · have hlt : v < nI k := by rw [← v2]; exact nI_lt (by omega) (by omega)
      simp only [if_pos hv, if_neg hj, if_pos hlt]
      refine ⟨?_, r3⟩
      have e1 : nI k - 1 = nI (k - 1) := by
        rw [show k = (k - 1) + 1 from by omega, nI_pred]; rfl
      rw [e1, ← v2, row167 (by omega) 7 _ _ (by omega) (by omega)]
      simp only [fX0_tiltOf, tiltOf_div]
  · simp only [if_neg hv]
    exact ⟨trivial, r3⟩
end
