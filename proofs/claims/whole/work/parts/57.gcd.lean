theorem od205 : ∀ n a b, b < n → lX9_odds_205 n a b = Nat.gcd a b := by
  intro n
  induction n with
  | zero => intro a b h; omega
  | succ n ih =>
    intro a b h
    by_cases c : b = 0
    · subst c; simp only [lX9_odds_205, if_true, Nat.gcd_zero_right]
    · simp only [lX9_odds_205, if_neg c]
      rw [ih b (a % b) (Nat.lt_of_lt_of_le (Nat.mod_lt _ (by omega)) (by omega)), Nat.gcd_comm b, Nat.gcd_comm a]
      exact (Nat.gcd_rec b a).symm
def dv2 (u l : Nat) : Nat × Nat := if u % 2 = 0 ∧ l % 2 = 0 then (u / 2, l / 2) else (u, l)
def dv5 (u l : Nat) : Nat × Nat := if u % 5 = 0 ∧ l % 5 = 0 then (u / 5, l / 5) else (u, l)
def dvN : Nat → Nat → Nat → Nat × Nat
  | 0, u, l => (u, l)
  | n + 1, u, l => dvN n (dv5 (dv2 u l).1 (dv2 u l).2).1 (dv5 (dv2 u l).1 (dv2 u l).2).2
theorem nI_mulN (a b : Nat) : nI a * nI b = nI (a * b) := (Int32.ofNat_mul a b).symm
theorem nI_subN {a b : Nat} (h : b ≤ a) : nI a - nI b = nI (a - b) := by
  have e : nI (a - b) + nI b = nI a := by rw [nI_add]; congr 1; omega
  rw [← e, Int32.add_sub_cancel]
theorem nI_divN {a b : Nat} (ha : a < 2 ^ 31) (hb : b < 2 ^ 31) : nI a / nI b = nI (a / b) := by
  rw [m_eq, Int32.toInt_div_of_ne_left]
  · rw [nI_toInt ha, nI_toInt hb, nI_toInt (Nat.lt_of_le_of_lt (Nat.div_le_self _ _) ha)]; rfl
  · intro c
    have h1 := nI_toInt ha
    rw [c] at h1
    have h2 : (Int32.minValue).toInt = -2147483648 := by decide
    omega
theorem dv2_c {u l : Nat} (hu : u < 2 ^ 31) (hl : l < 2 ^ 31) : fX0_divideOddsBy2 (nI u) (nI l) = (nI (dv2 u l).1, nI (dv2 u l).2) := by
  have e : ∀ {x : Nat}, x < 2 ^ 31 → (nI x - nI x / 2 * 2 = 0 ↔ x % 2 = 0) := by
    intro x hx
    rw [show (2 : Int32) = nI 2 from rfl, nI_divN hx (by omega), nI_mulN, nI_subN (by omega), nI_z (by omega)]
    omega
  have d : ∀ {x : Nat}, x < 2 ^ 31 → nI x / 2 = nI (x / 2) := fun hx => by rw [show (2 : Int32) = nI 2 from rfl, nI_divN hx (by omega)]
  by_cases c1 : u % 2 = 0
  · by_cases c2 : l % 2 = 0
    · simp only [fX0_divideOddsBy2, if_pos ((e hu).mpr c1), if_pos ((e hl).mpr c2), dv2, if_pos (And.intro c1 c2)]
      rw [d hu, d hl]
    · simp only [fX0_divideOddsBy2, if_pos ((e hu).mpr c1), if_neg (fun q => c2 ((e hl).mp q)), dv2, if_neg (fun q : u % 2 = 0 ∧ l % 2 = 0 => c2 q.2)]
  · simp only [fX0_divideOddsBy2, if_neg (fun q => c1 ((e hu).mp q)), dv2, if_neg (fun q : u % 2 = 0 ∧ l % 2 = 0 => c1 q.1)]
theorem dv5_c {u l : Nat} (hu : u < 2 ^ 31) (hl : l < 2 ^ 31) : fX0_divideOddsBy5 (nI u) (nI l) = (nI (dv5 u l).1, nI (dv5 u l).2) := by
  have e : ∀ {x : Nat}, x < 2 ^ 31 → (nI x - nI x / 5 * 5 = 0 ↔ x % 5 = 0) := by
    intro x hx
    rw [show (5 : Int32) = nI 5 from rfl, nI_divN hx (by omega), nI_mulN, nI_subN (by omega), nI_z (by omega)]
    omega
  have d : ∀ {x : Nat}, x < 2 ^ 31 → nI x / 5 = nI (x / 5) := fun hx => by rw [show (5 : Int32) = nI 5 from rfl, nI_divN hx (by omega)]
  by_cases c1 : u % 5 = 0
  · by_cases c2 : l % 5 = 0
    · simp only [fX0_divideOddsBy5, if_pos ((e hu).mpr c1), if_pos ((e hl).mpr c2), dv5, if_pos (And.intro c1 c2)]
      rw [d hu, d hl]
    · simp only [fX0_divideOddsBy5, if_pos ((e hu).mpr c1), if_neg (fun q => c2 ((e hl).mp q)), dv5, if_neg (fun q : u % 5 = 0 ∧ l % 5 = 0 => c2 q.2)]
  · simp only [fX0_divideOddsBy5, if_neg (fun q => c1 ((e hu).mp q)), dv5, if_neg (fun q : u % 5 = 0 ∧ l % 5 = 0 => c1 q.1)]
theorem dv2_le {u l : Nat} : (dv2 u l).1 ≤ u ∧ (dv2 u l).2 ≤ l := by
  simp only [dv2]; split
  · exact ⟨Nat.div_le_self _ _, Nat.div_le_self _ _⟩
  · exact ⟨Nat.le_refl _, Nat.le_refl _⟩
theorem dv5_le {u l : Nat} : (dv5 u l).1 ≤ u ∧ (dv5 u l).2 ≤ l := by
  simp only [dv5]; split
  · exact ⟨Nat.div_le_self _ _, Nat.div_le_self _ _⟩
  · exact ⟨Nat.le_refl _, Nat.le_refl _⟩
theorem od120 : ∀ n i u l, u < 2 ^ 31 → l < 2 ^ 31 → lX0_findOdds_120 n i (nI u) (nI l) = (nI (dvN n u l).1, nI (dvN n u l).2) := by
  intro n
  induction n with
  | zero => intro i u l _ _; rfl
  | succ n ih =>
    intro i u l hu hl
    have h2 := dv2_le (u := u) (l := l)
    have h5 := dv5_le (u := (dv2 u l).1) (l := (dv2 u l).2)
    simp only [lX0_findOdds_120, dv2_c hu hl, dv5_c (show (dv2 u l).1 < 2 ^ 31 by omega) (show (dv2 u l).2 < 2 ^ 31 by omega), dvN]
    exact ih _ _ _ (by omega) (by omega)
/-- what is left: 2 and 5 alone -/
def TF (n u l : Nat) : Prop := ∃ a b, l = 2 ^ a * 5 ^ b ∧ (a ≤ n ∨ u % 2 = 1) ∧ (b ≤ n ∨ u % 5 ≠ 0)
theorem tf_0 {u l : Nat} (h : TF 0 u l) : Nat.gcd u l = 1 := by
  obtain ⟨a, b, e, ha, hb⟩ := h
  subst e
  have h2 : Nat.Coprime u (2 ^ a) := by
    rcases ha with c | c
    · rw [show a = 0 from by omega, Nat.pow_zero]; exact Nat.gcd_one_right u
    · refine Nat.Coprime.pow_right a ?_
      show Nat.gcd u 2 = 1
      rw [Nat.gcd_comm, Nat.gcd_rec, c]; decide
  have h5 : Nat.Coprime u (5 ^ b) := by
    rcases hb with c | c
    · rw [show b = 0 from by omega, Nat.pow_zero]; exact Nat.gcd_one_right u
    · refine Nat.Coprime.pow_right b ?_
      show Nat.gcd u 5 = 1
      rw [Nat.gcd_comm, Nat.gcd_rec]
      have : u % 5 = 1 ∨ u % 5 = 2 ∨ u % 5 = 3 ∨ u % 5 = 4 := by omega
      rcases this with c | c | c | c <;> (rw [c]; decide)
  exact Nat.Coprime.mul_right h2 h5
theorem gcd_d {p u l : Nat} (hp : 0 < p) (h1 : u % p = 0) (h2 : l % p = 0) : u / Nat.gcd u l = (u / p) / Nat.gcd (u / p) (l / p) ∧ l / Nat.gcd u l = (l / p) / Nat.gcd (u / p) (l / p) := by
  have eu : u = p * (u / p) := (Nat.mul_div_cancel' (Nat.dvd_of_mod_eq_zero h1)).symm
  have el : l = p * (l / p) := (Nat.mul_div_cancel' (Nat.dvd_of_mod_eq_zero h2)).symm
  have eg : Nat.gcd u l = p * Nat.gcd (u / p) (l / p) := by
    rw [← Nat.gcd_mul_left, ← eu, ← el]
  rw [eg, ← Nat.div_div_eq_div_mul, ← Nat.div_div_eq_div_mul]
  exact ⟨rfl, rfl⟩
theorem tf_2 {n u l : Nat} (h : TF (n + 1) u l) : (∃ a b, (dv2 u l).2 = 2 ^ a * 5 ^ b ∧ (a ≤ n ∨ (dv2 u l).1 % 2 = 1) ∧ (b ≤ n + 1 ∨ (dv2 u l).1 % 5 ≠ 0)) ∧ (u / Nat.gcd u l = (dv2 u l).1 / Nat.gcd (dv2 u l).1 (dv2 u l).2 ∧ l / Nat.gcd u l = (dv2 u l).2 / Nat.gcd (dv2 u l).1 (dv2 u l).2) := by
  obtain ⟨a, b, e, ha, hb⟩ := h
  have p5 : (5 ^ b) % 2 = 1 := by rw [Nat.pow_mod]; simp
  by_cases c : u % 2 = 0 ∧ l % 2 = 0
  · have ha1 : 1 ≤ a := by
      refine Decidable.byContradiction (fun q => ?_)
      have : a = 0 := by omega
      rw [e, this, Nat.pow_zero, Nat.one_mul, p5] at c; omega
    have el : l / 2 = 2 ^ (a - 1) * 5 ^ b := by
      rw [e, show a = (a - 1) + 1 from by omega, Nat.pow_succ, Nat.mul_comm (2 ^ (a - 1)) 2, Nat.mul_assoc, Nat.mul_div_cancel_left _ (by omega)]; rfl
    simp only [dv2, if_pos c]
    refine ⟨⟨a - 1, b, el, ?_, ?_⟩, gcd_d (by omega) c.1 c.2⟩
    · rcases ha with q | q
      · exact Or.inl (by omega)
      · omega
    · rcases hb with q | q
      · exact Or.inl q
      · exact Or.inr (by omega)
  · simp only [dv2, if_neg c]
    refine ⟨⟨a, b, e, ?_, hb⟩, trivial, trivial⟩
    by_cases q : u % 2 = 1
    · exact Or.inr q
    · refine Or.inl ?_
      refine Decidable.byContradiction (fun q2 => c ⟨by omega, ?_⟩)
      rw [e, show a = (a - 1) + 1 from by omega, Nat.pow_succ, Nat.mul_comm (2 ^ (a - 1)) 2, Nat.mul_assoc]
      exact Nat.mul_mod_right _ _
theorem tf_5 {n u l : Nat} (h : ∃ a b, l = 2 ^ a * 5 ^ b ∧ (a ≤ n ∨ u % 2 = 1) ∧ (b ≤ n + 1 ∨ u % 5 ≠ 0)) : TF n (dv5 u l).1 (dv5 u l).2 ∧ (u / Nat.gcd u l = (dv5 u l).1 / Nat.gcd (dv5 u l).1 (dv5 u l).2 ∧ l / Nat.gcd u l = (dv5 u l).2 / Nat.gcd (dv5 u l).1 (dv5 u l).2) := by
  obtain ⟨a, b, e, ha, hb⟩ := h
  by_cases c : u % 5 = 0 ∧ l % 5 = 0
  · have hb1 : 1 ≤ b := by
      refine Decidable.byContradiction (fun q => ?_)
      have : b = 0 := by omega
      have hd : 5 ∣ 2 ^ a := by
        have := Nat.dvd_of_mod_eq_zero c.2
        rw [e, ‹b = 0›, Nat.pow_zero, Nat.mul_one] at this; exact this
      have hc : Nat.Coprime 5 (2 ^ a) := Nat.Coprime.pow_right a (by decide)
      have := Nat.Coprime.eq_one_of_dvd hc hd
      omega
    have el : l / 5 = 2 ^ a * 5 ^ (b - 1) := by
      rw [e, show b = (b - 1) + 1 from by omega, Nat.pow_succ, ← Nat.mul_assoc, Nat.mul_div_cancel _ (by omega)]; rfl
    simp only [dv5, if_pos c]
    refine ⟨⟨a, b - 1, el, ?_, ?_⟩, gcd_d (by omega) c.1 c.2⟩
    · rcases ha with q | q
      · exact Or.inl q
      · exact Or.inr (by omega)
    · rcases hb with q | q
      · exact Or.inl (by omega)
      · omega
  · simp only [dv5, if_neg c]
    refine ⟨⟨a, b, e, ha, ?_⟩, trivial, trivial⟩
    by_cases q : u % 5 = 0
    · refine Or.inl ?_
      refine Decidable.byContradiction (fun q2 => c ⟨q, ?_⟩)
      rw [e, show b = (b - 1) + 1 from by omega, Nat.pow_succ, ← Nat.mul_assoc]
      exact Nat.mul_mod_left _ _
    · exact Or.inr q
theorem dvN_gcd : ∀ n u l, TF n u l → dvN n u l = (u / Nat.gcd u l, l / Nat.gcd u l) := by
  intro n
  induction n with
  | zero => intro u l h; rw [tf_0 h, Nat.div_one, Nat.div_one]; rfl
  | succ n ih =>
    intro u l h
    obtain ⟨a1, a2, a3⟩ := tf_2 h
    obtain ⟨b1, b2, b3⟩ := tf_5 a1
    simp only [dvN]
    rw [ih _ _ b1, a2, a3, b2, b3]
theorem tf_10 (n u : Nat) : TF n u (10 ^ n) := ⟨n, n, by rw [← Nat.mul_pow], Or.inl (Nat.le_refl _), Or.inl (Nat.le_refl _)⟩
