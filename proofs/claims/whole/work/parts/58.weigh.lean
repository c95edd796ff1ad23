def pc6 (h : Nat) : Nat := h % 2 + h / 2 % 2 + h / 4 % 2 + h / 8 % 2 + h / 16 % 2 + h / 32 % 2
def wprod (S h x : Nat) : Nat → Nat → Nat → Nat
  | 0, _, a => a
  | n + 1, q, a => wprod S h x n (q + 1) (if S / 2 ^ q % 2 = 1 then (if h / 2 ^ q % 2 = 1 then a * x else a * (10 - x)) else a)
def wt (S h x : Nat) : Nat := x ^ pc6 h * (10 - x) ^ (pc6 S - pc6 h)
def wsum (S x : Nat) : Nat → Nat → Nat → Nat
  | 0, _, a => a
  | n + 1, h, a => wsum S x n (h + 1) (if h &&& S = h then a + wt S h x else a)
theorem w_bit : ∀ h : Fin 64, ∀ q : Fin 6, ((nI h.1 >>> ((nI q.1) &&& 31)) &&& 1) = if h.1 / 2 ^ q.1 % 2 = 1 then 1 else 0 := by decide +kernel
theorem w_sub : ∀ S h : Fin 64, (((nI h.1) &&& ((nI S.1) ^^^ (-1))) = 0 ↔ h.1 &&& S.1 = h.1) := by decide +kernel
theorem w_cnt : ∀ h : Fin 64, fJ6_bitCount_0f7a4 (nI h.1) = nI (pc6 h.1) := by decide +kernel
theorem w_in : ∀ S h : Fin 64, h.1 &&& S.1 = h.1 → pc6 h.1 ≤ pc6 S.1 ∧ (∀ q : Fin 6, h.1 / 2 ^ q.1 % 2 = 1 → S.1 / 2 ^ q.1 % 2 = 1) := by decide +kernel
theorem w_pr : ∀ S h : Fin 64, h.1 &&& S.1 = h.1 → ∀ x : Fin 11, wprod S.1 h.1 x.1 6 0 1 = wt S.1 h.1 x.1 := by decide +kernel
theorem w_all : ∀ S : Fin 64, ∀ x : Fin 11, wsum S.1 x.1 64 0 0 = 10 ^ pc6 S.1 := by decide +kernel
theorem pc6_le (h : Nat) : pc6 h ≤ 6 := by unfold pc6; omega
