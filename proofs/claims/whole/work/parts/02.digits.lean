/-! the row of heights as an octal number: digits, landings -/
def sw_d (n P i : Nat) : Nat := P / 8 ^ (n - 1 - i) % 8
def sw_l (n P i : Nat) : Nat := (i + sw_d n P i) % n
def sw_J (n P : Nat) : Prop := ∀ j, j < n → ∀ i, i < j → ¬ sw_l n P i = sw_l n P j
def sw_S (n P : Nat) : Nat → Nat
  | 0 => 0
  | k + 1 => sw_S n P k + sw_d n P k
theorem sw_d_lt (n P i : Nat) : sw_d n P i < 8 := Nat.mod_lt _ (by decide)
theorem sw_l_lt {n : Nat} (P i : Nat) (h : 0 < n) : sw_l n P i < n := Nat.mod_lt _ h
theorem sw_S_le (n P : Nat) : ∀ k, sw_S n P k ≤ 7 * k
  | 0 => Nat.le_refl _
  | k + 1 => by
    have h1 := sw_S_le n P k
    have h2 := sw_d_lt n P k
    show sw_S n P k + sw_d n P k ≤ _
    omega
theorem sw_d_last {n A h : Nat} (hh : h < 8) : sw_d (n + 1) (A * 8 + h) n = h := by
  unfold sw_d
  rw [show n + 1 - 1 - n = 0 by omega, Nat.pow_zero, Nat.div_one]
  omega
theorem sw_d_pre {n A h i : Nat} (hh : h < 8) (hi : i < n) : sw_d (n + 1) (A * 8 + h) i = sw_d n A i := by
  unfold sw_d
  rw [show n + 1 - 1 - i = (n - 1 - i) + 1 by omega, Nat.pow_succ, Nat.mul_comm (8 ^ (n - 1 - i)) 8, ← Nat.div_div_eq_div_mul, show (A * 8 + h) / 8 = A by omega]
theorem sw_d_up {n i j Q : Nat} (hi : i ≤ n) (hj : j < i) : sw_d n Q j = sw_d i (Q / 8 ^ (n - i)) j := by
  unfold sw_d
  rw [Nat.div_div_eq_div_mul, ← Nat.pow_add, show n - i + (i - 1 - j) = n - 1 - j by omega]
theorem sw_split {P : Nat} : P = P / 8 * 8 + P % 8 := by omega
theorem sw_ext : ∀ (n P Q : Nat), P < 8 ^ n → Q < 8 ^ n → (∀ i, i < n → sw_d n P i = sw_d n Q i) → P = Q
  | 0, P, Q, hP, hQ, _ => by
    rw [Nat.pow_zero] at hP hQ
    omega
  | n + 1, P, Q, hP, hQ, h => by
    rw [Nat.pow_succ] at hP hQ
    have e1 : P % 8 = Q % 8 := by
      have z := h n (by omega)
      rw [@sw_split P, @sw_split Q, sw_d_last (by omega), sw_d_last (by omega)] at z
      exact z
    have e2 : P / 8 = Q / 8 := by
      refine sw_ext n (P / 8) (Q / 8) (by omega) (by omega) (fun i hi => ?_)
      have z := h i (by omega)
      rw [@sw_split P, @sw_split Q, sw_d_pre (by omega) hi, sw_d_pre (by omega) hi] at z
      exact z
    omega
theorem sw_8 (e : Nat) : 8 ^ e = 2 ^ (3 * e) := by rw [Nat.pow_mul]
theorem sw_8le {n : Nat} (h : n ≤ 5) : 8 ^ n ≤ 32768 := Nat.pow_le_pow_right (n := 8) (by decide) h
/-- bit b of digit i -/
theorem sw_d_bit (n P i b : Nat) : (sw_d n P i).testBit b = (decide (b < 3) && P.testBit (b + 3 * (n - 1 - i))) := by
  unfold sw_d
  rw [show (8 : Nat) = 2 ^ 3 by decide, Nat.testBit_mod_two_pow, ← Nat.pow_mul, Nat.testBit_div_two_pow]
/-! one digit put anew -/
def sw_w (n P i h : Nat) : Nat := (P &&& (7 * 2 ^ (3 * (n - 1 - i)) ^^^ 4294967295)) ||| h * 2 ^ (3 * (n - 1 - i))
theorem sw_7 (b : Nat) : Nat.testBit 7 b = decide (b < 3) := Nat.testBit_two_pow_sub_one 3 b
theorem sw_ff (b : Nat) : Nat.testBit 4294967295 b = decide (b < 32) := Nat.testBit_two_pow_sub_one 32 b
theorem sw_h3 {h b : Nat} (hh : h < 8) (hb : 3 ≤ b) : h.testBit b = false :=
  Nat.testBit_lt_two_pow (Nat.lt_of_lt_of_le hh (Nat.pow_le_pow_right (n := 2) (by decide) hb))
theorem sw_w_bit {n P i h : Nat} (b : Nat) : (sw_w n P i h).testBit b = ((P.testBit b && ((decide (3 * (n - 1 - i) ≤ b) && decide (b - 3 * (n - 1 - i) < 3)) ^^ decide (b < 32))) || (decide (3 * (n - 1 - i) ≤ b) && h.testBit (b - 3 * (n - 1 - i)))) := by
  unfold sw_w
  rw [Nat.testBit_or, Nat.testBit_and, Nat.testBit_xor, Nat.testBit_mul_two_pow, Nat.testBit_mul_two_pow, sw_7, sw_ff]
theorem sw_w_lt {n P i h : Nat} (hn : n ≤ 5) (hi : i < n) (hP : P < 8 ^ n) (hh : h < 8) : sw_w n P i h < 8 ^ n := by
  rw [sw_8] at hP ⊢
  apply Nat.lt_pow_two_of_testBit
  intro b hb
  have e1 : P.testBit b = false := Nat.testBit_lt_two_pow (Nat.lt_of_lt_of_le hP (Nat.pow_le_pow_right (n := 2) (by decide) hb))
  have e2 : h.testBit (b - 3 * (n - 1 - i)) = false := sw_h3 hh (by omega)
  rw [sw_w_bit, e1, e2]
  simp
theorem sw_w_d {n P i h : Nat} (hn : n ≤ 5) (hi : i < n) (hh : h < 8) : sw_d n (sw_w n P i h) i = h := by
  apply Nat.eq_of_testBit_eq
  intro b
  rw [sw_d_bit, sw_w_bit]
  by_cases hb : b < 3
  · rw [decide_eq_true hb, decide_eq_true (show 3 * (n - 1 - i) ≤ b + 3 * (n - 1 - i) by omega), Nat.add_sub_cancel, decide_eq_true hb, decide_eq_true (show b + 3 * (n - 1 - i) < 32 by omega)]
    simp
  · rw [decide_eq_false hb, Bool.false_and]
    exact (sw_h3 hh (by omega)).symm
theorem sw_w_n {n P i j h : Nat} (hn : n ≤ 5) (hi : i < n) (hj : j < n) (hh : h < 8) (hij : j ≠ i) : sw_d n (sw_w n P i h) j = sw_d n P j := by
  apply Nat.eq_of_testBit_eq
  intro b
  rw [sw_d_bit, sw_d_bit, sw_w_bit]
  by_cases hb : b < 3
  · rw [decide_eq_true (show b + 3 * (n - 1 - j) < 32 by omega)]
    by_cases hs : 3 * (n - 1 - i) ≤ b + 3 * (n - 1 - j)
    · have h3 : 3 ≤ b + 3 * (n - 1 - j) - 3 * (n - 1 - i) := by omega
      rw [decide_eq_false (show ¬ b + 3 * (n - 1 - j) - 3 * (n - 1 - i) < 3 by omega), sw_h3 hh h3]
      simp
    · rw [decide_eq_false hs]
      simp
  · rw [decide_eq_false hb]
    simp
/-! the row turned by one -/
theorem sw_t_lt {n P : Nat} (hn : n ≤ 5) (h1 : 0 < n) (hP : P < 8 ^ n) : sw_w n P 0 0 < 8 ^ (n - 1) := by
  have a := sw_w_d (P := P) (h := 0) hn h1 (by decide)
  have b := sw_w_lt (i := 0) (h := 0) hn h1 hP (by decide)
  obtain ⟨m, rfl⟩ : ∃ m, n = m + 1 := ⟨n - 1, by omega⟩
  unfold sw_d at a
  rw [show m + 1 - 1 - 0 = m by omega] at a
  rw [show m + 1 - 1 = m by omega]
  rw [Nat.pow_succ] at b
  have c : sw_w (m + 1) P 0 0 / 8 ^ m < 8 := Nat.div_lt_of_lt_mul b
  have d : sw_w (m + 1) P 0 0 / 8 ^ m = 0 := by
    generalize sw_w (m + 1) P 0 0 / 8 ^ m = y at a c
    omega
  exact Nat.lt_of_div_eq_zero (Nat.pow_pos (by decide)) d
theorem sw_t_d {n P h i : Nat} (hn : n ≤ 5) (hh : h < 8) (hi : i + 1 < n) : sw_d n (sw_w n P 0 0 * 8 + h) i = sw_d n P (i + 1) := by
  rw [← sw_w_n (h := 0) (i := 0) (P := P) hn (by omega) hi (by decide) (by omega)]
  obtain ⟨m, rfl⟩ : ∃ m, n = m + 1 := ⟨n - 1, by omega⟩
  rw [sw_d_pre hh (by omega)]
  unfold sw_d
  rw [show m + 1 - 1 - (i + 1) = m - 1 - i by omega]
theorem sw_t_l {n P h : Nat} (h1 : 0 < n) (hh : h < 8) : sw_d n (P * 8 + h) (n - 1) = h := by
  obtain ⟨m, rfl⟩ : ∃ m, n = m + 1 := ⟨n - 1, by omega⟩
  exact sw_d_last hh
