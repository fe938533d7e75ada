section
/-! rows pasted from kit/rows/PURE-ROWS -/
theorem pk_us {f : Nat → Int32} {k : Nat} {x : Int32} : upd f k x k = x := if_pos rfl
theorem pk_un {f : Nat → Int32} {k j : Nat} {x : Int32} (h : j ≠ k) : upd f k x j = f j := if_neg h
theorem pk_sub {a b : Nat} (h : b ≤ a) : nI a - nI b = nI (a - b) := by
  obtain ⟨c, rfl⟩ : ∃ c, a = c + b := ⟨a - b, by omega⟩
  rw [← nI_add, Int32.add_sub_cancel, Nat.add_sub_cancel]
theorem pk_m1 (n : Nat) : nI (n + 1) + (-1) = nI n := by
  rw [← nI_1, Int32.add_assoc, show (1 : Int32) + (-1) = 0 from rfl, Int32.add_zero]
theorem pk_mul (a b : Nat) : nI a * nI b = nI (a * b) := (Int32.ofNat_mul a b).symm
theorem pk_div {a d : Nat} (ha : a < 2 ^ 31) (h0 : 0 < d) (hd : d < 2 ^ 31) : nI a / nI d = nI (a / d) := by
  apply Int32.toInt_inj.mp
  rw [lg_idiv_nonneg (by rw [nI_toInt ha]; omega) (by rw [nI_toInt hd]; omega), nI_toInt ha, nI_toInt hd, nI_toInt (Nat.lt_of_le_of_lt (Nat.div_le_self a d) ha)]
  first | rfl | exact (Int.natCast_ediv _ _).symm
theorem pk_rem {a d : Nat} (ha : a < 2 ^ 31) (h0 : 0 < d) (hd : d < 2 ^ 31) : nI a - nI a / nI d * nI d = nI (a % d) := by
  rw [pk_div ha h0 hd, pk_mul, pk_sub (Nat.div_mul_le_self a d)]
  exact congrArg nI (by have := Nat.div_add_mod' a d; omega)
theorem pk_sub_toInt {a b : Nat} (ha : a < 2 ^ 30) (hb : b < 2 ^ 30) : (nI a - nI b).toInt = (a : Int) - b := by
  rw [Int32.toInt_sub, nI_toInt (by omega), nI_toInt (by omega)]
  exact Int.bmod_eq_of_le (by omega) (by omega)
theorem pk_sneg {a b : Nat} (hb : b < 2 ^ 30) (h : a < b) : nI a - nI b < 0 := by
  rw [Int32.lt_iff_toInt_lt, pk_sub_toInt (by omega) hb, show (0 : Int32).toInt = 0 from by decide]
  omega
theorem pk_ix (x : Int32) {n : Nat} (hn : n < 2 ^ 31) : x < 0 ∨ nI n ≤ x ∨ ∃ j : Nat, j < n ∧ x = nI j := by
  by_cases h : x < 0
  · exact Or.inl h
  · obtain ⟨j, hj, rfl⟩ := nI_of h
    by_cases h2 : j < n
    · exact Or.inr (Or.inr ⟨j, h2, rfl⟩)
    · exact Or.inr (Or.inl (nI_le (by omega) hj))
theorem pk_le {x y : Int32} {A B : Prop} (a b : Nat) (f : a ≤ b → A) (g : b < a → B) (hx : x = nI a := by rfl) (hy : y = nI b := by rfl) (ha : a < 2 ^ 31 := by omega) (hb : b < 2 ^ 31 := by omega) : (x ≤ y → A) ∧ (¬ x ≤ y → B) := by
  subst hx hy
  rw [nI_leI ha hb]
  exact ⟨f, fun z => g (by omega)⟩
theorem pk_lt {x y : Int32} {A B : Prop} (a b : Nat) (f : a < b → A) (g : b ≤ a → B) (hx : x = nI a := by rfl) (hy : y = nI b := by rfl) (ha : a < 2 ^ 31 := by omega) (hb : b < 2 ^ 31 := by omega) : (x < y → A) ∧ (¬ x < y → B) := by
  subst hx hy
  rw [nI_ltI ha hb]
  exact ⟨f, fun z => g (by omega)⟩
theorem pk_eq {x y : Int32} {A B : Prop} (a b : Nat) (f : a = b → A) (g : a ≠ b → B) (hx : x = nI a := by rfl) (hy : y = nI b := by rfl) (ha : a < 2 ^ 31 := by omega) (hb : b < 2 ^ 31 := by omega) : (x = y → A) ∧ (¬ x = y → B) := by
  subst hx hy
  rw [nI_eq ha hb]
  exact ⟨f, g⟩
theorem pk_in {x : Int32} (n N : Nat) (h : n < N) (hx : x = nI n := by rfl) (hN : N < 2 ^ 31 := by omega) : vp_in x N := by
  subst hx
  exact vp_in_nI h hN
theorem pk_cl {x : Int32} (n : Nat) (hx : x = nI n := by rfl) (h : n < 2 ^ 31 := by omega) : x.toNatClampNeg = n := by
  subst hx
  exact nI_clamp h
theorem pk_tn {n : Nat} (h : n < 2 ^ 32) : (nI n).toBitVec.toNat = n := Nat.mod_eq_of_lt h
theorem pk_and (x : Int32) {m : Int32} (k : Nat) (hm : m.toBitVec.toNat = 2 ^ k - 1) : x &&& m = nI (x.toBitVec.toNat % 2 ^ k) := by
  apply Int32.toBitVec_inj.mp
  apply BitVec.eq_of_toNat_eq
  rw [Int32.toBitVec_and, BitVec.toNat_and, hm, Nat.and_two_pow_sub_one_eq_mod]
  show _ = (BitVec.ofNat 32 _).toNat
  rw [BitVec.toNat_ofNat]
  exact (Nat.mod_eq_of_lt (Nat.lt_of_le_of_lt (Nat.mod_le _ _) x.toBitVec.isLt)).symm
theorem pk_andN {n : Nat} (h : n < 2 ^ 32) {m : Int32} (k : Nat) (hm : m.toBitVec.toNat = 2 ^ k - 1) : nI n &&& m = nI (n % 2 ^ k) := by
  rw [pk_and _ k hm, pk_tn h]
theorem pk_shl (a s : Int32) (k : Nat) (hs : (s.toBitVec.smod 32).toNat = k) : (a <<< s).toBitVec.toNat = a.toBitVec.toNat * 2 ^ k % 2 ^ 32 := by
  show (a.toBitVec <<< (s.toBitVec.smod 32).toNat).toNat = _
  rw [hs, BitVec.toNat_shiftLeft, Nat.shiftLeft_eq]
theorem pk_shlN {n : Nat} (s : Int32) (k : Nat) (hs : (s.toBitVec.smod 32).toNat = k) (h : n * 2 ^ k < 2 ^ 32) : nI n <<< s = nI (n * 2 ^ k) := by
  apply Int32.toBitVec_inj.mp
  apply BitVec.eq_of_toNat_eq
  have hn : n < 2 ^ 32 := Nat.lt_of_le_of_lt (Nat.le_mul_of_pos_right n (Nat.two_pow_pos k)) h
  rw [pk_shl _ _ k hs, pk_tn hn, pk_tn h, Nat.mod_eq_of_lt h]
theorem pk_shr (a s : Int32) (k : Nat) (hs : (s.toBitVec.smod 32).toNat = k) : (a >>> s).toInt = a.toInt >>> k := by
  show (a.toBitVec.sshiftRight (s.toBitVec.smod 32).toNat).toInt = _
  rw [hs, BitVec.toInt_sshiftRight]
  rfl
theorem pk_shrN {n : Nat} (h : n < 2 ^ 31) (s : Int32) (k : Nat) (hs : (s.toBitVec.smod 32).toNat = k) : nI n >>> s = nI (n / 2 ^ k) := by
  apply Int32.toInt_inj.mp
  have h2 : n / 2 ^ k ≤ n := Nat.div_le_self _ _
  rw [pk_shr _ _ k hs, nI_toInt h, nI_toInt (by omega), Int.shiftRight_eq_div_pow]
  rfl
theorem pk_least (P : Nat → Prop) (h : ∃ k, P k) : ∃ k, P k ∧ ∀ j, j < k → ¬ P j := by
  obtain ⟨k, hk⟩ := h
  induction k using Nat.strongRecOn with
  | ind k ih =>
    by_cases e : ∃ j, j < k ∧ P j
    · obtain ⟨j, hj, pj⟩ := e
      exact ih j hj pj
    · exact ⟨k, hk, fun j hj pj => e ⟨j, hj, pj⟩⟩
theorem ek_v {α : Sort _} {P : α → Prop} {a b : α} (e : a = b) (h : P b) : P a := e ▸ h
end
section
/-! the row of heights as an octal number: digits, landings -/
def sw_d (n P i : Nat) : Nat := P / 8 ^ (n - 1 - i) % 8
def sw_l (n P i : Nat) : Nat := (i + sw_d n P i) % n
def sw_J (n P : Nat) : Prop := ∀ j, j < n → ∀ i, i < j → ¬ sw_l n P i = sw_l n P j
def sw_S (n P : Nat) : Nat → Nat
  | 0 => 0
  | k + 1 => sw_S n P k + sw_d n P k
theorem sw_d_lt (n P i : Nat) : sw_d n P i < 8 := Nat.mod_lt _ (by decide)
theorem sw_l_lt {n : Nat} (P i : Nat) (h : 0 < n) : sw_l n P i < n := Nat.mod_lt _ h
theorem sw_S_le (n P : Nat) : ∀ k, sw_S n P k ≤ 7 * k
  | 0 => Nat.le_refl _
  | k + 1 => by
    have h1 := sw_S_le n P k
    have h2 := sw_d_lt n P k
    show sw_S n P k + sw_d n P k ≤ _
    omega
theorem sw_d_last {n A h : Nat} (hh : h < 8) : sw_d (n + 1) (A * 8 + h) n = h := by
  unfold sw_d
  rw [show n + 1 - 1 - n = 0 by omega, Nat.pow_zero, Nat.div_one]
  omega
theorem sw_d_pre {n A h i : Nat} (hh : h < 8) (hi : i < n) : sw_d (n + 1) (A * 8 + h) i = sw_d n A i := by
  unfold sw_d
  rw [show n + 1 - 1 - i = (n - 1 - i) + 1 by omega, Nat.pow_succ, Nat.mul_comm (8 ^ (n - 1 - i)) 8, ← Nat.div_div_eq_div_mul, show (A * 8 + h) / 8 = A by omega]
theorem sw_d_up {n i j Q : Nat} (hi : i ≤ n) (hj : j < i) : sw_d n Q j = sw_d i (Q / 8 ^ (n - i)) j := by
  unfold sw_d
  rw [Nat.div_div_eq_div_mul, ← Nat.pow_add, show n - i + (i - 1 - j) = n - 1 - j by omega]
theorem sw_split {P : Nat} : P = P / 8 * 8 + P % 8 := by omega
theorem sw_ext : ∀ (n P Q : Nat), P < 8 ^ n → Q < 8 ^ n → (∀ i, i < n → sw_d n P i = sw_d n Q i) → P = Q
  | 0, P, Q, hP, hQ, _ => by
    rw [Nat.pow_zero] at hP hQ
    omega
  | n + 1, P, Q, hP, hQ, h => by
    rw [Nat.pow_succ] at hP hQ
    have e1 : P % 8 = Q % 8 := by
      have z := h n (by omega)
      rw [@sw_split P, @sw_split Q, sw_d_last (by omega), sw_d_last (by omega)] at z
      exact z
    have e2 : P / 8 = Q / 8 := by
      refine sw_ext n (P / 8) (Q / 8) (by omega) (by omega) (fun i hi => ?_)
      have z := h i (by omega)
      rw [@sw_split P, @sw_split Q, sw_d_pre (by omega) hi, sw_d_pre (by omega) hi] at z
      exact z
    omega
theorem sw_8 (e : Nat) : 8 ^ e = 2 ^ (3 * e) := by rw [Nat.pow_mul]
theorem sw_8le {n : Nat} (h : n ≤ 5) : 8 ^ n ≤ 32768 := Nat.pow_le_pow_right (n := 8) (by decide) h
/-- bit b of digit i -/
theorem sw_d_bit (n P i b : Nat) : (sw_d n P i).testBit b = (decide (b < 3) && P.testBit (b + 3 * (n - 1 - i))) := by
  unfold sw_d
  rw [show (8 : Nat) = 2 ^ 3 by decide, Nat.testBit_mod_two_pow, ← Nat.pow_mul, Nat.testBit_div_two_pow]
/-! one digit put anew -/
def sw_w (n P i h : Nat) : Nat := (P &&& (7 * 2 ^ (3 * (n - 1 - i)) ^^^ 4294967295)) ||| h * 2 ^ (3 * (n - 1 - i))
theorem sw_7 (b : Nat) : Nat.testBit 7 b = decide (b < 3) := Nat.testBit_two_pow_sub_one 3 b
theorem sw_ff (b : Nat) : Nat.testBit 4294967295 b = decide (b < 32) := Nat.testBit_two_pow_sub_one 32 b
theorem sw_h3 {h b : Nat} (hh : h < 8) (hb : 3 ≤ b) : h.testBit b = false :=
  Nat.testBit_lt_two_pow (Nat.lt_of_lt_of_le hh (Nat.pow_le_pow_right (n := 2) (by decide) hb))
theorem sw_w_bit {n P i h : Nat} (b : Nat) : (sw_w n P i h).testBit b = ((P.testBit b && ((decide (3 * (n - 1 - i) ≤ b) && decide (b - 3 * (n - 1 - i) < 3)) ^^ decide (b < 32))) || (decide (3 * (n - 1 - i) ≤ b) && h.testBit (b - 3 * (n - 1 - i)))) := by
  unfold sw_w
  rw [Nat.testBit_or, Nat.testBit_and, Nat.testBit_xor, Nat.testBit_mul_two_pow, Nat.testBit_mul_two_pow, sw_7, sw_ff]
theorem sw_w_lt {n P i h : Nat} (hn : n ≤ 5) (hi : i < n) (hP : P < 8 ^ n) (hh : h < 8) : sw_w n P i h < 8 ^ n := by
  rw [sw_8] at hP ⊢
  apply Nat.lt_pow_two_of_testBit
  intro b hb
  have e1 : P.testBit b = false := Nat.testBit_lt_two_pow (Nat.lt_of_lt_of_le hP (Nat.pow_le_pow_right (n := 2) (by decide) hb))
  have e2 : h.testBit (b - 3 * (n - 1 - i)) = false := sw_h3 hh (by omega)
  rw [sw_w_bit, e1, e2]
  simp
theorem sw_w_d {n P i h : Nat} (hn : n ≤ 5) (hi : i < n) (hh : h < 8) : sw_d n (sw_w n P i h) i = h := by
  apply Nat.eq_of_testBit_eq
  intro b
  rw [sw_d_bit, sw_w_bit]
  by_cases hb : b < 3
  · rw [decide_eq_true hb, decide_eq_true (show 3 * (n - 1 - i) ≤ b + 3 * (n - 1 - i) by omega), Nat.add_sub_cancel, decide_eq_true hb, decide_eq_true (show b + 3 * (n - 1 - i) < 32 by omega)]
    simp
  · rw [decide_eq_false hb, Bool.false_and]
    exact (sw_h3 hh (by omega)).symm
theorem sw_w_n {n P i j h : Nat} (hn : n ≤ 5) (hi : i < n) (hj : j < n) (hh : h < 8) (hij : j ≠ i) : sw_d n (sw_w n P i h) j = sw_d n P j := by
  apply Nat.eq_of_testBit_eq
  intro b
  rw [sw_d_bit, sw_d_bit, sw_w_bit]
  by_cases hb : b < 3
  · rw [decide_eq_true (show b + 3 * (n - 1 - j) < 32 by omega)]
    by_cases hs : 3 * (n - 1 - i) ≤ b + 3 * (n - 1 - j)
    · have h3 : 3 ≤ b + 3 * (n - 1 - j) - 3 * (n - 1 - i) := by omega
      rw [decide_eq_false (show ¬ b + 3 * (n - 1 - j) - 3 * (n - 1 - i) < 3 by omega), sw_h3 hh h3]
      simp
    · rw [decide_eq_false hs]
      simp
  · rw [decide_eq_false hb]
    simp
/-! the row turned by one -/
theorem sw_t_lt {n P : Nat} (hn : n ≤ 5) (h1 : 0 < n) (hP : P < 8 ^ n) : sw_w n P 0 0 < 8 ^ (n - 1) := by
  have a := sw_w_d (P := P) (h := 0) hn h1 (by decide)
  have b := sw_w_lt (i := 0) (h := 0) hn h1 hP (by decide)
  obtain ⟨m, rfl⟩ : ∃ m, n = m + 1 := ⟨n - 1, by omega⟩
  unfold sw_d at a
  rw [show m + 1 - 1 - 0 = m by omega] at a
  rw [show m + 1 - 1 = m by omega]
  rw [Nat.pow_succ] at b
  have c : sw_w (m + 1) P 0 0 / 8 ^ m < 8 := Nat.div_lt_of_lt_mul b
  have d : sw_w (m + 1) P 0 0 / 8 ^ m = 0 := by
    generalize sw_w (m + 1) P 0 0 / 8 ^ m = y at a c
    omega
  exact Nat.lt_of_div_eq_zero (Nat.pow_pos (by decide)) d
theorem sw_t_d {n P h i : Nat} (hn : n ≤ 5) (hh : h < 8) (hi : i + 1 < n) : sw_d n (sw_w n P 0 0 * 8 + h) i = sw_d n P (i + 1) := by
  rw [← sw_w_n (h := 0) (i := 0) (P := P) hn (by omega) hi (by decide) (by omega)]
  obtain ⟨m, rfl⟩ : ∃ m, n = m + 1 := ⟨n - 1, by omega⟩
  rw [sw_d_pre hh (by omega)]
  unfold sw_d
  rw [show m + 1 - 1 - (i + 1) = m - 1 - i by omega]
theorem sw_t_l {n P h : Nat} (h1 : 0 < n) (hh : h < 8) : sw_d n (P * 8 + h) (n - 1) = h := by
  obtain ⟨m, rfl⟩ : ∃ m, n = m + 1 := ⟨n - 1, by omega⟩
  exact sw_d_last hh
end
section
/-! landings as a mask; apart means: the mask is full -/
def sw_M (n P : Nat) : Nat → Nat
  | 0 => 0
  | k + 1 => sw_M n P k ||| 2 ^ sw_l n P k
theorem sw_b (M b : Nat) : M / 2 ^ b % 2 = if M.testBit b then 1 else 0 := by
  rw [Nat.testBit_eq_decide_div_mod_eq]
  have : M / 2 ^ b % 2 = 0 ∨ M / 2 ^ b % 2 = 1 := by omega
  rcases this with h | h <;> simp [h]
theorem sw_b1 {M b : Nat} : M / 2 ^ b % 2 = 0 ↔ M.testBit b = false := by
  rw [sw_b]
  cases M.testBit b <;> simp
theorem sw_orb {M b c : Nat} : (M ||| 2 ^ b).testBit c = (M.testBit c || decide (b = c)) := by
  rw [Nat.testBit_or, Nat.testBit_two_pow]
theorem sw_or_lt {n M b : Nat} (hM : M < 2 ^ n) (hb : b < n) : M ||| 2 ^ b < 2 ^ n :=
  Nat.or_lt_two_pow hM (Nat.pow_lt_pow_right (by decide) hb)
theorem sw_M_bit (n P b : Nat) : ∀ k, (sw_M n P k).testBit b = true ↔ ∃ i, i < k ∧ sw_l n P i = b
  | 0 => by
    constructor
    · intro h
      have : (0 : Nat).testBit b = true := h
      simp at this
    · intro ⟨i, hi, _⟩
      omega
  | k + 1 => by
    show (sw_M n P k ||| 2 ^ sw_l n P k).testBit b = true ↔ _
    rw [sw_orb, Bool.or_eq_true, sw_M_bit n P b k, decide_eq_true_eq]
    constructor
    · intro h
      rcases h with ⟨i, hi, e⟩ | e
      · exact ⟨i, by omega, e⟩
      · exact ⟨k, by omega, e⟩
    · intro ⟨i, hi, e⟩
      by_cases z : i = k
      · exact Or.inr (z ▸ e)
      · exact Or.inl ⟨i, by omega, e⟩
theorem sw_M_lt {n P : Nat} (h : 0 < n) : ∀ k, sw_M n P k < 2 ^ n
  | 0 => Nat.two_pow_pos n
  | k + 1 => sw_or_lt (sw_M_lt h k) (sw_l_lt P k h)
def sw_any : Nat → (Nat → Bool) → Bool
  | 0, _ => false
  | k + 1, f => f k || sw_any k f
def sw_all : Nat → (Nat → Bool) → Bool
  | 0, _ => true
  | k + 1, f => f k && sw_all k f
theorem sw_any_ok {f : Nat → Bool} : ∀ {k : Nat}, sw_any k f = true → ∃ j, j < k ∧ f j = true
  | 0, h => Bool.noConfusion (show false = true from h)
  | k + 1, h => by
    have h' : (f k || sw_any k f) = true := h
    rw [Bool.or_eq_true] at h'
    rcases h' with a | a
    · exact ⟨k, by omega, a⟩
    · obtain ⟨j, hj, e⟩ := sw_any_ok a
      exact ⟨j, by omega, e⟩
theorem sw_all_ok {f : Nat → Bool} : ∀ {k : Nat}, sw_all k f = true → ∀ j, j < k → f j = true
  | 0, _, j, hj => by omega
  | k + 1, h, j, hj => by
    have h' : (f k && sw_all k f) = true := h
    rw [Bool.and_eq_true] at h'
    by_cases e : j = k
    · rw [e]
      exact h'.1
    · exact sw_all_ok h'.2 j (by omega)
theorem sw_f1 : ∀ a, a < 1 → (0 ||| 2 ^ a = 1) := by decide +kernel
theorem sw_f2 : ∀ a, a < 2 → ∀ b, b < 2 → ((0 ||| 2 ^ a) ||| 2 ^ b = 3 ↔ ¬ a = b) := by decide +kernel
theorem sw_f3 : ∀ a, a < 3 → ∀ b, b < 3 → ∀ c, c < 3 → (((0 ||| 2 ^ a) ||| 2 ^ b) ||| 2 ^ c = 7 ↔ (¬ a = b ∧ ¬ a = c ∧ ¬ b = c)) := by decide +kernel
theorem sw_f4b : sw_all 4 (fun a => sw_all 4 (fun b => sw_all 4 (fun c => sw_all 4 (fun d => ((((((0 ||| 2 ^ a) ||| 2 ^ b) ||| 2 ^ c) ||| 2 ^ d) == 15) == (!(a == b) && !(a == c) && !(b == c) && !(a == d) && !(b == d) && !(c == d))))))) = true := by decide +kernel
theorem sw_f4 : ∀ a, a < 4 → ∀ b, b < 4 → ∀ c, c < 4 → ∀ d, d < 4 → ((((0 ||| 2 ^ a) ||| 2 ^ b) ||| 2 ^ c) ||| 2 ^ d = 15 ↔ (¬ a = b ∧ ¬ a = c ∧ ¬ b = c ∧ ¬ a = d ∧ ¬ b = d ∧ ¬ c = d)) := by
  intro a ha b hb c hc d hd
  have t : ((((((0 ||| 2 ^ a) ||| 2 ^ b) ||| 2 ^ c) ||| 2 ^ d) == 15) == (!(a == b) && !(a == c) && !(b == c) && !(a == d) && !(b == d) && !(c == d))) = true := sw_all_ok (sw_all_ok (sw_all_ok (sw_all_ok sw_f4b a ha) b hb) c hc) d hd
  have e := eq_of_beq t
  rw [Bool.eq_iff_iff] at e
  simpa [and_assoc] using e
theorem sw_f5b : sw_all 5 (fun a => sw_all 5 (fun b => sw_all 5 (fun c => sw_all 5 (fun d => sw_all 5 (fun e => (((((((0 ||| 2 ^ a) ||| 2 ^ b) ||| 2 ^ c) ||| 2 ^ d) ||| 2 ^ e) == 31) == (!(a == b) && !(a == c) && !(b == c) && !(a == d) && !(b == d) && !(c == d) && !(a == e) && !(b == e) && !(c == e) && !(d == e)))))))) = true := by decide +kernel
theorem sw_f5 : ∀ a, a < 5 → ∀ b, b < 5 → ∀ c, c < 5 → ∀ d, d < 5 → ∀ e, e < 5 → (((((0 ||| 2 ^ a) ||| 2 ^ b) ||| 2 ^ c) ||| 2 ^ d) ||| 2 ^ e = 31 ↔ (¬ a = b ∧ ¬ a = c ∧ ¬ b = c ∧ ¬ a = d ∧ ¬ b = d ∧ ¬ c = d ∧ ¬ a = e ∧ ¬ b = e ∧ ¬ c = e ∧ ¬ d = e)) := by
  intro a ha b hb c hc d hd e he
  have t : (((((((0 ||| 2 ^ a) ||| 2 ^ b) ||| 2 ^ c) ||| 2 ^ d) ||| 2 ^ e) == 31) == (!(a == b) && !(a == c) && !(b == c) && !(a == d) && !(b == d) && !(c == d) && !(a == e) && !(b == e) && !(c == e) && !(d == e))) = true := sw_all_ok (sw_all_ok (sw_all_ok (sw_all_ok (sw_all_ok sw_f5b a ha) b hb) c hc) d hd) e he
  have e := eq_of_beq t
  rw [Bool.eq_iff_iff] at e
  simpa [and_assoc] using e
theorem sw_J1 {P : Nat} : sw_J 1 P := fun j hj i hi => by omega
theorem sw_J2 {P : Nat} : sw_J 2 P ↔ ¬ sw_l 2 P 0 = sw_l 2 P 1 := by
  constructor
  · intro h
    exact h 1 (by decide) 0 (by decide)
  · intro a j hj i hi
    obtain rfl : j = 1 := by omega
    obtain rfl : i = 0 := by omega
    exact a
theorem sw_J3 {P : Nat} : sw_J 3 P ↔ (¬ sw_l 3 P 0 = sw_l 3 P 1 ∧ ¬ sw_l 3 P 0 = sw_l 3 P 2 ∧ ¬ sw_l 3 P 1 = sw_l 3 P 2) := by
  constructor
  · intro h
    exact ⟨h 1 (by decide) 0 (by decide), h 2 (by decide) 0 (by decide), h 2 (by decide) 1 (by decide)⟩
  · intro ⟨a, b, c⟩ j hj i hi
    have : (j = 1 ∧ i = 0) ∨ (j = 2 ∧ i = 0) ∨ (j = 2 ∧ i = 1) := by omega
    rcases this with ⟨rfl, rfl⟩ | ⟨rfl, rfl⟩ | ⟨rfl, rfl⟩ <;> assumption
theorem sw_J4 {P : Nat} : sw_J 4 P ↔ (¬ sw_l 4 P 0 = sw_l 4 P 1 ∧ ¬ sw_l 4 P 0 = sw_l 4 P 2 ∧ ¬ sw_l 4 P 1 = sw_l 4 P 2 ∧ ¬ sw_l 4 P 0 = sw_l 4 P 3 ∧ ¬ sw_l 4 P 1 = sw_l 4 P 3 ∧ ¬ sw_l 4 P 2 = sw_l 4 P 3) := by
  constructor
  · intro h
    exact ⟨h 1 (by decide) 0 (by decide), h 2 (by decide) 0 (by decide), h 2 (by decide) 1 (by decide), h 3 (by decide) 0 (by decide), h 3 (by decide) 1 (by decide), h 3 (by decide) 2 (by decide)⟩
  · intro ⟨a, b, c, d, e, f⟩ j hj i hi
    have : (j = 1 ∧ i = 0) ∨ (j = 2 ∧ i = 0) ∨ (j = 2 ∧ i = 1) ∨ (j = 3 ∧ i = 0) ∨ (j = 3 ∧ i = 1) ∨ (j = 3 ∧ i = 2) := by omega
    rcases this with ⟨rfl, rfl⟩ | ⟨rfl, rfl⟩ | ⟨rfl, rfl⟩ | ⟨rfl, rfl⟩ | ⟨rfl, rfl⟩ | ⟨rfl, rfl⟩ <;> assumption
theorem sw_J5 {P : Nat} : sw_J 5 P ↔ (¬ sw_l 5 P 0 = sw_l 5 P 1 ∧ ¬ sw_l 5 P 0 = sw_l 5 P 2 ∧ ¬ sw_l 5 P 1 = sw_l 5 P 2 ∧ ¬ sw_l 5 P 0 = sw_l 5 P 3 ∧ ¬ sw_l 5 P 1 = sw_l 5 P 3 ∧ ¬ sw_l 5 P 2 = sw_l 5 P 3 ∧ ¬ sw_l 5 P 0 = sw_l 5 P 4 ∧ ¬ sw_l 5 P 1 = sw_l 5 P 4 ∧ ¬ sw_l 5 P 2 = sw_l 5 P 4 ∧ ¬ sw_l 5 P 3 = sw_l 5 P 4) := by
  constructor
  · intro h
    exact ⟨h 1 (by decide) 0 (by decide), h 2 (by decide) 0 (by decide), h 2 (by decide) 1 (by decide), h 3 (by decide) 0 (by decide), h 3 (by decide) 1 (by decide), h 3 (by decide) 2 (by decide), h 4 (by decide) 0 (by decide), h 4 (by decide) 1 (by decide), h 4 (by decide) 2 (by decide), h 4 (by decide) 3 (by decide)⟩
  · intro ⟨a, b, c, d, e, f, g, k, l, m⟩ j hj i hi
    have : (j = 1 ∧ i = 0) ∨ (j = 2 ∧ i = 0) ∨ (j = 2 ∧ i = 1) ∨ (j = 3 ∧ i = 0) ∨ (j = 3 ∧ i = 1) ∨ (j = 3 ∧ i = 2) ∨ (j = 4 ∧ i = 0) ∨ (j = 4 ∧ i = 1) ∨ (j = 4 ∧ i = 2) ∨ (j = 4 ∧ i = 3) := by omega
    rcases this with ⟨rfl, rfl⟩ | ⟨rfl, rfl⟩ | ⟨rfl, rfl⟩ | ⟨rfl, rfl⟩ | ⟨rfl, rfl⟩ | ⟨rfl, rfl⟩ | ⟨rfl, rfl⟩ | ⟨rfl, rfl⟩ | ⟨rfl, rfl⟩ | ⟨rfl, rfl⟩ <;> assumption
theorem sw_full {n P : Nat} (h1 : 1 ≤ n) (h5 : n ≤ 5) : sw_M n P n = 2 ^ n - 1 ↔ sw_J n P := by
  have : n = 1 ∨ n = 2 ∨ n = 3 ∨ n = 4 ∨ n = 5 := by omega
  rcases this with rfl | rfl | rfl | rfl | rfl
  · exact ⟨fun _ => sw_J1, fun _ => sw_f1 _ (sw_l_lt P 0 (by decide))⟩
  · rw [sw_J2]
    exact sw_f2 _ (sw_l_lt P 0 (by decide)) _ (sw_l_lt P 1 (by decide))
  · rw [sw_J3]
    exact sw_f3 _ (sw_l_lt P 0 (by decide)) _ (sw_l_lt P 1 (by decide)) _ (sw_l_lt P 2 (by decide))
  · rw [sw_J4]
    exact sw_f4 _ (sw_l_lt P 0 (by decide)) _ (sw_l_lt P 1 (by decide)) _ (sw_l_lt P 2 (by decide)) _ (sw_l_lt P 3 (by decide))
  · rw [sw_J5]
    exact sw_f5 _ (sw_l_lt P 0 (by decide)) _ (sw_l_lt P 1 (by decide)) _ (sw_l_lt P 2 (by decide)) _ (sw_l_lt P 3 (by decide)) _ (sw_l_lt P 4 (by decide))
theorem sw_surj {n P p : Nat} (h1 : 1 ≤ n) (h5 : n ≤ 5) (hJ : sw_J n P) (hp : p < n) : ∃ j, j < n ∧ sw_l n P j = p := by
  apply (sw_M_bit n P p n).mp
  rw [(sw_full h1 h5).mpr hJ, Nat.testBit_two_pow_sub_one]
  exact decide_eq_true hp
/-! every row that lands apart is met by the tree of prefixes: what a program finds true at its leaves holds -/
def sw_cf (n i A h : Nat) : Bool := sw_any i (fun j => (j + sw_d i A j) % n == (i + h) % n)
def sw_tree (n : Nat) (F : Nat → Bool) : Nat → Nat → Nat → Bool
  | 0, _, A => F A
  | k + 1, i, A => sw_all 8 (fun h => sw_cf n i A h || sw_tree n F k (i + 1) (A * 8 + h))
theorem sw_tree_ok {n Q : Nat} {F : Nat → Bool} (hJ : sw_J n Q) : ∀ (k i A : Nat), sw_tree n F k i A = true → i + k = n → Q / 8 ^ k = A → F Q = true
  | 0, i, A, h, _, e => by
    rw [Nat.pow_zero, Nat.div_one] at e
    rw [e]
    exact h
  | k + 1, i, A, h, hk, e => by
    have h' : sw_all 8 (fun h => sw_cf n i A h || sw_tree n F k (i + 1) (A * 8 + h)) = true := h
    have z := sw_all_ok h' (Q / 8 ^ k % 8) (Nat.mod_lt _ (by decide))
    have z' : (sw_cf n i A (Q / 8 ^ k % 8) || sw_tree n F k (i + 1) (A * 8 + Q / 8 ^ k % 8)) = true := z
    rw [Bool.or_eq_true] at z'
    rcases z' with c | c
    · obtain ⟨j, hj, ej⟩ := sw_any_ok c
      have ej' : (j + sw_d i A j) % n = (i + Q / 8 ^ k % 8) % n := eq_of_beq ej
      exfalso
      refine hJ i (by omega) j hj ?_
      have e1 : sw_d n Q j = sw_d i A j := by
        rw [sw_d_up (i := i) (by omega) hj, show n - i = k + 1 by omega, e]
      have e2 : sw_d n Q i = Q / 8 ^ k % 8 := by
        unfold sw_d
        rw [show n - 1 - i = k by omega]
      unfold sw_l
      rw [e1, e2]
      exact ej'
    · refine sw_tree_ok hJ k (i + 1) _ c (by omega) ?_
      rw [Nat.pow_succ, ← Nat.div_div_eq_div_mul] at e
      omega
theorem sw_tree_all {n Q : Nat} {F : Nat → Bool} (h : sw_tree n F n 0 0 = true) (hQ : Q < 8 ^ n) (hJ : sw_J n Q) : F Q = true :=
  sw_tree_ok hJ n 0 0 h (by omega) (Nat.div_eq_of_lt hQ)
/-! states -/
def sw_ix (n : Nat) (t : Int) (k : Nat) : Nat := ((t - (k : Int)) % (n : Int)).toNat
def sw_st (n P : Nat) (t : Int) : Nat → Nat
  | 0 => 0
  | k + 1 => if k + 1 ≤ sw_d n P (sw_ix n t (k + 1)) then sw_st n P t k ||| 2 ^ (sw_d n P (sw_ix n t (k + 1)) - (k + 1)) else sw_st n P t k
theorem sw_st_lt (n P : Nat) (t : Int) : ∀ k, sw_st n P t k < 2 ^ 7
  | 0 => Nat.two_pow_pos 7
  | k + 1 => by
    have h := sw_d_lt n P (sw_ix n t (k + 1))
    unfold sw_st
    split
    · exact sw_or_lt (sw_st_lt n P t k) (by omega)
    · exact sw_st_lt n P t k
def sw_mb (s : Nat) : Nat → Nat
  | 0 => 0
  | k + 1 => sw_mb s k + s / 2 ^ k % 2
theorem sw_mb_le (s : Nat) : ∀ k, sw_mb s k ≤ k
  | 0 => Nat.le_refl _
  | k + 1 => by
    have h := sw_mb_le s k
    show sw_mb s k + s / 2 ^ k % 2 ≤ k + 1
    omega
theorem sw_5 {P : Nat → Prop} (a1 : P 1) (a2 : P 2) (a3 : P 3) (a4 : P 4) (a5 : P 5) {n : Nat} (h1 : 1 ≤ n) (h5 : n ≤ 5) : P n := by
  have : n = 1 ∨ n = 2 ∨ n = 3 ∨ n = 4 ∨ n = 5 := by omega
  rcases this with rfl | rfl | rfl | rfl | rfl <;> assumption
/-! the way of a ball -/
def sw_it (n P i : Nat) : Nat → Nat
  | 0 => i
  | k + 1 => sw_l n P (sw_it n P i k)
def sw_bt (n P i : Nat) : Nat → Nat
  | 0 => i
  | k + 1 => sw_bt n P i k + sw_d n P (sw_it n P i k)
theorem sw_it_lt {n P i : Nat} (hi : i < n) : ∀ k, sw_it n P i k < n
  | 0 => hi
  | _ + 1 => sw_l_lt P _ (by omega)
theorem sw_bt_mod {n P i : Nat} (hi : i < n) : ∀ k, sw_bt n P i k % n = sw_it n P i k
  | 0 => Nat.mod_eq_of_lt hi
  | k + 1 => by
    show (sw_bt n P i k + sw_d n P (sw_it n P i k)) % n = (sw_it n P i k + sw_d n P (sw_it n P i k)) % n
    rw [← sw_bt_mod hi k, Nat.mod_add_mod]
theorem sw_bt_le {n P i : Nat} : ∀ k, i ≤ sw_bt n P i k ∧ sw_bt n P i k ≤ i + 7 * k
  | 0 => ⟨Nat.le_refl _, Nat.le_refl _⟩
  | k + 1 => by
    have h := sw_bt_le (n := n) (P := P) (i := i) k
    have h2 := sw_d_lt n P (sw_it n P i k)
    show i ≤ sw_bt n P i k + sw_d n P (sw_it n P i k) ∧ sw_bt n P i k + sw_d n P (sw_it n P i k) ≤ _
    omega
def sw_back (n P : Nat) : Bool := sw_all n (fun i => sw_any n (fun k => sw_it n P i (k + 1) == i))
theorem sw_bk1 : sw_tree 1 (sw_back 1) 1 0 0 = true := by decide +kernel
theorem sw_bk2 : sw_tree 2 (sw_back 2) 2 0 0 = true := by decide +kernel
theorem sw_bk3 : sw_tree 3 (sw_back 3) 3 0 0 = true := by decide +kernel
theorem sw_bk4 : sw_tree 4 (sw_back 4) 4 0 0 = true := by decide +kernel
theorem sw_bk5 : sw_tree 5 (sw_back 5) 5 0 0 = true := by decide +kernel
theorem sw_ret {n P i : Nat} (h1 : 1 ≤ n) (h5 : n ≤ 5) (hP : P < 8 ^ n) (hJ : sw_J n P) (hi : i < n) : ∃ k, k < n ∧ sw_it n P i (k + 1) = i ∧ ∀ j, j < k → ¬ sw_it n P i (j + 1) = i := by
  have t := sw_5 (P := fun n => sw_tree n (sw_back n) n 0 0 = true) sw_bk1 sw_bk2 sw_bk3 sw_bk4 sw_bk5 h1 h5
  have a : sw_all n (fun i => sw_any n (fun k => sw_it n P i (k + 1) == i)) = true := sw_tree_all t hP hJ
  have b : sw_any n (fun k => sw_it n P i (k + 1) == i) = true := sw_all_ok a i hi
  obtain ⟨k, hk, e⟩ := sw_any_ok b
  obtain ⟨m, hm, hl⟩ := pk_least (fun k => sw_it n P i (k + 1) = i) ⟨k, eq_of_beq e⟩
  refine ⟨m, ?_, hm, hl⟩
  rcases Nat.lt_or_ge k m with z | z
  · exact absurd (eq_of_beq e) (hl k z)
  · omega
/-! balls met one by one: the mask of a ball's throws, and the other program's walk to it -/
def sw_tb (n P i : Nat) : Nat → Nat
  | 0 => 0
  | k + 1 => sw_tb n P i k ||| 2 ^ sw_it n P i k
theorem sw_tb_lt {n P i : Nat} (hi : i < n) : ∀ k, sw_tb n P i k < 2 ^ n
  | 0 => Nat.two_pow_pos n
  | k + 1 => sw_or_lt (sw_tb_lt hi k) (sw_it_lt hi k)
def sw_ox (n P : Nat) : Nat → Nat × Nat
  | 0 => (0, 0)
  | i + 1 => if sw_d n P i ≠ 0 ∧ (sw_ox n P i).2 / 2 ^ i % 2 = 0 then ((sw_ox n P i).1 + 1, (sw_ox n P i).2 ||| sw_tb n P i n) else sw_ox n P i
def sw_yw (n P : Nat) : Nat → Nat → Nat → Option Nat
  | 0, _, _ => none
  | k + 1, s, a => if s / 2 ^ a % 2 = 0 then sw_yw n P k (s ||| 2 ^ a) (sw_l n P a) else some s
def sw_orbs (n P : Nat) : Bool := sw_all n (fun i => sw_d n P i == 0 || (sw_ox n P i).2 / 2 ^ i % 2 == 1 || sw_yw n P 7 (sw_ox n P i).2 i == some ((sw_ox n P i).2 ||| sw_tb n P i n))
theorem sw_ob1 : sw_tree 1 (sw_orbs 1) 1 0 0 = true := by decide +kernel
theorem sw_ob2 : sw_tree 2 (sw_orbs 2) 2 0 0 = true := by decide +kernel
theorem sw_ob3 : sw_tree 3 (sw_orbs 3) 3 0 0 = true := by decide +kernel
theorem sw_ob4 : sw_tree 4 (sw_orbs 4) 4 0 0 = true := by decide +kernel
theorem sw_ob5 : sw_tree 5 (sw_orbs 5) 5 0 0 = true := by decide +kernel
theorem sw_orb_ok {n P i : Nat} (h1 : 1 ≤ n) (h5 : n ≤ 5) (hP : P < 8 ^ n) (hJ : sw_J n P) (hi : i < n) (hd : ¬ sw_d n P i = 0) (hs : (sw_ox n P i).2 / 2 ^ i % 2 = 0) : sw_yw n P 7 (sw_ox n P i).2 i = some ((sw_ox n P i).2 ||| sw_tb n P i n) := by
  have t := sw_5 (P := fun n => sw_tree n (sw_orbs n) n 0 0 = true) sw_ob1 sw_ob2 sw_ob3 sw_ob4 sw_ob5 h1 h5
  have b := sw_all_ok (k := n) (sw_tree_all t hP hJ) i hi
  have b' : (sw_d n P i == 0 || (sw_ox n P i).2 / 2 ^ i % 2 == 1 || sw_yw n P 7 (sw_ox n P i).2 i == some ((sw_ox n P i).2 ||| sw_tb n P i n)) = true := b
  rw [Bool.or_eq_true, Bool.or_eq_true] at b'
  rcases b' with (c | c) | c
  · exact absurd (eq_of_beq c) hd
  · have := eq_of_beq c
    omega
  · exact eq_of_beq c
theorem sw_ox_lt {n P : Nat} (h : 0 < n) : ∀ i, i ≤ n → (sw_ox n P i).1 ≤ i ∧ (sw_ox n P i).2 < 2 ^ n
  | 0, _ => ⟨Nat.le_refl _, Nat.two_pow_pos n⟩
  | i + 1, hi => by
    have a := sw_ox_lt (P := P) h i (by omega)
    unfold sw_ox
    split
    · exact ⟨by have := a.1; omega, Nat.or_lt_two_pow a.2 (sw_tb_lt (by omega) n)⟩
    · exact ⟨by have := a.1; omega, a.2⟩
end
section
/-! rows counted, and the search for the next one -/
def sw_gb (n b Q : Nat) : Bool := decide (sw_S n Q n = b * n) && decide (∀ j, j < n → ∀ i, i < j → ¬ sw_l n Q i = sw_l n Q j)
theorem sw_gb_iff {n b Q : Nat} : sw_gb n b Q = true ↔ (sw_S n Q n = b * n ∧ sw_J n Q) := by
  unfold sw_gb sw_J
  rw [Bool.and_eq_true, decide_eq_true_eq, decide_eq_true_eq]
def sw_C (n b : Nat) : Nat → Nat
  | 0 => 0
  | x + 1 => sw_C n b x + (if sw_gb n b x = true then 1 else 0)
theorem sw_C_t {n b x : Nat} (h : sw_S n x n = b * n ∧ sw_J n x) : sw_C n b (x + 1) = sw_C n b x + 1 := by
  show sw_C n b x + (if sw_gb n b x = true then 1 else 0) = _
  rw [if_pos (sw_gb_iff.mpr h)]
theorem sw_C_f {n b x : Nat} (h : ¬ (sw_S n x n = b * n ∧ sw_J n x)) : sw_C n b (x + 1) = sw_C n b x := by
  show sw_C n b x + (if sw_gb n b x = true then 1 else 0) = _
  rw [if_neg (fun z => h (sw_gb_iff.mp z)), Nat.add_zero]
theorem sw_C_s (n b x : Nat) : sw_C n b x ≤ sw_C n b (x + 1) ∧ sw_C n b (x + 1) ≤ sw_C n b x + 1 := by
  show sw_C n b x ≤ sw_C n b x + (if sw_gb n b x = true then 1 else 0) ∧ sw_C n b x + (if sw_gb n b x = true then 1 else 0) ≤ _
  split <;> omega
theorem sw_C_le (n b : Nat) : ∀ x, sw_C n b x ≤ x
  | 0 => Nat.le_refl _
  | x + 1 => by
    have h1 := sw_C_le n b x
    have h2 := sw_C_s n b x
    omega
theorem sw_C_mono (n b x : Nat) : ∀ d, sw_C n b x ≤ sw_C n b (x + d)
  | 0 => Nat.le_refl _
  | d + 1 => by
    have h1 := sw_C_mono n b x d
    have h2 := sw_C_s n b (x + d)
    show _ ≤ sw_C n b (x + d + 1)
    omega
theorem sw_C_skip {n b x : Nat} : ∀ d, (∀ Q, x ≤ Q → Q < x + d → ¬ sw_J n Q) → sw_C n b (x + d) = sw_C n b x
  | 0, _ => rfl
  | d + 1, h => by
    show sw_C n b (x + d + 1) = _
    rw [sw_C_f (fun z => h (x + d) (by omega) (by omega) z.2)]
    exact sw_C_skip d (fun Q a c => h Q a (by omega))
theorem sw_C_skip' {n b x y : Nat} (hxy : x ≤ y) (h : ∀ Q, x ≤ Q → Q < y → ¬ sw_J n Q) : sw_C n b y = sw_C n b x := by
  obtain ⟨d, rfl⟩ : ∃ d, y = x + d := ⟨y - x, by omega⟩
  exact sw_C_skip d h
theorem sw_C_inj {n b x y : Nat} (hx : sw_S n x n = b * n ∧ sw_J n x) (hy : sw_S n y n = b * n ∧ sw_J n y) (h : sw_C n b x = sw_C n b y) : x = y := by
  have one : ∀ a c, (sw_S n a n = b * n ∧ sw_J n a) → a < c → sw_C n b a < sw_C n b c := by
    intro a c ha hac
    have h1 := sw_C_t ha
    have h2 := sw_C_mono n b (a + 1) (c - (a + 1))
    rw [show a + 1 + (c - (a + 1)) = c by omega] at h2
    omega
  rcases Nat.lt_trichotomy x y with z | z | z
  · have := one x y hx z
    omega
  · exact z
  · have := one y x hy z
    omega
/-- no row between two digits at place i that all meet an earlier landing -/
theorem sw_skip {n i A a h : Nat} (hi : i < n) (h8 : h ≤ 8) (hc : ∀ x, a ≤ x → x < h → ∃ j, j < i ∧ (j + sw_d i A j) % n = (i + x) % n) {Q : Nat} (hQ1 : (A * 8 + a) * 8 ^ (n - 1 - i) ≤ Q) (hQ2 : Q < (A * 8 + h) * 8 ^ (n - 1 - i)) : ¬ sw_J n Q := by
  intro hJ
  have hw : 0 < 8 ^ (n - 1 - i) := Nat.pow_pos (by decide)
  have q1 : A * 8 + a ≤ Q / 8 ^ (n - 1 - i) := (Nat.le_div_iff_mul_le hw).mpr hQ1
  have q2 : Q / 8 ^ (n - 1 - i) < A * 8 + h := (Nat.div_lt_iff_lt_mul hw).mpr hQ2
  have e1 : Q / 8 ^ (n - i) = A := by
    rw [show n - i = (n - 1 - i) + 1 by omega, Nat.pow_succ, ← Nat.div_div_eq_div_mul]
    omega
  have e2 : sw_d n Q i = Q / 8 ^ (n - 1 - i) - A * 8 := by
    unfold sw_d
    omega
  obtain ⟨j, hj, ej⟩ := hc (Q / 8 ^ (n - 1 - i) - A * 8) (by omega) (by omega)
  refine hJ i hi j hj ?_
  unfold sw_l
  rw [sw_d_up (i := i) (by omega) hj, e1, e2]
  exact ej
def sw_PA (n i A : Nat) : Prop := ∀ j, j < i → ∀ k, k < j → ¬ (k + sw_d i A k) % n = (j + sw_d i A j) % n
theorem sw_PA_s {n i A h : Nat} (hp : sw_PA n i A) (hh : h < 8) (hc : ∀ j, j < i → ¬ (j + sw_d i A j) % n = (i + h) % n) : sw_PA n (i + 1) (A * 8 + h) := by
  intro j hj k hk
  rw [sw_d_pre hh (show k < i by omega)]
  by_cases e : j = i
  · subst e
    rw [sw_d_last hh]
    exact hc k hk
  · rw [sw_d_pre hh (show j < i by omega)]
    exact hp j (by omega) k hk
theorem sw_PA_p {n i A : Nat} (hp : sw_PA n (i + 1) A) : sw_PA n i (A / 8) := by
  intro j hj k hk
  have z := hp j (by omega) k hk
  rw [@sw_split A, sw_d_pre (by omega) (show k < i by omega), sw_d_pre (by omega) hj] at z
  exact z
/-- how much search is left -/
def sw_c : Nat → Nat
  | 0 => 0
  | k + 1 => 8 * sw_c k + 2
def sw_D (n : Nat) : Nat → Nat → Nat
  | 0, _ => 0
  | i + 1, A => sw_D n i (A / 8) + (7 - A % 8) * sw_c (n - i)
def sw_mu (n i A e : Nat) : Nat := sw_D n i A + (8 - e) * sw_c (n - i) + i + 1
theorem sw_mu_f {n i A e h : Nat} (hi : i < n) (he : e ≤ h) (hh : h < 8) : sw_mu n (i + 1) (A * 8 + h) 0 < sw_mu n i A e := by
  unfold sw_mu
  show sw_D n i ((A * 8 + h) / 8) + (7 - (A * 8 + h) % 8) * sw_c (n - i) + (8 - 0) * sw_c (n - (i + 1)) + (i + 1) + 1 < _
  rw [show (A * 8 + h) / 8 = A by omega, show (A * 8 + h) % 8 = h by omega]
  have e1 : sw_c (n - i) = 8 * sw_c (n - (i + 1)) + 2 := by
    rw [show n - i = (n - (i + 1)) + 1 by omega]
    rfl
  have e2 : (8 - h) * sw_c (n - i) ≤ (8 - e) * sw_c (n - i) := Nat.mul_le_mul_right _ (by omega)
  have e3 : (8 - h) * sw_c (n - i) = (7 - h) * sw_c (n - i) + sw_c (n - i) := by
    rw [show 8 - h = (7 - h) + 1 by omega, Nat.succ_mul]
  generalize (8 - e) * sw_c (n - i) = x at *
  generalize (8 - h) * sw_c (n - i) = y at *
  generalize (7 - h) * sw_c (n - i) = z at *
  omega
theorem sw_mu_b {n i A e : Nat} : sw_mu n i (A / 8) (A % 8 + 1) < sw_mu n (i + 1) A e := by
  unfold sw_mu
  show _ < sw_D n i (A / 8) + (7 - A % 8) * sw_c (n - i) + (8 - e) * sw_c (n - (i + 1)) + (i + 1) + 1
  rw [show 8 - (A % 8 + 1) = 7 - A % 8 by omega]
  generalize (7 - A % 8) * sw_c (n - i) = x
  generalize (8 - e) * sw_c (n - (i + 1)) = y
  omega
/-- the other program's array while it searches: i digits stand, place i was tried below e, the rest is fresh -/
def sw_O (n i A e : Nat) (o : Nat → Int32) : Prop := (∀ j, j < i → o j = nI (sw_d i A j)) ∧ (i < n → o i + 1 = nI e) ∧ (∀ j, i < j → j < n → o j = -1)
theorem sw_O_f {n i A e h : Nat} {o : Nat → Int32} (ho : sw_O n i A e o) (hh : h < 8) : sw_O n (i + 1) (A * 8 + h) 0 (upd o i (nI h)) := by
  refine ⟨fun j hj => ?_, fun hi => ?_, fun j hj hn => ?_⟩
  · by_cases e : j = i
    · subst e
      rw [pk_us, sw_d_last hh]
    · rw [pk_un e, sw_d_pre hh (by omega)]
      exact ho.1 j (by omega)
  · rw [pk_un (by omega), ho.2.2 (i + 1) (by omega) hi]
    decide
  · rw [pk_un (by omega)]
    exact ho.2.2 j (by omega) hn
theorem sw_O_b {n i A e : Nat} {o : Nat → Int32} (ho : sw_O n (i + 1) A e o) : sw_O n i (A / 8) (A % 8 + 1) (upd o (i + 1) (-1)) := by
  refine ⟨fun j hj => ?_, fun hi => ?_, fun j hj hn => ?_⟩
  · have z := ho.1 j (by omega)
    rw [@sw_split A, sw_d_pre (by omega) hj] at z
    rw [pk_un (by omega)]
    exact z
  · have z := ho.1 i (by omega)
    rw [@sw_split A, sw_d_last (by omega)] at z
    rw [pk_un (by omega), z, nI_1]
  · by_cases e : j = i + 1
    · rw [e, pk_us]
    · rw [pk_un e]
      exact ho.2.2 j (by omega) hn
end
section
/-! steps between sets of numbers 0 to 6, as sums of powers -/
def sw_E (s t : Nat) : Prop := (s % 2 = 0 ∧ t = s / 2) ∨ (s % 2 = 1 ∧ ∃ h, 1 ≤ h ∧ h ≤ 7 ∧ s / 2 ^ h % 2 = 0 ∧ t = (s ||| 2 ^ h) / 2)
def sw_R (a : Nat) : Nat → Nat → Prop
  | 0, t => t = a
  | k + 1, t => ∃ s, sw_R a k s ∧ sw_E s t
theorem sw_E_lt {s t : Nat} (hs : s < 128) (h : sw_E s t) : t < 128 := by
  rcases h with ⟨_, rfl⟩ | ⟨_, h, h1, h7, _, rfl⟩
  · omega
  · have : s ||| 2 ^ h < 2 ^ 8 := sw_or_lt (by omega) (by omega)
    omega
theorem sw_R_lt {a : Nat} (ha : a < 128) : ∀ (k t : Nat), sw_R a k t → t < 128
  | 0, t, h => by
    have h' : t = a := h
    omega
  | k + 1, t, h => by
    obtain ⟨s, hs, e⟩ := h
    exact sw_E_lt (sw_R_lt ha k s hs) e
def sw_dist (a t j : Nat) : Prop := sw_R a j t ∧ ∀ i, i < j → ¬ sw_R a i t
theorem sw_nx : ∀ s, s < 128 → ∀ h, h < 7 → (s ||| 2 ^ (h + 1)) / 2 = s / 2 ||| 2 ^ h := by decide +kernel
/-- X's array after the rounds below k -/
def sw_LV (a k : Nat) (d : Nat → Int32) : Prop := ∀ t, t < 128 → (∀ j, j ≤ k → sw_dist a t j → d t = nI j) ∧ ((∀ j, j ≤ k → ¬ sw_R a j t) → d t = -1)
theorem sw_least {a t k : Nat} (h : sw_R a k t) : ∃ j, j ≤ k ∧ sw_dist a t j := by
  obtain ⟨j, hj, hl⟩ := pk_least (fun j => sw_R a j t) ⟨k, h⟩
  refine ⟨j, ?_, hj, hl⟩
  rcases Nat.lt_or_ge k j with z | z
  · exact absurd h (hl k z)
  · exact z
theorem sw_m1 {j : Nat} (h : j < 2 ^ 31) : ¬ nI j = -1 := by
  intro e
  have z := nI_pos h
  rw [e] at z
  exact z (by decide)
theorem sw_LV0 {a : Nat} {d : Nat → Int32} (h : ∀ t, t < 128 → d t = if t = a then 0 else -1) : sw_LV a 0 d := by
  intro t ht
  constructor
  · intro j hj hd
    obtain rfl : j = 0 := by omega
    have e : t = a := hd.1
    rw [h t ht, if_pos e, nI_0]
  · intro hn
    have e : ¬ t = a := hn 0 (Nat.le_refl _)
    rw [h t ht, if_neg e]
/-- one round: all that stands at k reaches its neighbours -/
def sw_Rd (k s : Nat) (d0 d : Nat → Int32) : Prop := ∀ t, t < 128 → ((d0 t = -1 ∧ ∃ r, r < s ∧ d0 r = nI k ∧ sw_E r t) → d t = nI (k + 1)) ∧ (¬ (d0 t = -1 ∧ ∃ r, r < s ∧ d0 r = nI k ∧ sw_E r t) → d t = d0 t)
theorem sw_LVs {a k : Nat} {d0 d : Nat → Int32} (ha : a < 128) (hk : k < 1000) (h : sw_LV a k d0) (hr : sw_Rd k 128 d0 d) : sw_LV a (k + 1) d := by
  intro t ht
  have at_k : ∀ s, s < 128 → d0 s = nI k → sw_R a k s := by
    intro s hs e
    by_cases z : ∀ j, j ≤ k → ¬ sw_R a j s
    · rw [(h s hs).2 z] at e
      exact absurd e.symm (sw_m1 (by omega))
    · have : ∃ j, j ≤ k ∧ sw_R a j s := by
        apply Classical.byContradiction
        intro w
        exact z (fun j hj hR => w ⟨j, hj, hR⟩)
      obtain ⟨j, hj, hR⟩ := this
      obtain ⟨i, hi, hd⟩ := sw_least hR
      rw [(h s hs).1 i (by omega) hd] at e
      have e' := (nI_eq (by omega) (by omega)).mp e
      rw [← e']
      exact hd.1
  constructor
  · intro j hj hd
    by_cases e : j = k + 1
    · subst e
      obtain ⟨s, hs, hE⟩ := hd.1
      have hs8 := sw_R_lt ha k s hs
      refine (hr t ht).1 ⟨(h t ht).2 (fun i hi => hd.2 i (by omega)), s, hs8, ?_, hE⟩
      refine (h s hs8).1 k (Nat.le_refl _) ⟨hs, fun i hi hR => ?_⟩
      exact hd.2 (i + 1) (by omega) ⟨s, hR, hE⟩
    · have z := (h t ht).1 j (by omega) hd
      rw [(hr t ht).2 ?_]
      · exact z
      · intro w
        rw [z] at w
        exact sw_m1 (by omega) w.1
  · intro hn
    have z := (h t ht).2 (fun j hj => hn j (by omega))
    rw [(hr t ht).2 ?_]
    · exact z
    · intro ⟨_, r, hr8, er, hE⟩
      exact hn (k + 1) (Nat.le_refl _) ⟨r, at_k r hr8 er, hE⟩
/-! cells that are set, counted -/
def sw_cn (f : Nat → Int32) : Nat → Nat
  | 0 => 0
  | k + 1 => sw_cn f k + (if f k = -1 then 0 else 1)
theorem sw_cn_le (f : Nat → Int32) : ∀ k, sw_cn f k ≤ k
  | 0 => Nat.le_refl _
  | k + 1 => by
    have h := sw_cn_le f k
    show sw_cn f k + (if f k = -1 then 0 else 1) ≤ _
    split <;> omega
theorem sw_cn_lt {f : Nat → Int32} {t : Nat} (e : f t = -1) : ∀ k, t < k → sw_cn f k < k
  | k + 1, h => by
    show sw_cn f k + (if f k = -1 then 0 else 1) < _
    by_cases z : t = k
    · subst z
      have := sw_cn_le f t
      rw [if_pos e]
      omega
    · have := sw_cn_lt e k (by omega)
      split <;> omega
theorem sw_cn_o {f : Nat → Int32} {t : Nat} {x : Int32} : ∀ k, k ≤ t → sw_cn (upd f t x) k = sw_cn f k
  | 0, _ => rfl
  | k + 1, h => by
    show sw_cn (upd f t x) k + (if upd f t x k = -1 then 0 else 1) = sw_cn f k + (if f k = -1 then 0 else 1)
    rw [sw_cn_o k (by omega), pk_un (by omega)]
theorem sw_cn_u {f : Nat → Int32} {t : Nat} {x : Int32} (e : f t = -1) (hx : ¬ x = -1) : ∀ k, t < k → sw_cn (upd f t x) k = sw_cn f k + 1
  | k + 1, h => by
    show sw_cn (upd f t x) k + (if upd f t x k = -1 then 0 else 1) = sw_cn f k + (if f k = -1 then 0 else 1) + 1
    by_cases z : t = k
    · subst z
      rw [sw_cn_o t (Nat.le_refl _), pk_us, if_neg hx, if_pos e]
    · rw [sw_cn_u e hx k (by omega), pk_un (by omega)]
      omega
theorem sw_cn_0 : ∀ k, sw_cn (fun _ => -1) k = 0
  | 0 => rfl
  | k + 1 => by
    show sw_cn (fun _ => -1) k + (if (-1 : Int32) = -1 then 0 else 1) = 0
    rw [sw_cn_0 k, if_pos rfl]
theorem sw_cn_x {f g : Nat → Int32} : ∀ k, (∀ j, j < k → f j = g j) → sw_cn f k = sw_cn g k
  | 0, _ => rfl
  | k + 1, h => by
    show sw_cn f k + (if f k = -1 then 0 else 1) = sw_cn g k + (if g k = -1 then 0 else 1)
    rw [sw_cn_x k (fun j hj => h j (by omega)), h k (by omega)]
/-- the queue: q holds many sets, v their distances as they were found; the ones below p have been left, of p's neighbours those with D -/
def sw_Q (a p many : Nat) (q v : Nat → Nat) (D : Nat → Prop) (m f : Nat → Int32) : Prop :=
  (p < many ∧ many ≤ 128 ∧ sw_cn f 128 = many ∧ q 0 = a ∧ v 0 = 0) ∧
  (∀ j, j < many → q j < 128 ∧ m j = nI (q j) ∧ f (q j) = nI (v j) ∧ v j ≤ j ∧ sw_R a (v j) (q j)) ∧
  (∀ i j, i ≤ j → j < many → v i ≤ v j) ∧
  (∀ j, j < many → v j ≤ v p + 1) ∧
  (∀ t, t < 128 → f t = -1 ∨ ∃ j, j < many ∧ q j = t) ∧
  (∀ j t, j < p → sw_E (q j) t → ∃ i, i < many ∧ q i = t ∧ v i ≤ v j + 1) ∧
  (∀ t, D t → ∃ i, i < many ∧ q i = t ∧ v i ≤ v p + 1)
/-- a neighbour that is known already -/
theorem sw_Q_old {a p many t : Nat} {q v : Nat → Nat} {D : Nat → Prop} {m f : Nat → Int32} (h : sw_Q a p many q v D m f) (ht : t < 128) (hf : ¬ f t = -1) : sw_Q a p many q v (fun x => D x ∨ x = t) m f := by
  obtain ⟨h1, h2, h3, h4, h5, h6, h7⟩ := h
  refine ⟨h1, h2, h3, h4, h5, h6, fun x hx => ?_⟩
  rcases hx with hx | rfl
  · exact h7 x hx
  · rcases h5 x ht with z | ⟨j, hj, e⟩
    · exact absurd z hf
    · exact ⟨j, hj, e, h4 j hj⟩
/-- a new neighbour -/
theorem sw_Q_new {a p many t : Nat} {q v : Nat → Nat} {D : Nat → Prop} {m f : Nat → Int32} (h : sw_Q a p many q v D m f) (ht : t < 128) (hf : f t = -1) (hE : sw_E (q p) t) :
    many < 128 ∧ sw_Q a p (many + 1) (fun j => if j = many then t else q j) (fun j => if j = many then v p + 1 else v j) (fun x => D x ∨ x = t) (upd m many (nI t)) (upd f t (nI (v p + 1))) := by
  obtain ⟨⟨h0, h0', h1, hq0, hv0⟩, h2, h3, h4, h5, h6, h7⟩ := h
  have hm : many < 128 := by
    have := sw_cn_lt hf 128 ht
    omega
  have hvp := h2 p h0
  have hp1 : ¬ p = many := by omega
  have old : ∀ i, i < many → (if i = many then t else q i) = q i := fun i hi => if_neg (by omega)
  have oldv : ∀ i, i < many → (if i = many then v p + 1 else v i) = v i := fun i hi => if_neg (by omega)
  refine ⟨hm, ⟨by omega, by omega, ?_, ?_, ?_⟩, ?_, ?_, ?_, ?_, ?_, ?_⟩
  · rw [sw_cn_u hf (sw_m1 (by have := hvp.2.2.2.1; omega)) 128 ht, h1]
  · dsimp only
    rw [old 0 (by omega)]
    exact hq0
  · dsimp only
    rw [oldv 0 (by omega)]
    exact hv0
  · intro j hj
    dsimp only
    by_cases e : j = many
    · subst e
      rw [if_pos rfl, if_pos rfl, pk_us, pk_us]
      exact ⟨ht, rfl, rfl, by have := hvp.2.2.2.1; omega, q p, hvp.2.2.2.2, hE⟩
    · rw [if_neg e, if_neg e, pk_un e]
      obtain ⟨a1, a2, a3, a4, a5⟩ := h2 j (by omega)
      refine ⟨a1, a2, ?_, a4, a5⟩
      rw [pk_un ?_]
      · exact a3
      · intro w
        rw [w, hf] at a3
        exact sw_m1 (by omega) a3.symm
  · intro i j hij hj
    dsimp only
    by_cases e : j = many
    · rw [if_pos e]
      by_cases e' : i = many
      · rw [if_pos e']
        omega
      · rw [if_neg e']
        exact h4 i (by omega)
    · rw [if_neg e, if_neg (by omega)]
      exact h3 i j hij (by omega)
  · intro j hj
    dsimp only
    rw [oldv p h0]
    by_cases e : j = many
    · rw [if_pos e]
      omega
    · rw [if_neg e]
      exact h4 j (by omega)
  · intro x hx
    by_cases e : x = t
    · exact Or.inr ⟨many, by omega, (if_pos rfl).trans e.symm⟩
    · rw [pk_un e]
      rcases h5 x hx with z | ⟨j, hj, ej⟩
      · exact Or.inl z
      · exact Or.inr ⟨j, by omega, (old j hj).trans ej⟩
  · intro j x hj hEx
    dsimp only at hEx
    rw [old j (by omega)] at hEx
    obtain ⟨i, hi, ei, hv⟩ := h6 j x hj hEx
    exact ⟨i, by omega, (old i hi).trans ei, by dsimp only; rw [oldv i hi, oldv j (by omega)]; exact hv⟩
  · intro x hx
    dsimp only
    rw [oldv p h0]
    rcases hx with hx | rfl
    · obtain ⟨i, hi, ei, hv⟩ := h7 x hx
      exact ⟨i, by omega, (old i hi).trans ei, by rw [oldv i hi]; exact hv⟩
    · exact ⟨many, by omega, by rw [if_pos rfl], by rw [if_pos rfl]; omega⟩
/-- all of p's neighbours are met: the next one, or the end -/
theorem sw_Q_next {a p many : Nat} {q v : Nat → Nat} {D : Nat → Prop} {m f : Nat → Int32} (h : sw_Q a p many q v D m f) (hD : ∀ t, sw_E (q p) t → D t) (hp : p + 1 < many) : sw_Q a (p + 1) many q v (fun _ => False) m f := by
  obtain ⟨⟨h0, h0', h1, hq0, hv0⟩, h2, h3, h4, h5, h6, h7⟩ := h
  refine ⟨⟨hp, h0', h1, hq0, hv0⟩, h2, h3, fun j hj => ?_, h5, fun j t hj hE => ?_, fun t ht => ht.elim⟩
  · have a1 := h4 j hj
    have a2 := h3 p (p + 1) (by omega) hp
    omega
  · by_cases e : j = p
    · subst e
      exact h7 t (hD t hE)
    · exact h6 j t (by omega) hE
theorem sw_Q_end {a p many : Nat} {q v : Nat → Nat} {D : Nat → Prop} {m f : Nat → Int32} (h : sw_Q a p many q v D m f) (hD : ∀ t, sw_E (q p) t → D t) (hp : p + 1 = many) : ∀ k t, sw_R a k t → ∃ j, j < many ∧ q j = t ∧ v j ≤ k := by
  obtain ⟨⟨h0, h0', h1, hq0, hv0⟩, h2, h3, h4, h5, h6, h7⟩ := h
  intro k
  induction k with
  | zero =>
    intro t ht
    have ht' : t = a := ht
    exact ⟨0, by omega, by rw [hq0, ht'], by omega⟩
  | succ k ih =>
    intro t ht
    obtain ⟨s, hs, hE⟩ := ht
    obtain ⟨j, hj, ej, hv⟩ := ih s hs
    rw [← ej] at hE
    by_cases e : j = p
    · subst e
      obtain ⟨i, hi, ei, hvi⟩ := h7 t (hD t hE)
      exact ⟨i, hi, ei, by omega⟩
    · obtain ⟨i, hi, ei, hvi⟩ := h6 j t (by omega) hE
      exact ⟨i, hi, ei, by omega⟩
/-- what the array says at the end: the distance, or that there is none -/
theorem sw_Q_ans {a p many b : Nat} {q v : Nat → Nat} {D : Nat → Prop} {m f : Nat → Int32} (h : sw_Q a p many q v D m f) (hD : ∀ t, sw_E (q p) t → D t) (hp : p + 1 = many) (hb : b < 128) :
    (∃ j, j < 128 ∧ sw_dist a b j ∧ f b = nI j) ∨ ((∀ j, ¬ sw_R a j b) ∧ f b = -1) := by
  have hE := sw_Q_end h hD hp
  obtain ⟨⟨h0, h0', h1, hq0, hv0⟩, h2, h3, h4, h5, h6, h7⟩ := h
  rcases h5 b hb with z | ⟨j, hj, ej⟩
  · refine Or.inr ⟨fun k hk => ?_, z⟩
    obtain ⟨j, hj, ej, _⟩ := hE k b hk
    have a3 := (h2 j hj).2.2.1
    rw [ej, z] at a3
    exact sw_m1 (by have := (h2 j hj).2.2.2.1; omega) a3.symm
  · obtain ⟨a1, a2, a3, a4, a5⟩ := h2 j hj
    rw [ej] at a3 a5
    refine Or.inl ⟨v j, by omega, ⟨a5, fun i hi hR => ?_⟩, a3⟩
    obtain ⟨j', hj', ej', hv'⟩ := hE i b hR
    have a3' := (h2 j' hj').2.2.1
    have a4' := (h2 j' hj').2.2.2.1
    rw [ej', a3] at a3'
    have := (nI_eq (by omega) (by omega)).mp a3'
    omega
end
section
/-! Int32 against naturals: masks, bits, the remainder of a beat -/
theorem sw_or (a b : Nat) : nI a ||| nI b = nI (a ||| b) := by
  apply Int32.toBitVec_inj.1
  show BitVec.ofNat 32 a ||| BitVec.ofNat 32 b = BitVec.ofNat 32 (a ||| b)
  apply BitVec.eq_of_getLsbD_eq
  intro i hi
  simp [hi]
theorem sw_and (a b : Nat) : nI a &&& nI b = nI (a &&& b) := by
  apply Int32.toBitVec_inj.1
  show BitVec.ofNat 32 a &&& BitVec.ofNat 32 b = BitVec.ofNat 32 (a &&& b)
  apply BitVec.eq_of_getLsbD_eq
  intro i hi
  simp [hi]
theorem sw_xor (a b : Nat) : nI a ^^^ nI b = nI (a ^^^ b) := by
  apply Int32.toBitVec_inj.1
  show BitVec.ofNat 32 a ^^^ BitVec.ofNat 32 b = BitVec.ofNat 32 (a ^^^ b)
  apply BitVec.eq_of_getLsbD_eq
  intro i hi
  simp [hi]
theorem sw_sl : ∀ n, n < 32 → ((nI n &&& 31).toBitVec.smod 32).toNat = n := by decide +kernel
theorem sw_shr {M b : Nat} (hM : M < 2 ^ 31) (hb : b < 32) : nI M >>> (nI b &&& 31) = nI (M / 2 ^ b) := pk_shrN hM _ b (sw_sl b hb)
theorem sw_bit {M b : Nat} (hM : M < 2 ^ 31) (hb : b < 32) : (nI M >>> (nI b &&& 31)) &&& 1 = nI (M / 2 ^ b % 2) := by
  have h2 : M / 2 ^ b ≤ M := Nat.div_le_self _ _
  rw [sw_shr hM hb, pk_andN (by omega) 1 (by decide)]
theorem sw_shl {h b : Nat} (hb : b < 32) (hh : h * 2 ^ b < 2 ^ 32) : nI h <<< (nI b &&& 31) = nI (h * 2 ^ b) := pk_shlN _ b (sw_sl b hb) hh
theorem sw_one {b : Nat} (hb : b < 31) : (1 : Int32) <<< (nI b &&& 31) = nI (2 ^ b) := by
  have h : 1 * 2 ^ b < 2 ^ 32 := by
    rw [Nat.one_mul]
    exact Nat.pow_lt_pow_right (by decide) (by omega)
  have := sw_shl (h := 1) (b := b) (by omega) h
  rw [Nat.one_mul] at this
  exact this
/-- a height read out of a row -/
theorem sw_get {n P i : Nat} (hn : n ≤ 5) (hP : P < 8 ^ n) : (nI P >>> (nI (3 * (n - 1 - i)) &&& 31)) &&& 7 = nI (sw_d n P i) := by
  have h8 := sw_8le hn
  have h2 : P / 2 ^ (3 * (n - 1 - i)) ≤ P := Nat.div_le_self _ _
  rw [sw_shr (by omega) (by omega), pk_andN (by omega) 3 (by decide)]
  unfold sw_d
  rw [sw_8]
theorem sw_p12 : ∀ e, e < 5 → 7 * 2 ^ (3 * e) < 2 ^ 31 := by decide
theorem sw_p13 {e h : Nat} (he : e < 5) (hh : h < 8) : h * 2 ^ (3 * e) < 2 ^ 31 := Nat.lt_of_le_of_lt (Nat.mul_le_mul_right _ (by omega)) (sw_p12 e he)
/-- a height put into a row -/
theorem sw_put {n P i h : Nat} (hn : n ≤ 5) (h1 : 0 < n) (hh : h < 8) : (nI P &&& ((7 : Int32) <<< (nI (3 * (n - 1 - i)) &&& 31) ^^^ (-1))) ||| nI h <<< (nI (3 * (n - 1 - i)) &&& 31) = nI (sw_w n P i h) := by
  have a := sw_p12 (n - 1 - i) (by omega)
  have b := sw_p13 (e := n - 1 - i) (h := h) (by omega) hh
  have e7 : (7 : Int32) <<< (nI (3 * (n - 1 - i)) &&& 31) = nI (7 * 2 ^ (3 * (n - 1 - i))) := sw_shl (h := 7) (by omega) (by omega)
  rw [e7, sw_shl (by omega) (by omega), show (-1 : Int32) = nI 4294967295 by decide, sw_xor, sw_and, sw_or]
  rfl
/-! the remainder -/
theorem sw_tm {x : Int} {n : Nat} (h1 : 1 ≤ n) (h5 : n ≤ 5) : (x.tmod n < 0 → x.tmod n + n = x % n) ∧ (¬ x.tmod n < 0 → x.tmod n = x % n) := by
  by_cases hx : 0 ≤ x
  · rw [Int.tmod_eq_emod_of_nonneg hx]
    have : n = 1 ∨ n = 2 ∨ n = 3 ∨ n = 4 ∨ n = 5 := by omega
    rcases this with rfl | rfl | rfl | rfl | rfl <;> constructor <;> intro h <;> omega
  · obtain ⟨y, rfl⟩ : ∃ y : Int, x = -y := ⟨-x, by omega⟩
    rw [Int.neg_tmod, Int.tmod_eq_emod_of_nonneg (by omega)]
    have : n = 1 ∨ n = 2 ∨ n = 3 ∨ n = 4 ∨ n = 5 := by omega
    rcases this with rfl | rfl | rfl | rfl | rfl <;> constructor <;> intro h <;> omega
theorem sw_em {x : Int} {n : Nat} (h1 : 1 ≤ n) (h5 : n ≤ 5) : 0 ≤ x % (n : Int) ∧ x % (n : Int) < n := ⟨Int.emod_nonneg _ (by omega), Int.emod_lt_of_pos _ (by omega)⟩
theorem sw_toInt {x : Int32} {m : Nat} (hm : m < 2 ^ 31) (h : x.toInt = m) : x = nI m := Int32.toInt_inj.mp (by rw [h, nI_toInt hm])
theorem sw_lt0 {x : Int32} : x < 0 ↔ x.toInt < 0 := by
  rw [Int32.lt_iff_toInt_lt]
  rfl
theorem sw_rn {x : Int32} {n : Nat} (h1 : 1 ≤ n) (h5 : n ≤ 5) : (x - x / nI n * nI n < 0 → x - x / nI n * nI n + nI n = nI (x.toInt % (n : Int)).toNat) ∧ (¬ x - x / nI n * nI n < 0 → x - x / nI n * nI n = nI (x.toInt % (n : Int)).toNat) := by
  have e := rem_toInt x (nI n)
  rw [nI_toInt (show n < 2 ^ 31 by omega)] at e
  have t := sw_tm (x := x.toInt) h1 h5
  have b := sw_em (x := x.toInt) h1 h5
  generalize x - x / nI n * nI n = r at *
  rw [sw_lt0, e]
  refine ⟨fun h => ?_, fun h => ?_⟩
  · have t1 := t.1 h
    apply sw_toInt (by omega)
    rw [Int32.toInt_add, e, nI_toInt (show n < 2 ^ 31 by omega), t1, Int.bmod_eq_of_le (by omega) (by omega)]
    omega
  · have t2 := t.2 h
    apply sw_toInt (by omega)
    rw [e, t2]
    omega
/-- the other program's: twice the remainder -/
theorem sw_rr {x : Int32} {n : Nat} (h1 : 1 ≤ n) (h5 : n ≤ 5) : (x - x / nI n * nI n + nI n) - (x - x / nI n * nI n + nI n) / nI n * nI n = nI (x.toInt % (n : Int)).toNat := by
  have e := rem_toInt x (nI n)
  rw [nI_toInt (show n < 2 ^ 31 by omega)] at e
  have t := sw_tm (x := x.toInt) h1 h5
  have b := sw_em (x := x.toInt) h1 h5
  by_cases h : x.toInt.tmod n < 0
  · have t1 := t.1 h
    have e2 : x - x / nI n * nI n + nI n = nI (x.toInt % (n : Int)).toNat := by
      apply sw_toInt (by omega)
      rw [Int32.toInt_add, e, nI_toInt (show n < 2 ^ 31 by omega), t1, Int.bmod_eq_of_le (by omega) (by omega)]
      omega
    rw [e2, pk_rem (by omega) (by omega) (by omega), Nat.mod_eq_of_lt (by omega)]
  · have t2 := t.2 h
    have e2 : x - x / nI n * nI n = nI (x.toInt % (n : Int)).toNat := by
      apply sw_toInt (by omega)
      rw [e, t2]
      omega
    rw [e2, nI_add, pk_rem (by omega) (by omega) (by omega), Nat.add_mod_right, Nat.mod_eq_of_lt (by omega)]
theorem sw_nat {a n : Nat} (hn : 0 < n) : ((a : Int) % (n : Int)).toNat = a % n := by
  rw [← Int.natCast_emod]
  rfl
end
section
/-! the component's own methods against the picture -/
theorem sx_32 {n : Nat} (h5 : n ≤ 5) : 2 ^ n ≤ 32 := Nat.pow_le_pow_right (n := 2) (by decide) h5
theorem sx_M31 {n P : Nat} (i : Nat) (h1 : 1 ≤ n) (h5 : n ≤ 5) : sw_M n P i < 2 ^ 31 := by
  have a := sw_M_lt (P := P) h1 i
  have b := sx_32 h5
  omega
theorem sx_b0 {M b : Nat} (hM : M < 2 ^ 31) (hb : b < 32) (h : M / 2 ^ b % 2 = 0) : (nI M >>> (nI b &&& 31)) &&& 1 = 0 := by
  rw [sw_bit hM hb, h]
  rfl
theorem sx_b1 {M b : Nat} (hM : M < 2 ^ 31) (hb : b < 32) (h : ¬ M / 2 ^ b % 2 = 0) : ¬ (nI M >>> (nI b &&& 31)) &&& 1 = 0 := by
  have e : M / 2 ^ b % 2 = 1 := by omega
  rw [sw_bit hM hb, e]
  decide
/-- out of range -/
def sx_bad (m : Nat) (p : Int32) : Prop := p < 0 ∨ (¬ p < 0 ∧ nI m ≤ p ∧ ¬ p < nI m)
theorem sx_cls (p : Int32) (m : Nat) (hm : m < 2 ^ 30) : sx_bad m p ∨ ∃ j : Nat, j < m ∧ p = nI j := by
  rcases pk_ix p (n := m) (by omega) with h | h | h
  · exact Or.inl (Or.inl h)
  · have h' := h
    rw [Int32.le_iff_toInt_le, nI_toInt (by omega)] at h'
    refine Or.inl (Or.inr ⟨?_, h, ?_⟩)
    · rw [sw_lt0]
      omega
    · rw [Int32.lt_iff_toInt_lt, nI_toInt (by omega)]
      omega
  · exact Or.inr h
theorem sx_bad_s {m : Nat} {p : Int32} (hm : m < 2 ^ 30) (h : nI (m + 1) ≤ p) : nI m < p ∧ ¬ p ≤ nI m := by
  rw [Int32.le_iff_toInt_le, nI_toInt (by omega)] at h
  rw [Int32.lt_iff_toInt_lt, Int32.le_iff_toInt_le, nI_toInt (by omega)]
  omega
theorem sx_isHeight_t {post : Int32 → Prop} {u : SX} {j : Nat} (hj : j < 8) (h : post 1) : wpX_isHeight post u (nI j) := by
  obtain ⟨u1, u2, u3⟩ := u
  unfold wpX_isHeight
  exact br_f (nI_pos (by omega)) (pk_lt 7 j (fun z => absurd z (by omega)) (fun _ => h))
theorem sx_isHeight_b {post : Int32 → Prop} {u : SX} {p : Int32} (hb : sx_bad 8 p) (h : post 0) : wpX_isHeight post u p := by
  obtain ⟨u1, u2, u3⟩ := u
  unfold wpX_isHeight
  rcases hb with z | ⟨z, z2, _⟩
  · exact br_t z h
  · exact br_f z (br_t (sx_bad_s (m := 7) (by decide) z2).1 h)
theorem sx_isBall_t {post : Int32 → Prop} {u : SX} {j : Nat} (hj : j < 8) (h : post 1) : wpX_isBallNumber post u (nI j) := by
  obtain ⟨u1, u2, u3⟩ := u
  unfold wpX_isBallNumber
  exact br_f (nI_pos (by omega)) (pk_lt 7 j (fun z => absurd z (by omega)) (fun _ => h))
theorem sx_isBall_b {post : Int32 → Prop} {u : SX} {p : Int32} (hb : sx_bad 8 p) (h : post 0) : wpX_isBallNumber post u p := by
  obtain ⟨u1, u2, u3⟩ := u
  unfold wpX_isBallNumber
  rcases hb with z | ⟨z, z2, _⟩
  · exact br_t z h
  · exact br_f z (br_t (sx_bad_s (m := 7) (by decide) z2).1 h)
theorem sx_isThrow_t {post : Int32 → Prop} {pat : Int32} {d : Nat → Int32} {n j : Nat} (h5 : n ≤ 5) (hj : j < n) (h : post 1) : wpX_isThrow post (pat, nI n, d) (nI j) := by
  unfold wpX_isThrow
  exact br_f (nI_pos (by omega)) (pk_le n j (fun z => absurd z (by omega)) (fun _ => h))
theorem sx_isThrow_b {post : Int32 → Prop} {pat : Int32} {d : Nat → Int32} {n : Nat} {p : Int32} (hb : sx_bad n p) (h : post 0) : wpX_isThrow post (pat, nI n, d) p := by
  unfold wpX_isThrow
  rcases hb with z | ⟨z, z2, _⟩
  · exact br_t z h
  · exact br_f z (br_t z2 h)
theorem sx_isSet_t {post : Int32 → Prop} {u : SX} {j : Nat} (hj : j < 128) (h : post 1) : wpX_isSet post u (nI j) := by
  obtain ⟨u1, u2, u3⟩ := u
  unfold wpX_isSet
  exact br_f (nI_pos (by omega)) (pk_le 128 j (fun z => absurd z (by omega)) (fun _ => h))
theorem sx_isSet_b {post : Int32 → Prop} {u : SX} {p : Int32} (hb : sx_bad 128 p) (h : post 0) : wpX_isSet post u p := by
  obtain ⟨u1, u2, u3⟩ := u
  unfold wpX_isSet
  rcases hb with z | ⟨z, z2, _⟩
  · exact br_t z h
  · exact br_f z (br_t z2 h)
theorem sx_sh {n i : Nat} (hi : i < n) : (3 : Int32) * (nI n - 1 - nI i) = nI (3 * (n - 1 - i)) := by
  have e1 : nI n - 1 = nI (n - 1) := pk_sub (a := n) (b := 1) (by omega)
  rw [e1, pk_sub (by omega)]
  exact pk_mul 3 (n - 1 - i)
theorem sx_shiftOf {post : Int32 → Prop} {pat : Int32} {d : Nat → Int32} {n i : Nat} (hi : i < n) (h : post (nI (3 * (n - 1 - i)))) : wpX_shiftOf post (pat, nI n, d) (nI i) := by
  unfold wpX_shiftOf
  exact ek_v (P := post) (sx_sh hi) h
theorem sx_heightIn {post : Int32 → Prop} {pat : Int32} {d : Nat → Int32} {n P i : Nat} (h5 : n ≤ 5) (hP : P < 8 ^ n) (hi : i < n) (h : post (nI (sw_d n P i))) : wpX_heightIn post (pat, nI n, d) (nI P) (nI i) := by
  unfold wpX_heightIn
  dsimp only
  refine sx_shiftOf hi ?_
  exact ek_v (P := post) (sw_get h5 hP) h
theorem sx_withHeight {post : Int32 → Prop} {pat : Int32} {d : Nat → Int32} {n P i h : Nat} (h5 : n ≤ 5) (hi : i < n) (hh : h < 8) (hp : post (nI (sw_w n P i h))) : wpX_withHeight post (pat, nI n, d) (nI P) (nI i) (nI h) := by
  unfold wpX_withHeight
  dsimp only
  refine sx_shiftOf hi ?_
  exact ek_v (P := post) (sw_put h5 (by omega) hh) hp
theorem sx_throwAt' {post : Int32 → Prop} {pat : Int32} {d : Nat → Int32} {n : Nat} {x : Int32} (h1 : 1 ≤ n) (h5 : n ≤ 5) (h : post (nI (x.toInt % (n : Int)).toNat)) : wpX_throwAt post (pat, nI n, d) x := by
  have r := sw_rn (x := x) h1 h5
  have hc : (1 : Int32) ≤ nI n := nI_le (a := 1) h1 (by omega)
  unfold wpX_throwAt
  dsimp only
  refine br_t hc ⟨nI_ne0 (by omega) (by omega), nm_e ?_⟩
  exact br_c (fun h0 => ek_v (P := post) (r.2 (Int32.not_lt.mpr h0)) h) (fun h0 => ek_v (P := post) (r.1 (Int32.not_le.mp h0)) h)
theorem sx_throwAt {post : Int32 → Prop} {pat : Int32} {d : Nat → Int32} {n m : Nat} (h1 : 1 ≤ n) (h5 : n ≤ 5) (hm : m < 2 ^ 31) (h : post (nI (m % n))) : wpX_throwAt post (pat, nI n, d) (nI m) := by
  refine sx_throwAt' h1 h5 ?_
  rw [nI_toInt hm, sw_nat h1]
  exact h
theorem sx_ap_l {post : Int32 → Prop} {pat : Int32} {d : Nat → Int32} {n P : Nat} (h1 : 1 ≤ n) (h5 : n ≤ 5) (hP : P < 8 ^ n) (ht : sw_J n P → post 1) (hf : ¬ sw_J n P → post 0) : ∀ k i, i + k = n → (∀ j, j < i → ∀ i', i' < j → ¬ sw_l n P i' = sw_l n P j) → wX_landsApart_4 post (nI P) pat (nI n) d (k + 1) (nI (sw_M n P i)) (nI i) := by
  intro k
  induction k with
  | zero =>
    intro i hi hp
    obtain rfl : i = n := by omega
    exact pk_le i i (fun _ => ht hp) (fun z => absurd z (by omega))
  | succ k ih =>
    intro i hi hp
    refine pk_le n i (fun z => absurd z (by omega)) (fun _ => ?_)
    refine sx_heightIn h5 hP (by omega) ?_
    have hd := sw_d_lt n P i
    refine nm_r (nI_add _ _) ?_
    refine sx_throwAt h1 h5 (by omega) ?_
    have hM := sx_M31 (P := P) i h1 h5
    have hl : (i + sw_d n P i) % n < n := sw_l_lt P i h1
    by_cases hb : sw_M n P i / 2 ^ ((i + sw_d n P i) % n) % 2 = 0
    · refine br_t (sx_b0 hM (by omega) hb) ?_
      refine nm_r (e' := nI (sw_M n P (i + 1))) ?_ ?_
      · rw [sw_one (by omega)]
        exact sw_or _ _
      refine nm_r (nI_1 i) ?_
      refine ih (i + 1) (by omega) ?_
      intro j hj i' hi' e
      by_cases ej : j = i
      · subst ej
        have z := sw_b1.mp hb
        have z' : (sw_M n P j).testBit ((j + sw_d n P j) % n) = true := (sw_M_bit n P _ j).mpr ⟨i', hi', e⟩
        rw [z] at z'
        exact Bool.noConfusion z'
      · exact hp j (by omega) i' hi' e
    · refine br_f (sx_b1 hM (by omega) hb) (hf fun hJ => ?_)
      have z : (sw_M n P i).testBit ((i + sw_d n P i) % n) = true := by
        cases hq : (sw_M n P i).testBit ((i + sw_d n P i) % n) with
        | false => exact absurd (sw_b1.mpr hq) hb
        | true => rfl
      obtain ⟨j, hj, e⟩ := (sw_M_bit n P _ i).mp z
      exact hJ i (by omega) j hj e
theorem sx_landsApart {post : Int32 → Prop} {pat : Int32} {d : Nat → Int32} {n P : Nat} (h1 : 1 ≤ n) (h5 : n ≤ 5) (hP : P < 8 ^ n) (ht : sw_J n P → post 1) (hf : ¬ sw_J n P → post 0) : wpX_landsApart post (pat, nI n, d) (nI P) := by
  unfold wpX_landsApart
  exact ⟨n + 1, sx_ap_l h1 h5 hP ht hf n 0 (by omega) (fun j hj => absurd hj (by omega))⟩
theorem sx_sum_l {post : Int32 → Prop} {pat : Int32} {d : Nat → Int32} {n P : Nat} (h5 : n ≤ 5) (hP : P < 8 ^ n) (h : post (nI (sw_S n P n))) : ∀ k i, i + k = n → wX_heightSum_4 post (nI P) pat (nI n) d (k + 1) (nI (sw_S n P i)) (nI i) := by
  intro k
  induction k with
  | zero =>
    intro i hi
    obtain rfl : i = n := by omega
    exact pk_le i i (fun _ => h) (fun z => absurd z (by omega))
  | succ k ih =>
    intro i hi
    refine pk_le n i (fun z => absurd z (by omega)) (fun _ => ?_)
    refine sx_heightIn h5 hP (by omega) ?_
    exact nm_r (nI_add _ _) (nm_r (nI_1 i) (ih (i + 1) (by omega)))
theorem sx_heightSum {post : Int32 → Prop} {pat : Int32} {d : Nat → Int32} {n P : Nat} (h5 : n ≤ 5) (hP : P < 8 ^ n) (h : post (nI (sw_S n P n))) : wpX_heightSum post (pat, nI n, d) (nI P) := by
  unfold wpX_heightSum
  exact ⟨n + 1, sx_sum_l h5 hP h n 0 (by omega)⟩
theorem sx_jw {post : Int32 → Prop} {pat : Int32} {d : Nat → Int32} {n P b : Nat} (h1 : 1 ≤ n) (h5 : n ≤ 5) (hP : P < 8 ^ n) (hb : b < 8) (ht : (sw_S n P n = b * n ∧ sw_J n P) → post 1) (hf : ¬ (sw_S n P n = b * n ∧ sw_J n P) → post 0) : wpX_isJugglableWith post (pat, nI n, d) (nI P) (nI b) := by
  unfold wpX_isJugglableWith
  dsimp only
  refine sx_heightSum h5 hP ?_
  have hS := sw_S_le n P n
  have hbn : b * n ≤ 7 * 5 := Nat.mul_le_mul (by omega) h5
  refine pk_eq (sw_S n P n) (b * n) (fun e => ?_) (fun e => hf fun z => e z.1) rfl (pk_mul b n)
  exact sx_landsApart h1 h5 hP (fun hJ => br_f (by decide) (ht ⟨e, hJ⟩)) (fun hJ => br_t rfl (hf fun z => hJ z.2))
end
section
/-! the component: states, balls, ways -/
theorem sx_throwAtE {post : Int32 → Prop} {pat : Int32} {d : Nat → Int32} {n m : Nat} {x : Int32} (h1 : 1 ≤ n) (h5 : n ≤ 5) (e : (x.toInt % (n : Int)).toNat = m) (h : post (nI m)) : wpX_throwAt post (pat, nI n, d) x := by
  refine sx_throwAt' h1 h5 ?_
  rw [e]
  exact h
theorem sx_throwAtM {post : Int32 → Prop} {pat : Int32} {d : Nat → Int32} {n m m' : Nat} (h1 : 1 ≤ n) (h5 : n ≤ 5) (hm : m < 2 ^ 31) (e : m % n = m') (h : post (nI m')) : wpX_throwAt post (pat, nI n, d) (nI m) := by
  refine sx_throwAt h1 h5 hm ?_
  rw [e]
  exact h
theorem sw_ix_lt {n : Nat} (t : Int) (k : Nat) (h1 : 1 ≤ n) (h5 : n ≤ 5) : sw_ix n t k < n := by
  have b := sw_em (x := t - (k : Int)) h1 h5
  unfold sw_ix
  omega
theorem sw_tsub {t : Int32} {j : Nat} (ht : -5000 ≤ t.toInt ∧ t.toInt ≤ 5000) (hj : j < 100) : (t - nI j).toInt = t.toInt - (j : Int) := by
  rw [Int32.toInt_sub, nI_toInt (by omega)]
  exact Int.bmod_eq_of_le (by omega) (by omega)
theorem sx_sb_l {post : Int32 → Prop} {d : Nat → Int32} {n P : Nat} {t : Int32} (h1 : 1 ≤ n) (h5 : n ≤ 5) (hP : P < 8 ^ n) (ht : -5000 ≤ t.toInt ∧ t.toInt ≤ 5000) (h : post (nI (sw_st n P t.toInt 7))) : ∀ k j, j + k = 7 → wX_stateBefore_4 post t (nI P) (nI n) d (k + 1) (nI (sw_st n P t.toInt j)) (nI (j + 1)) := by
  intro k
  induction k with
  | zero =>
    intro j hj
    obtain rfl : j = 7 := by omega
    exact pk_lt 7 8 (fun _ => h) (fun z => absurd z (by omega))
  | succ k ih =>
    intro j hj
    refine pk_lt 7 (j + 1) (fun z => absurd z (by omega)) (fun _ => ?_)
    have et := sw_tsub ht (show j + 1 < 100 by omega)
    refine sx_throwAtE (m := sw_ix n t.toInt (j + 1)) h1 h5 (by rw [et]; rfl) ?_
    refine sx_heightIn h5 hP (sw_ix_lt _ _ h1 h5) ?_
    have hd := sw_d_lt n P (sw_ix n t.toInt (j + 1))
    by_cases hD : j + 1 ≤ sw_d n P (sw_ix n t.toInt (j + 1))
    · have es : sw_st n P t.toInt (j + 1) = sw_st n P t.toInt j ||| 2 ^ (sw_d n P (sw_ix n t.toInt (j + 1)) - (j + 1)) := if_pos hD
      refine nm_r (pk_sub hD) ?_
      refine br_f (nI_pos (by omega)) ?_
      refine nm_r (e' := nI (sw_st n P t.toInt (j + 1))) ?_ ?_
      · rw [sw_one (by omega), es]
        exact sw_or _ _
      exact nm_r (nI_1 (j + 1)) (ih (j + 1) (by omega))
    · have es : sw_st n P t.toInt (j + 1) = sw_st n P t.toInt j := if_neg hD
      refine nm_e ?_
      refine br_t (pk_sneg (by omega) (by omega)) ?_
      refine nm_r (nI_1 (j + 1)) ?_
      have z := ih (j + 1) (by omega)
      rw [es] at z
      exact z
theorem sx_stateBefore {post : Int32 → Prop} {d : Nat → Int32} {n P : Nat} {t : Int32} (h1 : 1 ≤ n) (h5 : n ≤ 5) (hP : P < 8 ^ n) (ht : -5000 ≤ t.toInt ∧ t.toInt ≤ 5000) (h : post (nI (sw_st n P t.toInt 7))) : wpX_stateBefore post (nI P, nI n, d) t := by
  unfold wpX_stateBefore
  exact ⟨8, sx_sb_l h1 h5 hP ht h 7 0 rfl⟩
theorem sx_stateN {post : Int32 → Prop} {d : Nat → Int32} {n P i : Nat} (h1 : 1 ≤ n) (h5 : n ≤ 5) (hP : P < 8 ^ n) (hi : i < 100) (h : post (nI (sw_st n P (i : Int) 7))) : wpX_stateBefore post (nI P, nI n, d) (nI i) := by
  have e := nI_toInt (show i < 2 ^ 31 by omega)
  refine sx_stateBefore h1 h5 hP (by rw [e]; omega) ?_
  rw [e]
  exact h
theorem sx_bp_l {post : Int32 → Prop} {pat thr : Int32} {d : Nat → Int32} {s : Nat} (hs : s < 128) (h : post (nI (sw_mb s 7))) : ∀ k j, j + k = 7 → wX_ballsOfPattern_10 post (nI s) pat thr d (k + 1) (nI (sw_mb s j)) (nI j) := by
  intro k
  induction k with
  | zero =>
    intro j hj
    obtain rfl : j = 7 := by omega
    exact pk_le 7 7 (fun _ => h) (fun z => absurd z (by omega))
  | succ k ih =>
    intro j hj
    refine pk_le 7 j (fun z => absurd z (by omega)) (fun _ => ?_)
    refine nm_r (e' := nI (sw_mb s (j + 1))) ?_ ?_
    · rw [sw_bit (by omega) (by omega)]
      exact nI_add _ _
    exact nm_r (nI_1 j) (ih (j + 1) (by omega))
theorem sx_ballsOf {post : Int32 → Prop} {d : Nat → Int32} {n P : Nat} (h1 : 1 ≤ n) (h5 : n ≤ 5) (hP : P < 8 ^ n) (h : post (nI (sw_mb (sw_st n P 0 7) 7))) : wpX_ballsOfPattern post (nI P, nI n, d) := by
  unfold wpX_ballsOfPattern
  dsimp only
  refine sx_stateN (i := 0) h1 h5 hP (by decide) ?_
  exact ⟨8, sx_bp_l (sw_st_lt n P 0 7) h 7 0 rfl⟩
def sw_pr (n P : Nat) : Prop := ∀ i : Nat, i < n → ∀ j : Nat, j < i → ¬ sw_st n P (i : Int) 7 = sw_st n P (j : Int) 7
theorem sw_st31 (n P : Nat) (t : Int) : sw_st n P t 7 < 2 ^ 31 := Nat.lt_trans (sw_st_lt n P t 7) (by decide)
theorem sx_pr32 {post : Int32 → Prop} {J16 : Int32 → Prop} {d : Nat → Int32} {n P i : Nat} (h1 : 1 ≤ n) (h5 : n ≤ 5) (hP : P < 8 ^ n) (hi : i < n) (he : ∀ j : Nat, j < i → sw_st n P (i : Int) 7 = sw_st n P (j : Int) 7 → post 0) (hn : (∀ j : Nat, j < i → ¬ sw_st n P (i : Int) 7 = sw_st n P (j : Int) 7) → J16 (nI (i + 1))) : ∀ k j : Nat, j + k = i → (∀ j' : Nat, j' < j → ¬ sw_st n P (i : Int) 7 = sw_st n P (j' : Int) 7) → wX_prime_32 post J16 (nI i) (nI (sw_st n P (i : Int) 7)) (nI P) (nI n) d (k + 1) (nI j) := by
  intro k
  induction k with
  | zero =>
    intro j hj hq
    obtain rfl : j = i := by omega
    exact pk_le j j (fun _ => nm_r (nI_1 j) (hn hq)) (fun z => absurd z (by omega))
  | succ k ih =>
    intro j hj hq
    refine pk_le i j (fun z => absurd z (by omega)) (fun _ => ?_)
    refine sx_stateN h1 h5 hP (by omega) ?_
    refine pk_eq (sw_st n P (j : Int) 7) (sw_st n P (i : Int) 7) (fun e => he j (by omega) e.symm) (fun e => ?_) rfl rfl (sw_st31 _ _ _) (sw_st31 _ _ _)
    refine nm_r (nI_1 j) (ih (j + 1) (by omega) (fun j' hj' => ?_))
    by_cases ej : j' = j
    · rw [ej]
      exact fun z => e z.symm
    · exact hq j' (by omega)
theorem sx_pr16 {post : Int32 → Prop} {d : Nat → Int32} {n P : Nat} (h1 : 1 ≤ n) (h5 : n ≤ 5) (hP : P < 8 ^ n) (ht : sw_pr n P → post 1) (hf : ¬ sw_pr n P → post 0) : ∀ k i : Nat, i + k = n → (∀ i' : Nat, i' < i → ∀ j : Nat, j < i' → ¬ sw_st n P (i' : Int) 7 = sw_st n P (j : Int) 7) → wX_prime_16 post (nI P) (nI n) d (k + 1) (nI i) := by
  intro k
  induction k with
  | zero =>
    intro i hi hq
    obtain rfl : i = n := by omega
    exact pk_le i i (fun _ => ht hq) (fun z => absurd z (by omega))
  | succ k ih =>
    intro i hi hq
    refine pk_le n i (fun z => absurd z (by omega)) (fun _ => ?_)
    refine sx_stateN h1 h5 hP (by omega) ?_
    refine ⟨i + 1, sx_pr32 (J16 := wX_prime_16 post (nI P) (nI n) d (k + 1)) h1 h5 hP (by omega) (fun j hj e => hf fun z => z i (by omega) j hj e) (fun hne => ?_) i 0 (by omega) (fun j' hj' => absurd hj' (by omega))⟩
    refine ih (i + 1) (by omega) (fun i' hi' => ?_)
    by_cases ei : i' = i
    · rw [ei]
      exact hne
    · exact hq i' (by omega)
theorem sx_per_l {post : Int32 → Prop} {d : Nat → Int32} {n P i K : Nat} (h1 : 1 ≤ n) (h5 : n ≤ 5) (hP : P < 8 ^ n) (hi : i < n) (hK : K < n) (hit : sw_it n P i (K + 1) = i) (hl : ∀ j, j < K → ¬ sw_it n P i (j + 1) = i) (h : post (nI (sw_bt n P i (K + 1) - i))) : ∀ k j, j + k = K → wX_beatsUntilBackAt_4 post (nI i) (nI P) (nI n) d (k + 1) (nI (sw_bt n P i j)) (nI j) := by
  intro k
  induction k with
  | zero =>
    intro j hj
    obtain rfl : j = K := by omega
    have b1 := sw_bt_le (n := n) (P := P) (i := i) j
    have b2 := sw_bt_le (n := n) (P := P) (i := i) (j + 1)
    refine pk_le n j (fun z => absurd z (by omega)) (fun _ => ?_)
    refine sx_throwAtM h1 h5 (by omega) (sw_bt_mod hi j) ?_
    refine sx_heightIn h5 hP (sw_it_lt hi j) ?_
    refine nm_r (e' := nI (sw_bt n P i (j + 1))) (nI_add _ _) ?_
    refine sx_throwAtM h1 h5 (by omega) (sw_bt_mod hi (j + 1)) ?_
    exact br_t (congrArg nI hit) (ek_v (P := post) (pk_sub b2.1) h)
  | succ k ih =>
    intro j hj
    have b1 := sw_bt_le (n := n) (P := P) (i := i) j
    have b2 := sw_bt_le (n := n) (P := P) (i := i) (j + 1)
    have b3 := sw_it_lt (P := P) hi (j + 1)
    refine pk_le n j (fun z => absurd z (by omega)) (fun _ => ?_)
    refine sx_throwAtM h1 h5 (by omega) (sw_bt_mod hi j) ?_
    refine sx_heightIn h5 hP (sw_it_lt hi j) ?_
    refine nm_r (e' := nI (sw_bt n P i (j + 1))) (nI_add _ _) ?_
    refine sx_throwAtM h1 h5 (by omega) (sw_bt_mod hi (j + 1)) ?_
    refine pk_eq (sw_it n P i (j + 1)) i (fun e => absurd e (hl j (by omega))) (fun _ => ?_)
    exact nm_r (nI_1 j) (ih (j + 1) (by omega))
theorem sx_beats {post : Int32 → Prop} {d : Nat → Int32} {n P i K : Nat} (h1 : 1 ≤ n) (h5 : n ≤ 5) (hP : P < 8 ^ n) (hi : i < n) (hK : K < n) (hit : sw_it n P i (K + 1) = i) (hl : ∀ j, j < K → ¬ sw_it n P i (j + 1) = i) (h : post (nI (sw_bt n P i (K + 1) - i))) : wpX_beatsUntilBackAt post (nI P, nI n, d) (nI i) := by
  unfold wpX_beatsUntilBackAt
  exact ⟨K + 1, sx_per_l h1 h5 hP hi hK hit hl h K 0 (by omega)⟩
theorem sx_tb_l {post : Int32 → Prop} {d : Nat → Int32} {n P i : Nat} (h1 : 1 ≤ n) (h5 : n ≤ 5) (hP : P < 8 ^ n) (hi : i < n) (h : post (nI (sw_tb n P i n))) : ∀ k j, j + k = n → wX_throwsOfBall_7 post (nI P) (nI n) d (k + 1) (nI (sw_tb n P i j)) (nI (sw_it n P i j)) (nI j) := by
  intro k
  induction k with
  | zero =>
    intro j hj
    obtain rfl : j = n := by omega
    exact pk_le j j (fun _ => h) (fun z => absurd z (by omega))
  | succ k ih =>
    intro j hj
    have b3 := sw_it_lt (P := P) hi j
    have hd := sw_d_lt n P (sw_it n P i j)
    refine pk_le n j (fun z => absurd z (by omega)) (fun _ => ?_)
    refine nm_r (e' := nI (sw_tb n P i (j + 1))) ?_ ?_
    · rw [sw_one (by omega)]
      exact sw_or _ _
    refine sx_heightIn h5 hP b3 ?_
    refine nm_r (nI_add _ _) ?_
    refine sx_throwAtM (m' := sw_it n P i (j + 1)) h1 h5 (by omega) rfl ?_
    exact nm_r (nI_1 j) (ih (j + 1) (by omega))
theorem sx_throwsOf {post : Int32 → Prop} {d : Nat → Int32} {n P i : Nat} (h1 : 1 ≤ n) (h5 : n ≤ 5) (hP : P < 8 ^ n) (hi : i < n) (h : post (nI (sw_tb n P i n))) : wpX_throwsOfBall post (nI P, nI n, d) (nI i) := by
  unfold wpX_throwsOfBall
  exact ⟨n + 1, sx_tb_l h1 h5 hP hi h n 0 (by omega)⟩
theorem sx_orb_l {post : Int32 → Prop} {d : Nat → Int32} {n P : Nat} (h1 : 1 ≤ n) (h5 : n ≤ 5) (hP : P < 8 ^ n) (h : post (nI (sw_ox n P n).1)) : ∀ k i, i + k = n → wX_orbits_20 post (nI P) (nI n) d (k + 1) (nI (sw_ox n P i).1) (nI (sw_ox n P i).2) (nI i) := by
  intro k
  induction k with
  | zero =>
    intro i hi
    obtain rfl : i = n := by omega
    exact pk_le i i (fun _ => h) (fun z => absurd z (by omega))
  | succ k ih =>
    intro i hi
    have ho := sw_ox_lt (P := P) h1 i (by omega)
    have h32 := sx_32 h5
    have hd := sw_d_lt n P i
    have z := ih (i + 1) (by omega)
    refine pk_le n i (fun z => absurd z (by omega)) (fun _ => ?_)
    refine sx_heightIn h5 hP (by omega) ?_
    by_cases hc : sw_d n P i ≠ 0 ∧ (sw_ox n P i).2 / 2 ^ i % 2 = 0
    · have eo : sw_ox n P (i + 1) = ((sw_ox n P i).1 + 1, (sw_ox n P i).2 ||| sw_tb n P i n) := if_pos hc
      rw [eo] at z
      refine br_f (nI_nle (Nat.pos_of_ne_zero hc.1) (by omega)) (br_t (sx_b0 (by omega) (by omega) hc.2) ?_)
      refine nm_r (nI_1 _) ?_
      refine sx_throwsOf h1 h5 hP (by omega) ?_
      exact nm_r (sw_or _ _) (nm_r (nI_1 i) z)
    · have eo : sw_ox n P (i + 1) = sw_ox n P i := if_neg hc
      rw [eo] at z
      by_cases h0 : sw_d n P i = 0
      · rw [h0]
        exact br_t (by decide) (nm_r (nI_1 i) z)
      · refine br_f (nI_nle (Nat.pos_of_ne_zero h0) (by omega)) (br_f (sx_b1 (by omega) (by omega) (fun w => hc ⟨h0, w⟩)) ?_)
        exact nm_r (nI_1 i) z
end
section
/-! the component: counting, loading, writing -/
theorem sx_cb_l {post : Int32 → Prop} {pat : Int32} {d : Nat → Int32} {n b E : Nat} (h1 : 1 ≤ n) (h5 : n ≤ 5) (hb : b < 8) (hE : E ≤ 8 ^ n) (h : post (nI (sw_C n b E))) : ∀ k x, x + k = E → wX_countBelow_5 post (nI E) (nI b) pat (nI n) d (k + 1) (nI (sw_C n b x)) (nI x) := by
  have h8 := sw_8le h5
  intro k
  induction k with
  | zero =>
    intro x hx
    obtain rfl : x = E := by omega
    exact pk_le x x (fun _ => h) (fun z => absurd z (by omega))
  | succ k ih =>
    intro x hx
    refine pk_le E x (fun z => absurd z (by omega)) (fun _ => ?_)
    have z := ih (x + 1) (by omega)
    refine sx_jw h1 h5 (by omega) hb (fun g => ?_) (fun g => ?_)
    · rw [sw_C_t g] at z
      exact br_f (by decide) (nm_r (nI_1 _) (nm_r (nI_1 x) z))
    · rw [sw_C_f g] at z
      exact br_t rfl (nm_r (nI_1 x) z)
theorem sx_countBelow {post : Int32 → Prop} {pat : Int32} {d : Nat → Int32} {n b E : Nat} (h1 : 1 ≤ n) (h5 : n ≤ 5) (hb : b < 8) (hE : E ≤ 8 ^ n) (h : post (nI (sw_C n b E))) : wpX_countBelow post (pat, nI n, d) (nI E) (nI b) := by
  unfold wpX_countBelow
  exact ⟨E + 1, sx_cb_l h1 h5 hb hE h E 0 (by omega)⟩
theorem sx_end {n : Nat} (h5 : n ≤ 5) : (1 : Int32) <<< (((3 : Int32) * nI n) &&& 31) = nI (8 ^ n) := by
  have e : (3 : Int32) * nI n = nI (3 * n) := pk_mul 3 n
  rw [e, sw_one (by omega), sw_8]
theorem sx_rowsEnd {post : Int32 → Prop} {pat : Int32} {d : Nat → Int32} {n : Nat} (h5 : n ≤ 5) (h : post (nI (8 ^ n))) : wpX_rowsEnd post (pat, nI n, d) := by
  unfold wpX_rowsEnd
  exact ek_v (P := post) (sx_end h5) h
theorem sx_ld_l {post : Int32 → SX → Prop} {pat kk : Int32} {d : Nat → Int32} {n b : Nat} (h1 : 1 ≤ n) (h5 : n ≤ 5) (hb : b < 8) (hF : ∀ R, R < 8 ^ n → sw_S n R n = b * n ∧ sw_J n R → nI (sw_C n b R) = kk → post 0 (nI R, nI n, d)) (hN : (∀ R, R < 8 ^ n → sw_S n R n = b * n ∧ sw_J n R → ¬ nI (sw_C n b R) = kk) → post (-4) (pat, nI n, d)) : ∀ k x, x + k = 8 ^ n → (∀ R, R < x → sw_S n R n = b * n ∧ sw_J n R → ¬ nI (sw_C n b R) = kk) → wX_load_21 post (nI b) kk (nI (8 ^ n)) pat (nI n) d (k + 1) (nI (sw_C n b x)) (nI x) := by
  have h8 := sw_8le h5
  intro k
  induction k with
  | zero =>
    intro x hx hq
    exact pk_le (8 ^ n) x (fun _ => hN (fun R hR => hq R (by omega))) (fun z => absurd z (by omega))
  | succ k ih =>
    intro x hx hq
    refine pk_le (8 ^ n) x (fun z => absurd z (by omega)) (fun _ => ?_)
    have z := ih (x + 1) (by omega)
    refine sx_jw h1 h5 (by omega) hb (fun g => ?_) (fun g => ?_)
    · rw [sw_C_t g] at z
      refine br_f (by decide) (br_c (fun e => hF x (by omega) g e) (fun e => ?_))
      refine nm_r (nI_1 _) (nm_r (nI_1 x) (z (fun R hR gR => ?_)))
      by_cases eR : R = x
      · rw [eR]
        exact e
      · exact hq R (by omega) gR
    · rw [sw_C_f g] at z
      refine br_t rfl (nm_r (nI_1 x) (z (fun R hR gR => ?_)))
      by_cases eR : R = x
      · rw [eR] at gR
        exact absurd gR g
      · exact hq R (by omega) gR
theorem sx_load {post : Int32 → SX → Prop} {pat kk : Int32} {d : Nat → Int32} {n b : Nat} (h1 : 1 ≤ n) (h5 : n ≤ 5) (hb : b < 8) (hF : ∀ R, R < 8 ^ n → sw_S n R n = b * n ∧ sw_J n R → nI (sw_C n b R) = kk → post 0 (nI R, nI n, d)) (hN : (∀ R, R < 8 ^ n → sw_S n R n = b * n ∧ sw_J n R → ¬ nI (sw_C n b R) = kk) → post (-4) (pat, nI n, d)) : wpX_load post (pat, nI n, d) (nI b) kk := by
  unfold wpX_load
  dsimp only
  refine sx_isBall_t hb (br_f (by decide) ?_)
  refine sx_rowsEnd h5 ?_
  exact ⟨8 ^ n + 1, sx_ld_l h1 h5 hb hF hN (8 ^ n) 0 (by omega) (fun R hR => absurd hR (by omega))⟩
/-! mirror -/
def sw_g (n P j : Nat) : Nat := (n - sw_l n P j) % n
theorem sw_g_lt {n P j : Nat} (h1 : 1 ≤ n) : sw_g n P j < n := Nat.mod_lt _ h1
theorem sw_g_inj {n P i j : Nat} (h1 : 1 ≤ n) (h5 : n ≤ 5) (hJ : sw_J n P) (hi : i < n) (hj : j < n) (e : sw_g n P i = sw_g n P j) : i = j := by
  have a := sw_l_lt P i h1
  have b := sw_l_lt P j h1
  have c : sw_l n P i = sw_l n P j := by
    unfold sw_g at e
    have : n = 1 ∨ n = 2 ∨ n = 3 ∨ n = 4 ∨ n = 5 := by omega
    generalize sw_l n P i = x at *
    generalize sw_l n P j = y at *
    rcases this with rfl | rfl | rfl | rfl | rfl <;> omega
  rcases Nat.lt_trichotomy i j with z | z | z
  · exact absurd c (hJ j hj i z)
  · exact z
  · exact absurd c.symm (hJ i hi j z)
theorem sw_g_surj {n P p : Nat} (h1 : 1 ≤ n) (h5 : n ≤ 5) (hJ : sw_J n P) (hp : p < n) : ∃ j, j < n ∧ sw_g n P j = p := by
  obtain ⟨j, hj, e⟩ := sw_surj h1 h5 hJ (show (n - p) % n < n from Nat.mod_lt _ h1)
  refine ⟨j, hj, ?_⟩
  unfold sw_g
  rw [e]
  have : n = 1 ∨ n = 2 ∨ n = 3 ∨ n = 4 ∨ n = 5 := by omega
  rcases this with rfl | rfl | rfl | rfl | rfl <;> omega
theorem sw_neg {m n : Nat} (h1 : 1 ≤ n) (h5 : n ≤ 5) : ((-(m : Int)) % (n : Int)).toNat = (n - m % n) % n := by
  have : n = 1 ∨ n = 2 ∨ n = 3 ∨ n = 4 ∨ n = 5 := by omega
  rcases this with rfl | rfl | rfl | rfl | rfl <;> omega
theorem sw_negI {m : Nat} (hm : m < 1000) : (-(nI m)).toInt = -(m : Int) := by
  rw [Int32.toInt_neg, nI_toInt (by omega)]
  exact Int.bmod_eq_of_le (by omega) (by omega)
theorem sx_mir_l {post : Int32 → SX → Prop} {d : Nat → Int32} {n P : Nat} (h1 : 1 ≤ n) (h5 : n ≤ 5) (hP : P < 8 ^ n) (hJ : sw_J n P) (h : ∀ Q, Q < 8 ^ n → (∀ j, j < n → sw_d n Q (sw_g n P j) = sw_d n P j) → post 0 (nI Q, nI n, d)) : ∀ k i Q, i + k = n → Q < 8 ^ n → (∀ j, j < i → sw_d n Q (sw_g n P j) = sw_d n P j) → wX_mirror_18 post (nI P) (nI n) d (k + 1) (nI Q) (nI i) := by
  intro k
  induction k with
  | zero =>
    intro i Q hi hQ hq
    obtain rfl : i = n := by omega
    exact pk_le i i (fun _ => h Q hQ hq) (fun z => absurd z (by omega))
  | succ k ih =>
    intro i Q hi hQ hq
    have hd := sw_d_lt n P i
    have hg := sw_g_lt (P := P) (j := i) h1
    refine pk_le n i (fun z => absurd z (by omega)) (fun _ => ?_)
    refine sx_heightIn h5 hP (by omega) ?_
    refine sx_throwAtE (m := sw_g n P i) h1 h5 ?_ ?_
    · rw [nI_add, sw_negI (by omega), sw_neg h1 h5]
      rfl
    refine sx_withHeight h5 hg hd ?_
    refine nm_r (nI_1 i) (ih (i + 1) _ (by omega) (sw_w_lt h5 hg hQ hd) (fun j hj => ?_))
    by_cases ej : j = i
    · rw [ej]
      exact sw_w_d h5 hg hd
    · rw [sw_w_n h5 hg (sw_g_lt h1) hd (fun z => ej (sw_g_inj h1 h5 hJ (by omega) (by omega) z))]
      exact hq j (by omega)
theorem sx_mirror {post : Int32 → SX → Prop} {d : Nat → Int32} {n P : Nat} (h1 : 1 ≤ n) (h5 : n ≤ 5) (hP : P < 8 ^ n) (hJ : sw_J n P) (h : ∀ Q, Q < 8 ^ n → (∀ j, j < n → sw_d n Q (sw_g n P j) = sw_d n P j) → post 0 (nI Q, nI n, d)) : wpX_mirror post (nI P, nI n, d) := by
  unfold wpX_mirror
  dsimp only
  refine sx_landsApart h1 h5 hP (fun _ => br_f (by decide) ?_) (fun z => absurd hJ z)
  exact ⟨n + 1, sx_mir_l h1 h5 hP hJ h n 0 0 (by omega) (Nat.pow_pos (by decide)) (fun j hj => absurd hj (by omega))⟩
/-! put, drop, set, swap, turn -/
theorem sw_or8 {A h : Nat} (hh : h < 8) : A * 8 ||| h = A * 8 + h := by
  have e := Nat.two_pow_add_eq_or_of_lt (i := 3) hh A
  rw [show 2 ^ 3 * A = A * 8 by omega] at e
  exact e.symm
theorem sx_app {A h : Nat} (hA : A < 32768) (hh : h < 8) : (nI A <<< ((3 : Int32) &&& 31)) ||| nI h = nI (A * 8 + h) := by
  rw [pk_shlN ((3 : Int32) &&& 31) 3 (by decide) (by omega), sw_or, show A * 2 ^ 3 = A * 8 by omega, sw_or8 hh]
theorem sx_put {post : Int32 → SX → Prop} {d : Nat → Int32} {n P j : Nat} (h5 : n ≤ 5) (hP : P < 8 ^ n) (hj : j < 8) (h4 : n < 5 → post (nI (n + 1)) (nI (P * 8 + j), nI (n + 1), d)) (hf : n = 5 → post (-2) (nI P, nI n, d)) : wpX_put post (nI P, nI n, d) (nI j) := by
  have h8 := sw_8le h5
  unfold wpX_put
  dsimp only
  refine sx_isHeight_t hj (br_f (by decide) ?_)
  refine pk_lt n 5 (fun z => ?_) (fun z => hf (by omega))
  exact nm_r (sx_app (by omega) hj) (nm_r (nI_1 n) (h4 z))
theorem sx_drop {post : Int32 → SX → Prop} {d : Nat → Int32} {n P : Nat} (h1 : 1 ≤ n) (h5 : n ≤ 5) (hP : P < 8 ^ n) (h2 : 1 < n → post (nI (P % 8)) (nI (P / 8), nI (n - 1), d)) (hf : n = 1 → post (-4) (nI P, nI n, d)) : wpX_drop post (nI P, nI n, d) := by
  have h8 := sw_8le h5
  unfold wpX_drop
  refine pk_lt 1 n (fun z => ?_) (fun z => hf (by omega))
  refine nm_r (e' := nI (P % 8)) (pk_andN (by omega) 3 (by decide)) ?_
  refine nm_r (e' := nI (P / 8)) (pk_shrN (by omega) _ 3 (by decide)) ?_
  exact nm_r (e' := nI (n - 1)) (pk_sub (a := n) (b := 1) h1) (h2 z)
theorem sx_set {post : Int32 → SX → Prop} {d : Nat → Int32} {n P i j : Nat} (h5 : n ≤ 5) (hP : P < 8 ^ n) (hi : i < n) (hj : j < 8) (h : post (nI (sw_d n P i)) (nI (sw_w n P i j), nI n, d)) : wpX_set post (nI P, nI n, d) (nI i) (nI j) := by
  unfold wpX_set
  dsimp only
  refine sx_isThrow_t h5 hi (br_f (by decide) ?_)
  refine sx_isHeight_t hj (br_f (by decide) ?_)
  refine sx_heightIn h5 hP hi ?_
  exact sx_withHeight h5 hi hj h
noncomputable def sw_jb (n P : Nat) : Int32 := @ite _ (sw_J n P) (Classical.propDecidable _) 1 0
theorem sw_jb_t {n P : Nat} (h : sw_J n P) : (1 : Int32) = sw_jb n P := (if_pos h).symm
theorem sw_jb_f {n P : Nat} (h : ¬ sw_J n P) : (0 : Int32) = sw_jb n P := (if_neg h).symm
def sw_sd (n P j q : Nat) (W : Nat) : Prop := W < 8 ^ n ∧ ∀ i, i < n → sw_d n W i = if i = q then sw_d n P j - 1 else if i = j then sw_d n P q + 1 else sw_d n P i
theorem sx_swap {post : Int32 → SX → Prop} {d : Nat → Int32} {n P j : Nat} (h1 : 1 ≤ n) (h5 : n ≤ 5) (hP : P < 8 ^ n) (hj : j < n) (hA : n = 1 ∨ sw_d n P ((j + 1) % n) = 7 ∨ sw_d n P j = 0 → post (-4) (nI P, nI n, d)) (hC : 1 < n → sw_d n P ((j + 1) % n) < 7 → 0 < sw_d n P j → ∀ W, sw_sd n P j ((j + 1) % n) W → post (sw_jb n W) (nI W, nI n, d)) : wpX_swap post (nI P, nI n, d) (nI j) := by
  have hd := sw_d_lt n P ((j + 1) % n)
  have hd2 := sw_d_lt n P j
  have hq : (j + 1) % n < n := Nat.mod_lt _ h1
  unfold wpX_swap
  dsimp only
  refine sx_isThrow_t h5 hj (br_f (by decide) ?_)
  refine pk_eq n 1 (fun e => hA (Or.inl e)) (fun e => ?_)
  rw [nI_1 j]
  refine sx_throwAt h1 h5 (by omega) ?_
  refine sx_heightIn h5 hP hq ?_
  refine nm_r (nI_1 _) ?_
  refine sx_heightIn h5 hP hj ?_
  by_cases c1 : sw_d n P ((j + 1) % n) = 7
  · refine nm_e ?_
    rw [c1]
    exact sx_isHeight_b (Or.inr ⟨by decide, by decide, by decide⟩) (br_t rfl (hA (Or.inr (Or.inl c1))))
  by_cases c2 : sw_d n P j = 0
  · refine nm_e ?_
    rw [c2]
    refine sx_isHeight_t (by omega) (br_f (by decide) ?_)
    exact sx_isHeight_b (Or.inl (by decide)) (br_t rfl (hA (Or.inr (Or.inr c2))))
  have hw1 := sw_w_lt (h := sw_d n P ((j + 1) % n) + 1) h5 hj hP (by omega)
  have hw2 := sw_w_lt (h := sw_d n P j - 1) h5 hq hw1 (by omega)
  refine nm_r (e' := nI (sw_d n P j - 1)) (pk_sub (a := sw_d n P j) (b := 1) (by omega)) ?_
  refine sx_isHeight_t (by omega) (br_f (by decide) ?_)
  refine sx_isHeight_t (by omega) (br_f (by decide) ?_)
  refine sx_withHeight h5 hj (by omega) ?_
  refine sx_withHeight h5 hq (by omega) ?_
  have hh := hC (by omega) (by omega) (by omega) _ ⟨hw2, fun i hi => ?_⟩
  · exact sx_landsApart h1 h5 hw2 (fun hJ => br_f (by decide) (ek_v (P := fun r => post r _) (sw_jb_t hJ) hh)) (fun hJ => br_t rfl (ek_v (P := fun r => post r _) (sw_jb_f hJ) hh))
  · by_cases z : i = (j + 1) % n
    · rw [if_pos z, z]
      exact sw_w_d h5 hq (by omega)
    · rw [if_neg z, sw_w_n h5 hq hi (by omega) z]
      by_cases z2 : i = j
      · rw [if_pos z2, z2]
        exact sw_w_d h5 hj (by omega)
      · rw [if_neg z2, sw_w_n h5 hj hi (by omega) z2]
theorem sx_turn {post : Int32 → SX → Prop} {d : Nat → Int32} {n P : Nat} (h1 : 1 ≤ n) (h5 : n ≤ 5) (hP : P < 8 ^ n) (h : post (nI (sw_d n P 0)) (nI (sw_w n P 0 0 * 8 + sw_d n P 0), nI n, d)) : wpX_turn post (nI P, nI n, d) := by
  have hw := sw_t_lt h5 h1 hP
  have h8 := sw_8le (show n - 1 ≤ 5 by omega)
  unfold wpX_turn
  dsimp only
  refine sx_heightIn (i := 0) h5 hP h1 ?_
  refine sx_withHeight (i := 0) (h := 0) h5 h1 (by decide) ?_
  exact nm_r (sx_app (by omega) (sw_d_lt n P 0)) h
end
section
/-! the reference's own methods against the picture -/
theorem sy_noHeight_t {post : Int32 → Prop} {v : SY} {j : Nat} (hj : j < 8) (h : post 0) : wpY_noHeight post v (nI j) := by
  obtain ⟨v1, v2, v3, v4, v5⟩ := v
  unfold wpY_noHeight
  exact br_f (nI_pos (by omega)) (pk_le j 7 (fun _ => h) (fun z => absurd z (by omega)))
theorem sy_noHeight_b {post : Int32 → Prop} {v : SY} {p : Int32} (hb : sx_bad 8 p) (h : post 1) : wpY_noHeight post v p := by
  obtain ⟨v1, v2, v3, v4, v5⟩ := v
  unfold wpY_noHeight
  rcases hb with z | ⟨z, z2, _⟩
  · exact br_t z h
  · exact br_f z (br_f (sx_bad_s (m := 7) (by decide) z2).2 h)
theorem sy_noBalls_t {post : Int32 → Prop} {v : SY} {j : Nat} (hj : j < 8) (h : post 0) : wpY_noBalls post v (nI j) := by
  obtain ⟨v1, v2, v3, v4, v5⟩ := v
  unfold wpY_noBalls
  exact br_f (nI_pos (by omega)) (pk_le j 7 (fun _ => h) (fun z => absurd z (by omega)))
theorem sy_noBalls_b {post : Int32 → Prop} {v : SY} {p : Int32} (hb : sx_bad 8 p) (h : post 1) : wpY_noBalls post v p := by
  obtain ⟨v1, v2, v3, v4, v5⟩ := v
  unfold wpY_noBalls
  rcases hb with z | ⟨z, z2, _⟩
  · exact br_t z h
  · exact br_f z (br_f (sx_bad_s (m := 7) (by decide) z2).2 h)
theorem sy_noThrow_t {post : Int32 → Prop} {a o m f : Nat → Int32} {n j : Nat} (h5 : n ≤ 5) (hj : j < n) (h : post 0) : wpY_noThrow post (nI n, a, o, m, f) (nI j) := by
  unfold wpY_noThrow
  exact br_f (nI_pos (by omega)) (pk_lt j n (fun _ => h) (fun z => absurd z (by omega)))
theorem sy_noThrow_b {post : Int32 → Prop} {a o m f : Nat → Int32} {n : Nat} {p : Int32} (hb : sx_bad n p) (h : post 1) : wpY_noThrow post (nI n, a, o, m, f) p := by
  unfold wpY_noThrow
  rcases hb with z | ⟨z, _, z2⟩
  · exact br_t z h
  · exact br_f z (br_f z2 h)
/-- an array holds a row -/
def sy_A (n P : Nat) (a : Nat → Int32) : Prop := ∀ i, i < n → a i = nI (sw_d n P i)
theorem sy_at {a : Nat → Int32} {n P i : Nat} (ha : sy_A n P a) (h5 : n ≤ 5) (hi : i < n) : a (nI i).toNatClampNeg = nI (sw_d n P i) := by
  rw [nI_clamp (by omega)]
  exact ha i hi
theorem sy_rm {a : Nat → Int32} {n P i : Nat} (ha : sy_A n P a) (h5 : n ≤ 5) (hi : i < n) : nI i + a (nI i).toNatClampNeg - (nI i + a (nI i).toNatClampNeg) / nI n * nI n = nI (sw_l n P i) := by
  have hd := sw_d_lt n P i
  rw [sy_at ha h5 hi, nI_add, pk_rem (by omega) (by omega) (by omega)]
  rfl
theorem sy_in {i : Nat} (hi : i < 5) : vp_in (nI i) 5 := vp_in_nI hi (by decide)
theorem sy_n0 {n : Nat} (h1 : 1 ≤ n) (h5 : n ≤ 5) : ¬ nI n = 0 := nI_ne0 h1 (by omega)
theorem sy_ij_l {post : Int32 → Prop} {a o m f : Nat → Int32} {n P : Nat} (h1 : 1 ≤ n) (h5 : n ≤ 5) (ha : sy_A n P a) (ht : sw_J n P → post 1) (hf : ¬ sw_J n P → post 0) : ∀ k i, i + k = n → wY_isJugglable_4 post (nI n) a o m f (k + 1) (nI (sw_M n P i)) (nI i) := by
  intro k
  induction k with
  | zero =>
    intro i hi
    obtain rfl : i = n := by omega
    have h32 := sx_32 h5
    have e : (1 : Int32) <<< (nI i &&& 31) - 1 = nI (2 ^ i - 1) := by
      rw [sw_one (by omega)]
      exact pk_sub (a := 2 ^ i) (b := 1) (Nat.two_pow_pos i)
    refine pk_le i i (fun _ => ?_) (fun z => absurd z (by omega))
    exact pk_eq (sw_M i P i) (2 ^ i - 1) (fun z => ht ((sw_full h1 h5).mp z)) (fun z => hf (fun hJ => z ((sw_full h1 h5).mpr hJ))) rfl e (sx_M31 i h1 h5) (by omega)
  | succ k ih =>
    intro i hi
    have hl := sw_l_lt P i h1
    refine pk_le n i (fun z => absurd z (by omega)) (fun _ => ?_)
    refine ⟨sy_in (by omega), sy_n0 h1 h5, nm_r (e' := nI (sw_M n P (i + 1))) ?_ (nm_r (nI_1 i) (ih (i + 1) (by omega)))⟩
    rw [sy_rm ha h5 (by omega), sw_one (by omega)]
    exact sw_or _ _
theorem sy_isJugglable {post : Int32 → Prop} {a o m f : Nat → Int32} {n P : Nat} (h1 : 1 ≤ n) (h5 : n ≤ 5) (ha : sy_A n P a) (ht : sw_J n P → post 1) (hf : ¬ sw_J n P → post 0) : wpY_isJugglable post (nI n, a, o, m, f) := by
  unfold wpY_isJugglable
  exact ⟨n + 1, sy_ij_l h1 h5 ha ht hf n 0 (by omega)⟩
theorem sy_jugglable {post : Int32 → Prop} {a o m f : Nat → Int32} {n P : Nat} (h1 : 1 ≤ n) (h5 : n ≤ 5) (ha : sy_A n P a) (h : post (sw_jb n P)) : wpY_jugglable post (nI n, a, o, m, f) := by
  unfold wpY_jugglable
  dsimp only
  exact sy_isJugglable h1 h5 ha (fun hJ => br_f (by decide) (ek_v (P := post) (sw_jb_t hJ) h)) (fun hJ => br_t rfl (ek_v (P := post) (sw_jb_f hJ) h))
theorem sy_mb_l {post : Int32 → Prop} {n a o m f} {s : Nat} (hs : s < 128) (h : post (nI (sw_mb s 7))) : ∀ k j, j + k = 7 → wY_members_4 post (nI s) n a o m f (k + 1) (nI (sw_mb s j)) (nI j) := by
  intro k
  induction k with
  | zero =>
    intro j hj
    obtain rfl : j = 7 := by omega
    exact pk_le 7 7 (fun _ => h) (fun z => absurd z (by omega))
  | succ k ih =>
    intro j hj
    refine pk_le 7 j (fun z => absurd z (by omega)) (fun _ => ?_)
    refine nm_r (e' := nI (sw_mb s (j + 1))) ?_ ?_
    · rw [sw_bit (by omega) (by omega)]
      exact nI_add _ _
    exact nm_r (nI_1 j) (ih (j + 1) (by omega))
theorem sy_members {post : Int32 → Prop} {n a o m f} {s : Nat} (hs : s < 128) (h : post (nI (sw_mb s 7))) : wpY_members post (n, a, o, m, f) (nI s) := by
  unfold wpY_members
  exact ⟨8, sy_mb_l hs h 7 0 rfl⟩
theorem sy_sb_l {post : Int32 → Prop} {a o m f : Nat → Int32} {n P : Nat} {t : Int32} (h1 : 1 ≤ n) (h5 : n ≤ 5) (ha : sy_A n P a) (ht : -5000 ≤ t.toInt ∧ t.toInt ≤ 5000) (h : post (nI (sw_st n P t.toInt 7))) : ∀ k j, j + k = 7 → wY_stateBefore_4 post t (nI n) a o m f (k + 1) (nI (sw_st n P t.toInt j)) (nI (j + 1)) := by
  intro k
  induction k with
  | zero =>
    intro j hj
    obtain rfl : j = 7 := by omega
    exact pk_lt 7 8 (fun _ => h) (fun z => absurd z (by omega))
  | succ k ih =>
    intro j hj
    refine pk_lt 7 (j + 1) (fun z => absurd z (by omega)) (fun _ => ?_)
    have et := sw_tsub ht (show j + 1 < 100 by omega)
    have hx := sw_ix_lt t.toInt (j + 1) h1 h5
    have hd := sw_d_lt n P (sw_ix n t.toInt (j + 1))
    have eh := sy_at ha h5 hx
    have z := ih (j + 1) (by omega)
    refine nm_e ⟨sy_n0 h1 h5, sy_n0 h1 h5, nm_r (e' := nI (sw_ix n t.toInt (j + 1))) ?_ ⟨sy_in (by omega), ?_⟩⟩
    · rw [sw_rr h1 h5, et]
      rfl
    by_cases hD : j + 1 ≤ sw_d n P (sw_ix n t.toInt (j + 1))
    · have es : sw_st n P t.toInt (j + 1) = sw_st n P t.toInt j ||| 2 ^ (sw_d n P (sw_ix n t.toInt (j + 1)) - (j + 1)) := if_pos hD
      refine nm_r (e' := nI (sw_d n P (sw_ix n t.toInt (j + 1)) - (j + 1))) (by rw [eh]; exact pk_sub hD) ⟨sy_in (by omega), br_f (by rw [eh]; exact nI_nle (by omega) (by omega)) (br_f (nI_pos (by omega)) ?_)⟩
      refine nm_r (e' := nI (sw_st n P t.toInt (j + 1))) ?_ (nm_r (nI_1 (j + 1)) z)
      rw [sw_one (by omega), es]
      exact sw_or _ _
    · have es : sw_st n P t.toInt (j + 1) = sw_st n P t.toInt j := if_neg hD
      rw [es] at z
      refine nm_r (e' := nI (sw_d n P (sw_ix n t.toInt (j + 1))) - nI (j + 1)) (by rw [eh]) ⟨sy_in (by omega), ?_⟩
      by_cases h0 : sw_d n P (sw_ix n t.toInt (j + 1)) = 0
      · exact br_t (by rw [eh, h0]; decide) (nm_r (nI_1 (j + 1)) z)
      · exact br_f (by rw [eh]; exact nI_nle (by omega) (by omega)) (br_t (pk_sneg (by omega) (by omega)) (nm_r (nI_1 (j + 1)) z))
theorem sy_stateBefore {post : Int32 → Prop} {a o m f : Nat → Int32} {n P : Nat} {t : Int32} (h1 : 1 ≤ n) (h5 : n ≤ 5) (ha : sy_A n P a) (ht : -5000 ≤ t.toInt ∧ t.toInt ≤ 5000) (h : post (nI (sw_st n P t.toInt 7))) : wpY_stateBefore post (nI n, a, o, m, f) t := by
  unfold wpY_stateBefore
  exact ⟨8, sy_sb_l h1 h5 ha ht h 7 0 rfl⟩
theorem sy_stateN {post : Int32 → Prop} {a o m f : Nat → Int32} {n P i : Nat} (h1 : 1 ≤ n) (h5 : n ≤ 5) (ha : sy_A n P a) (hi : i < 100) (h : post (nI (sw_st n P (i : Int) 7))) : wpY_stateBefore post (nI n, a, o, m, f) (nI i) := by
  have e := nI_toInt (show i < 2 ^ 31 by omega)
  refine sy_stateBefore h1 h5 ha (by rw [e]; omega) ?_
  rw [e]
  exact h
theorem sy_balls {post : Int32 → Prop} {a o m f : Nat → Int32} {n P : Nat} (h1 : 1 ≤ n) (h5 : n ≤ 5) (ha : sy_A n P a) (ht : sw_J n P → post (nI (sw_mb (sw_st n P 0 7) 7))) (hf : ¬ sw_J n P → post (-4)) : wpY_balls post (nI n, a, o, m, f) := by
  unfold wpY_balls
  dsimp only
  refine sy_isJugglable h1 h5 ha (fun hJ => br_f (by decide) ?_) (fun hJ => br_t rfl (hf hJ))
  refine sy_stateN (i := 0) h1 h5 ha (by decide) ?_
  exact sy_members (sw_st_lt n P 0 7) (ht hJ)
theorem sy_pr22 {post : Int32 → Prop} {J12 : Int32 → Prop} {a o m f : Nat → Int32} {n P i : Nat} (h1 : 1 ≤ n) (h5 : n ≤ 5) (ha : sy_A n P a) (hi : i < n) (he : ∀ j : Nat, j < i → sw_st n P (i : Int) 7 = sw_st n P (j : Int) 7 → post 0) (hn : (∀ j : Nat, j < i → ¬ sw_st n P (i : Int) 7 = sw_st n P (j : Int) 7) → J12 (nI (i + 1))) : ∀ k j : Nat, j + k = i → (∀ j' : Nat, j' < j → ¬ sw_st n P (i : Int) 7 = sw_st n P (j' : Int) 7) → wY_prime_22 post J12 (nI i) (nI n) a o m f (k + 1) (nI j) := by
  intro k
  induction k with
  | zero =>
    intro j hj hq
    obtain rfl : j = i := by omega
    exact pk_le j j (fun _ => nm_r (nI_1 j) (hn hq)) (fun z => absurd z (by omega))
  | succ k ih =>
    intro j hj hq
    refine pk_le i j (fun z => absurd z (by omega)) (fun _ => ?_)
    refine sy_stateN h1 h5 ha (by omega) ?_
    refine sy_stateN h1 h5 ha (by omega) ?_
    refine pk_eq (sw_st n P (i : Int) 7) (sw_st n P (j : Int) 7) (fun e => he j (by omega) e) (fun e => ?_) rfl rfl (sw_st31 _ _ _) (sw_st31 _ _ _)
    refine nm_r (nI_1 j) (ih (j + 1) (by omega) (fun j' hj' => ?_))
    by_cases ej : j' = j
    · rw [ej]
      exact e
    · exact hq j' (by omega)
theorem sy_pr12 {post : Int32 → Prop} {a o m f : Nat → Int32} {n P : Nat} (h1 : 1 ≤ n) (h5 : n ≤ 5) (ha : sy_A n P a) (ht : sw_pr n P → post 1) (hf : ¬ sw_pr n P → post 0) : ∀ k i : Nat, i + k = n → (∀ i' : Nat, i' < i → ∀ j : Nat, j < i' → ¬ sw_st n P (i' : Int) 7 = sw_st n P (j : Int) 7) → wY_prime_12 post (nI n) a o m f (k + 1) (nI i) := by
  intro k
  induction k with
  | zero =>
    intro i hi hq
    obtain rfl : i = n := by omega
    exact pk_le i i (fun _ => ht hq) (fun z => absurd z (by omega))
  | succ k ih =>
    intro i hi hq
    refine pk_le n i (fun z => absurd z (by omega)) (fun _ => ?_)
    refine ⟨i + 1, sy_pr22 (J12 := wY_prime_12 post (nI n) a o m f (k + 1)) h1 h5 ha (by omega) (fun j hj e => hf fun z => z i (by omega) j hj e) (fun hne => ?_) i 0 (by omega) (fun j' hj' => absurd hj' (by omega))⟩
    refine ih (i + 1) (by omega) (fun i' hi' => ?_)
    by_cases ei : i' = i
    · rw [ei]
      exact hne
    · exact hq i' (by omega)
theorem sy_per_l {post : Int32 → Prop} {a o m f : Nat → Int32} {n P i K : Nat} (h1 : 1 ≤ n) (h5 : n ≤ 5) (ha : sy_A n P a) (hi : i < n) (hK : K < n) (hit : sw_it n P i (K + 1) = i) (hl : ∀ j, j < K → ¬ sw_it n P i (j + 1) = i) (h : post (nI (sw_bt n P i (K + 1) - i))) : ∀ k j, j + k = K → wY_period_38 post (nI i) (nI n) a o m f (k + 1) (nI (sw_bt n P i (j + 1))) := by
  intro k
  induction k with
  | zero =>
    intro j hj
    obtain rfl : j = K := by omega
    have b2 := sw_bt_le (n := n) (P := P) (i := i) (j + 1)
    have er : nI (sw_bt n P i (j + 1)) - nI (sw_bt n P i (j + 1)) / nI n * nI n = nI (sw_it n P i (j + 1)) := by
      rw [pk_rem (by omega) (by omega) (by omega), sw_bt_mod hi]
    refine ⟨sy_n0 h1 h5, ?_⟩
    exact br_t (by rw [er, hit]) (ek_v (P := post) (pk_sub b2.1) h)
  | succ k ih =>
    intro j hj
    have b2 := sw_bt_le (n := n) (P := P) (i := i) (j + 1)
    have b3 := sw_it_lt (P := P) hi (j + 1)
    have er : nI (sw_bt n P i (j + 1)) - nI (sw_bt n P i (j + 1)) / nI n * nI n = nI (sw_it n P i (j + 1)) := by
      rw [pk_rem (by omega) (by omega) (by omega), sw_bt_mod hi]
    refine ⟨sy_n0 h1 h5, ?_⟩
    refine pk_eq (sw_it n P i (j + 1)) i (fun e => absurd e (hl j (by omega))) (fun _ => ?_) er rfl
    refine ⟨sy_n0 h1 h5, by rw [er]; exact sy_in (by omega), nm_r (e' := nI (sw_bt n P i (j + 1 + 1))) ?_ (ih (j + 1) (by omega))⟩
    rw [er, sy_at ha h5 b3]
    exact nI_add _ _
theorem sy_o47 {post : Int32 → Prop} {J16 : Int32 → Int32 → Int32 → Prop} {many : Int32} {a o m f : Nat → Int32} {n P i : Nat} (h1 : 1 ≤ n) (h5 : n ≤ 5) (ha : sy_A n P a) {r : Nat} (hJ : J16 (nI r) many (nI (i + 1))) : ∀ K s c, sw_yw n P K s c = some r → s < 2 ^ n → c < n → wY_orbits_47 post J16 many (nI i) (nI n) a o m f K (nI s) (nI c) := by
  have h32 := sx_32 h5
  intro K
  induction K with
  | zero =>
    intro s c e _ _
    exact absurd (show none = some r from e) (by simp)
  | succ K ih =>
    intro s c e hs hc
    have e' : (if s / 2 ^ c % 2 = 0 then sw_yw n P K (s ||| 2 ^ c) (sw_l n P c) else some s) = some r := e
    by_cases hb : s / 2 ^ c % 2 = 0
    · rw [if_pos hb] at e'
      refine br_t (sx_b0 (by omega) (by omega) hb) ?_
      refine nm_r (e' := nI (s ||| 2 ^ c)) ?_ ⟨sy_in (by omega), sy_n0 h1 h5, nm_r (sy_rm ha h5 hc) (ih _ _ e' (sw_or_lt hs hc) (sw_l_lt P c h1))⟩
      rw [sw_one (by omega)]
      exact sw_or _ _
    · rw [if_neg hb] at e'
      obtain rfl : s = r := Option.some.inj e'
      exact br_f (sx_b1 (by omega) (by omega) hb) (nm_r (nI_1 i) hJ)
theorem sy_orb_l {post : Int32 → Prop} {a o m f : Nat → Int32} {n P : Nat} (h1 : 1 ≤ n) (h5 : n ≤ 5) (hP : P < 8 ^ n) (hJ : sw_J n P) (ha : sy_A n P a) (h : post (nI (sw_ox n P n).1)) : ∀ k i, i + k = n → wY_orbits_16 post (nI n) a o m f (k + 1) (nI (sw_ox n P i).2) (nI (sw_ox n P i).1) (nI i) := by
  intro k
  induction k with
  | zero =>
    intro i hi
    obtain rfl : i = n := by omega
    exact pk_le i i (fun _ => h) (fun z => absurd z (by omega))
  | succ k ih =>
    intro i hi
    have ho := sw_ox_lt (P := P) h1 i (by omega)
    have h32 := sx_32 h5
    have hd := sw_d_lt n P i
    have z := ih (i + 1) (by omega)
    have eh := sy_at ha h5 (show i < n by omega)
    refine pk_le n i (fun z => absurd z (by omega)) (fun _ => ?_)
    by_cases hc : sw_d n P i ≠ 0 ∧ (sw_ox n P i).2 / 2 ^ i % 2 = 0
    · have eo : sw_ox n P (i + 1) = ((sw_ox n P i).1 + 1, (sw_ox n P i).2 ||| sw_tb n P i n) := if_pos hc
      rw [eo] at z
      refine br_t (sx_b0 (by omega) (by omega) hc.2) ⟨sy_in (by omega), br_f (by rw [eh]; exact nI_nle (Nat.pos_of_ne_zero hc.1) (by omega)) ?_⟩
      refine nm_r (nI_1 _) ⟨7, ?_⟩
      exact sy_o47 (J16 := wY_orbits_16 post (nI n) a o m f (k + 1)) h1 h5 ha z 7 _ i (sw_orb_ok h1 h5 hP hJ (by omega) hc.1 hc.2) ho.2 (by omega)
    · have eo : sw_ox n P (i + 1) = sw_ox n P i := if_neg hc
      rw [eo] at z
      by_cases hb : (sw_ox n P i).2 / 2 ^ i % 2 = 0
      · have h0 : sw_d n P i = 0 := Classical.byContradiction (fun w => hc ⟨w, hb⟩)
        exact br_t (sx_b0 (by omega) (by omega) hb) ⟨sy_in (by omega), br_t (by rw [eh, h0]; decide) (nm_r (nI_1 i) z)⟩
      · exact br_f (sx_b1 (by omega) (by omega) hb) (nm_r (nI_1 i) z)
end
section
/-! the reference: what writes the row -/
theorem sy_put {post : Int32 → SY → Prop} {a o m f : Nat → Int32} {n P j : Nat} (h1 : 1 ≤ n) (h5 : n ≤ 5) (ha : sy_A n P a) (hj : j < 8) (h4 : n < 5 → ∀ a', sy_A (n + 1) (P * 8 + j) a' → post (nI (n + 1)) (nI (n + 1), a', o, m, f)) (hf : n = 5 → post (-2) (nI n, a, o, m, f)) : wpY_put post (nI n, a, o, m, f) (nI j) := by
  unfold wpY_put
  dsimp only
  refine sy_noHeight_t hj (br_t rfl ?_)
  refine pk_eq n 5 (fun z => hf z) (fun z => ⟨sy_in (by omega), ?_⟩)
  refine nm_r (e' := upd a n (nI j)) (by rw [nI_clamp (by omega)]) (nm_r (nI_1 n) (h4 (by omega) _ (fun i hi => ?_)))
  by_cases e : i = n
  · rw [e, pk_us, sw_d_last hj]
  · rw [pk_un e, sw_d_pre hj (by omega)]
    exact ha i (by omega)
theorem sy_drop {post : Int32 → SY → Prop} {a o m f : Nat → Int32} {n P : Nat} (h1 : 1 ≤ n) (h5 : n ≤ 5) (ha : sy_A n P a) (h2 : 1 < n → post (nI (P % 8)) (nI (n - 1), a, o, m, f)) (hf : n = 1 → post (-4) (nI n, a, o, m, f)) : wpY_drop post (nI n, a, o, m, f) := by
  unfold wpY_drop
  refine pk_eq n 1 (fun z => hf z) (fun z => ?_)
  refine nm_r (e' := nI (n - 1)) (pk_sub (a := n) (b := 1) h1) ⟨sy_in (by omega), ?_⟩
  refine ek_v (P := fun r => post r _) ?_ (h2 (by omega))
  rw [sy_at ha h5 (show n - 1 < n by omega)]
  unfold sw_d
  rw [show n - 1 - (n - 1) = 0 by omega, Nat.pow_zero, Nat.div_one]
theorem sy_drop_A {a : Nat → Int32} {n P : Nat} (h2 : 1 < n) (ha : sy_A n P a) : sy_A (n - 1) (P / 8) a := by
  obtain ⟨m, rfl⟩ : ∃ m, n = m + 1 := ⟨n - 1, by omega⟩
  intro i hi
  have z := ha i (by omega)
  rw [@sw_split P, sw_d_pre (by omega) (show i < m by omega)] at z
  exact z
theorem sy_set {post : Int32 → SY → Prop} {a o m f : Nat → Int32} {n P i j : Nat} (h5 : n ≤ 5) (ha : sy_A n P a) (hi : i < n) (hj : j < 8) (h : ∀ a', sy_A n (sw_w n P i j) a' → post (nI (sw_d n P i)) (nI n, a', o, m, f)) : wpY_set post (nI n, a, o, m, f) (nI i) (nI j) := by
  unfold wpY_set
  dsimp only
  refine sy_noThrow_t h5 hi (br_t rfl ?_)
  refine sy_noHeight_t hj (br_t rfl ⟨sy_in (by omega), nm_r (sy_at ha h5 hi) ⟨sy_in (by omega), ?_⟩⟩)
  refine nm_r (e' := upd a i (nI j)) (by rw [nI_clamp (by omega)]) (h _ (fun x hx => ?_))
  by_cases e : x = i
  · rw [e, pk_us, sw_w_d h5 hi hj]
  · rw [pk_un e, sw_w_n h5 hi hx hj e]
    exact ha x hx
theorem sy_swapA {post : Int32 → SY → Prop} {a o m f : Nat → Int32} {n P j : Nat} (h1 : 1 ≤ n) (h5 : n ≤ 5) (ha : sy_A n P a) (hj : j < n) (hA : n = 1 ∨ sw_d n P ((j + 1) % n) = 7 ∨ sw_d n P j = 0) (h : post (-4) (nI n, a, o, m, f)) : wpY_swap post (nI n, a, o, m, f) (nI j) := by
  have hd := sw_d_lt n P ((j + 1) % n)
  have hd2 := sw_d_lt n P j
  have hq : (j + 1) % n < n := Nat.mod_lt _ h1
  unfold wpY_swap
  dsimp only
  refine sy_noThrow_t h5 hj (br_t rfl ⟨sy_n0 h1 h5, ?_⟩)
  refine nm_r (e' := nI ((j + 1) % n)) (by rw [nI_1, pk_rem (by omega) (by omega) (by omega)]) ⟨sy_in (by omega), ?_⟩
  refine nm_r (e' := nI (sw_d n P ((j + 1) % n) + 1)) (by rw [sy_at ha h5 hq, nI_1]) ⟨sy_in (by omega), ?_⟩
  refine nm_r (e' := nI (sw_d n P j) - 1) (by rw [sy_at ha h5 hj]) ?_
  refine pk_eq n 1 (fun _ => h) (fun z => ?_)
  refine pk_lt 7 (sw_d n P ((j + 1) % n) + 1) (fun _ => h) (fun z2 => ?_)
  have c2 : sw_d n P j = 0 := by omega
  rw [c2]
  exact br_f (by decide) h
theorem sy_swapC {post : Int32 → SY → Prop} {a o m f : Nat → Int32} {n P j W : Nat} (h1 : 1 < n) (h5 : n ≤ 5) (ha : sy_A n P a) (hj : j < n) (c1 : sw_d n P ((j + 1) % n) < 7) (c2 : 0 < sw_d n P j) (hW : sw_sd n P j ((j + 1) % n) W) (h : ∀ a', sy_A n W a' → post (sw_jb n W) (nI n, a', o, m, f)) : wpY_swap post (nI n, a, o, m, f) (nI j) := by
  have hd := sw_d_lt n P ((j + 1) % n)
  have hd2 := sw_d_lt n P j
  have hq : (j + 1) % n < n := Nat.mod_lt _ (by omega)
  have hA : sy_A n W (upd (upd a j (nI (sw_d n P ((j + 1) % n) + 1))) ((j + 1) % n) (nI (sw_d n P j - 1))) := by
    intro i hi
    rw [hW.2 i hi]
    by_cases z : i = (j + 1) % n
    · rw [if_pos z, z, pk_us]
    · rw [if_neg z, pk_un z]
      by_cases z2 : i = j
      · rw [if_pos z2, z2, pk_us]
      · rw [if_neg z2, pk_un z2]
        exact ha i hi
  unfold wpY_swap
  dsimp only
  refine sy_noThrow_t h5 hj (br_t rfl ⟨sy_n0 (by omega) h5, ?_⟩)
  refine nm_r (e' := nI ((j + 1) % n)) (by rw [nI_1, pk_rem (by omega) (by omega) (by omega)]) ⟨sy_in (by omega), ?_⟩
  refine nm_r (e' := nI (sw_d n P ((j + 1) % n) + 1)) (by rw [sy_at ha h5 hq, nI_1]) ⟨sy_in (by omega), ?_⟩
  refine nm_r (e' := nI (sw_d n P j - 1)) (by rw [sy_at ha h5 hj]; exact pk_sub (a := sw_d n P j) (b := 1) c2) ?_
  refine pk_eq n 1 (fun z => absurd z (by omega)) (fun z => ?_)
  refine pk_lt 7 (sw_d n P ((j + 1) % n) + 1) (fun z => absurd z (by omega)) (fun z2 => ?_)
  refine br_t (nI_pos' (by omega)) ⟨sy_in (by omega), ?_⟩
  refine nm_r (e' := upd a j (nI (sw_d n P ((j + 1) % n) + 1))) (by rw [nI_clamp (by omega)]) ⟨sy_in (by omega), ?_⟩
  refine nm_r (e' := upd (upd a j (nI (sw_d n P ((j + 1) % n) + 1))) ((j + 1) % n) (nI (sw_d n P j - 1))) (by rw [nI_clamp (show (j + 1) % n < 2 ^ 31 by omega)]) ?_
  exact sy_jugglable (by omega) h5 hA (h _ hA)
theorem sy_turn_l {post : Int32 → SY → Prop} {o m f : Nat → Int32} {n P : Nat} (h1 : 1 ≤ n) (h5 : n ≤ 5) (h : ∀ a', (∀ j, j < n - 1 → a' j = nI (sw_d n P (j + 1))) → a' (n - 1) = nI (sw_d n P 0) → post (nI (sw_d n P 0)) (nI n, a', o, m, f)) : ∀ k i a', i + k = n - 1 → (∀ j, j < i → a' j = nI (sw_d n P (j + 1))) → (∀ j, i ≤ j → j < n → a' j = nI (sw_d n P j)) → wY_turn_9 post (nI (sw_d n P 0)) (nI n) (k + 1) (nI i) a' o m f := by
  have en : nI n - 1 = nI (n - 1) := pk_sub (a := n) (b := 1) h1
  intro k
  induction k with
  | zero =>
    intro i a' hi hq hr
    refine pk_le (n - 1) i (fun _ => ?_) (fun z => absurd z (by omega)) en rfl
    refine ⟨by rw [en]; exact sy_in (by omega), nm_r (e' := upd a' (n - 1) (nI (sw_d n P 0))) (by rw [en, nI_clamp (by omega)]) (h _ (fun j hj => ?_) pk_us)⟩
    rw [pk_un (by omega)]
    exact hq j (by omega)
  | succ k ih =>
    intro i a' hi hq hr
    refine pk_le (n - 1) i (fun z => absurd z (by omega)) (fun _ => ?_) en rfl
    refine ⟨by rw [nI_1]; exact sy_in (by omega), sy_in (by omega), nm_r (e' := upd a' i (nI (sw_d n P (i + 1)))) ?_ (nm_r (nI_1 i) (ih (i + 1) _ (by omega) (fun j hj => ?_) (fun j hj hn => ?_)))⟩
    · rw [nI_1, nI_clamp (by omega), nI_clamp (by omega), hr (i + 1) (by omega) (by omega)]
    · by_cases e : j = i
      · rw [e, pk_us]
      · rw [pk_un e]
        exact hq j (by omega)
    · rw [pk_un (by omega)]
      exact hr j (by omega) hn
theorem sy_turn {post : Int32 → SY → Prop} {a o m f : Nat → Int32} {n P : Nat} (h1 : 1 ≤ n) (h5 : n ≤ 5) (ha : sy_A n P a) (h : ∀ a', sy_A n (sw_w n P 0 0 * 8 + sw_d n P 0) a' → post (nI (sw_d n P 0)) (nI n, a', o, m, f)) : wpY_turn post (nI n, a, o, m, f) := by
  unfold wpY_turn
  refine nm_r (ha 0 h1) ⟨n - 1 + 1, sy_turn_l (P := P) h1 h5 (fun a' hq hl => h a' (fun i hi => ?_)) (n - 1) 0 a (by omega) (fun j hj => absurd hj (by omega)) (fun j _ hj => ha j hj)⟩
  by_cases e : i = n - 1
  · rw [e, hl, sw_t_l h1 (sw_d_lt n P 0)]
  · rw [sw_t_d h5 (sw_d_lt n P 0) (by omega)]
    exact hq i (by omega)
theorem sy_m64 {post : Int32 → SY → Prop} {o m f : Nat → Int32} {n : Nat} (h5 : n ≤ 5) (h : ∀ a', (∀ j, j < n → a' j = o j) → post 0 (nI n, a', o, m, f)) : ∀ k i a', i + k = n → (∀ j, j < i → a' j = o j) → wY_mirror_64 post (nI n) (k + 1) (nI i) a' o m f := by
  intro k
  induction k with
  | zero =>
    intro i a' hi hq
    obtain rfl : i = n := by omega
    exact pk_le i i (fun _ => h a' hq) (fun z => absurd z (by omega))
  | succ k ih =>
    intro i a' hi hq
    refine pk_le n i (fun z => absurd z (by omega)) (fun _ => ?_)
    refine ⟨sy_in (by omega), sy_in (by omega), nm_r (e' := upd a' i (o i)) (by rw [nI_clamp (by omega)]) (nm_r (nI_1 i) (ih (i + 1) _ (by omega) (fun j hj => ?_)))⟩
    by_cases e : j = i
    · rw [e, pk_us]
    · rw [pk_un e]
      exact hq j (by omega)
theorem sy_m12 {post : Int32 → SY → Prop} {a m f : Nat → Int32} {n P : Nat} (h1 : 1 ≤ n) (h5 : n ≤ 5) (hJ : sw_J n P) (ha : sy_A n P a) (h : ∀ a' o', (∀ j, j < n → a' (sw_g n P j) = nI (sw_d n P j)) → post 0 (nI n, a', o', m, f)) : ∀ k i o', i + k = n → (∀ j, j < i → o' (sw_g n P j) = nI (sw_d n P j)) → wY_mirror_12 post (nI n) (k + 1) (nI i) a o' m f := by
  intro k
  induction k with
  | zero =>
    intro i o' hi hq
    obtain rfl : i = n := by omega
    refine pk_le i i (fun _ => ?_) (fun z => absurd z (by omega))
    refine ⟨i + 1, sy_m64 h5 (fun a' hc => h a' o' (fun j hj => ?_)) i 0 a (by omega) (fun j hj => absurd hj (by omega))⟩
    rw [hc _ (sw_g_lt h1)]
    exact hq j hj
  | succ k ih =>
    intro i o' hi hq
    have hl := sw_l_lt P i h1
    have hg := sw_g_lt (P := P) (j := i) h1
    have eg : nI n - nI (sw_l n P i) - (nI n - nI (sw_l n P i)) / nI n * nI n = nI (sw_g n P i) := by
      rw [pk_sub (by omega), pk_rem (by omega) (by omega) (by omega)]
      rfl
    refine pk_le n i (fun z => absurd z (by omega)) (fun _ => ?_)
    refine ⟨sy_in (by omega), sy_n0 h1 h5, nm_r (sy_rm ha h5 (by omega)) ⟨sy_n0 h1 h5, sy_in (by omega), by rw [eg]; exact sy_in (by omega), ?_⟩⟩
    refine nm_r (e' := upd o' (sw_g n P i) (nI (sw_d n P i))) (by rw [eg, nI_clamp (by omega), sy_at ha h5 (by omega)]) (nm_r (nI_1 i) (ih (i + 1) _ (by omega) (fun j hj => ?_)))
    by_cases e : j = i
    · rw [e, pk_us]
    · rw [pk_un (fun z => e (sw_g_inj h1 h5 hJ (by omega) (by omega) z))]
      exact hq j (by omega)
theorem sy_mirror {post : Int32 → SY → Prop} {a o m f : Nat → Int32} {n P : Nat} (h1 : 1 ≤ n) (h5 : n ≤ 5) (hJ : sw_J n P) (ha : sy_A n P a) (h : ∀ a' o', (∀ j, j < n → a' (sw_g n P j) = nI (sw_d n P j)) → post 0 (nI n, a', o', m, f)) : wpY_mirror post (nI n, a, o, m, f) := by
  unfold wpY_mirror
  dsimp only
  refine sy_isJugglable h1 h5 ha (fun _ => br_f (by decide) ?_) (fun z => absurd hJ z)
  exact ⟨n + 1, sy_m12 h1 h5 hJ ha h n 0 o (by omega) (fun j hj => absurd hj (by omega))⟩
end
section
/-! the reference's search for the next row that lands apart -/
def sw_T (n i A e : Nat) : Nat := (A * 8 + e) * 8 ^ (n - i)
theorem sw_T_f {n i A h : Nat} (hi : i < n) : sw_T n (i + 1) (A * 8 + h) 0 = sw_T n i A h := by
  unfold sw_T
  rw [show n - i = (n - (i + 1)) + 1 by omega, Nat.pow_succ, Nat.add_zero, Nat.mul_assoc, Nat.mul_comm 8]
theorem sw_T_b {n i A : Nat} (hi : i < n) : sw_T n i (A / 8) (A % 8 + 1) = sw_T n (i + 1) A 8 := by
  unfold sw_T
  rw [show n - i = (n - (i + 1)) + 1 by omega, Nat.pow_succ, show A / 8 * 8 + (A % 8 + 1) = A + 1 by omega, show A * 8 + 8 = (A + 1) * 8 by omega, Nat.mul_assoc, Nat.mul_comm 8]
theorem sw_T_lt {n i A e Q : Nat} (hi : i < n) : 8 * Q < sw_T n i A e ↔ Q < (A * 8 + e) * 8 ^ (n - 1 - i) := by
  unfold sw_T
  rw [show n - i = (n - 1 - i) + 1 by omega, Nat.pow_succ, ← Nat.mul_assoc]
  generalize (A * 8 + e) * 8 ^ (n - 1 - i) = w
  omega
theorem sw_T_le {n i A e h : Nat} (he : e ≤ h) : sw_T n i A e ≤ sw_T n i A h := Nat.mul_le_mul_right _ (by omega)
/-- no row that lands apart from T0 up to where the search stands -/
def sw_no (n T0 t : Nat) : Prop := T0 * 8 ≤ t ∧ ∀ Q, T0 ≤ Q → 8 * Q < t → ¬ sw_J n Q
def sw_cc (n i A x : Nat) : Prop := ∃ j, j < i ∧ (j + sw_d i A j) % n = (i + x) % n
theorem sw_no_s {n i A e h T0 : Nat} (hi : i < n) (he : e ≤ h) (h8 : h ≤ 8) (hc : ∀ x, e ≤ x → x < h → sw_cc n i A x) (H : sw_no n T0 (sw_T n i A e)) : sw_no n T0 (sw_T n i A h) := by
  refine ⟨Nat.le_trans H.1 (sw_T_le he), fun Q h0 hQ => ?_⟩
  by_cases z : 8 * Q < sw_T n i A e
  · exact H.2 Q h0 z
  · rw [sw_T_lt hi] at hQ z
    exact sw_skip hi h8 hc (by omega) hQ
theorem sy_h26 {post : Int32 → Prop} {J11 : Int32 → Int32 → Prop} {a o m f : Nat → Int32} {n i A x : Nat} (h1 : 1 ≤ n) (h5 : n ≤ 5) (hi : i < n) (hx : x < 8) (ho : ∀ j, j < i → o j = nI (sw_d i A j)) (hno : ¬ sw_cc n i A x → J11 (nI x) 0) (hyes : sw_cc n i A x → J11 (nI (x + 1)) 1) : ∀ k j, j + k = i → ((∀ q, q < j → ¬ (q + sw_d i A q) % n = (i + x) % n) → wY_nextHeight_26 post J11 (nI i) (nI x) (nI n) a o m f (k + 1) 0 (nI j)) ∧ (sw_cc n i A x → wY_nextHeight_26 post J11 (nI i) (nI x) (nI n) a o m f (k + 1) 1 (nI j)) := by
  intro k
  induction k with
  | zero =>
    intro j hj
    obtain rfl : j = i := by omega
    constructor
    · intro hq
      refine pk_le j j (fun _ => br_t rfl (hno ?_)) (fun z => absurd z (by omega))
      intro ⟨q, hq1, hq2⟩
      exact hq q hq1 hq2
    · intro hc
      exact pk_le j j (fun _ => br_f (by decide) (nm_r (nI_1 x) (hyes hc))) (fun z => absurd z (by omega))
  | succ k ih =>
    intro j hj
    obtain ⟨ih0, ih1⟩ := ih (j + 1) (by omega)
    constructor
    · intro hq
      have hd := sw_d_lt i A j
      refine pk_le i j (fun z => absurd z (by omega)) (fun _ => ?_)
      refine br_t rfl ⟨sy_in (by omega), sy_n0 h1 h5, sy_n0 h1 h5, ?_⟩
      refine pk_eq ((j + sw_d i A j) % n) ((i + x) % n) (fun e => ?_) (fun e => ?_) ?_ ?_ (by have := Nat.mod_lt (j + sw_d i A j) h1; omega) (by have := Nat.mod_lt (i + x) h1; omega)
      · exact nm_r (nI_1 j) (ih1 ⟨j, by omega, e⟩)
      · refine nm_r (nI_1 j) (ih0 (fun q hq2 => ?_))
        by_cases eq : q = j
        · rw [eq]
          exact e
        · exact hq q (by omega)
      · rw [nI_clamp (by omega), ho j (by omega), nI_add, pk_rem (by omega) (by omega) (by omega)]
      · rw [nI_add, pk_rem (by omega) (by omega) (by omega)]
    · intro hc
      refine pk_le i j (fun z => absurd z (by omega)) (fun _ => ?_)
      exact br_f (by decide) (nm_r (nI_1 j) (ih1 hc))
theorem sy_h11 {post : Int32 → Prop} {a o m f : Nat → Int32} {n i A e : Nat} (h1 : 1 ≤ n) (h5 : n ≤ 5) (hi : i < n) (ho : ∀ j, j < i → o j = nI (sw_d i A j)) (H : ∀ h, e ≤ h → h ≤ 8 → (∀ x, e ≤ x → x < h → sw_cc n i A x) → (h < 8 → ¬ sw_cc n i A h) → post (nI h)) : ∀ k x, x + k = 8 → e ≤ x → (∀ y, e ≤ y → y < x → sw_cc n i A y) → wY_nextHeight_11 post (nI i) (nI n) a o m f (k + 2) (nI x) 1 := by
  intro k
  induction k with
  | zero =>
    intro x hx he hq
    refine br_f (by decide) (pk_le 8 x (fun _ => H x he (by omega) hq (fun z => absurd z (by omega))) (fun z => absurd z (by omega)))
  | succ k ih =>
    intro x hx he hq
    refine br_f (by decide) (pk_le 8 x (fun z => absurd z (by omega)) (fun _ => ⟨i + 1, ?_⟩))
    refine (sy_h26 (J11 := wY_nextHeight_11 post (nI i) (nI n) a o m f (k + 2)) h1 h5 hi (by omega) ho (fun hn => ?_) (fun hc => ?_) i 0 (by omega)).1 (fun q hq => absurd hq (by omega))
    · exact br_t rfl (H x he (by omega) hq (fun _ => hn))
    · refine ih (x + 1) (by omega) (by omega) (fun y hy hy2 => ?_)
      by_cases ey : y = x
      · rw [ey]
        exact hc
      · exact hq y hy (by omega)
theorem sy_nextHeight {post : Int32 → Prop} {a o m f : Nat → Int32} {n i A e : Nat} (h1 : 1 ≤ n) (h5 : n ≤ 5) (hi : i < n) (he : e ≤ 8) (ho : sw_O n i A e o) (H : ∀ h, e ≤ h → h ≤ 8 → (∀ x, e ≤ x → x < h → sw_cc n i A x) → (h < 8 → ¬ sw_cc n i A h) → post (nI h)) : wpY_nextHeight post (nI n, a, o, m, f) (nI i) := by
  unfold wpY_nextHeight
  refine ⟨sy_in (by omega), nm_r (e' := nI e) (by rw [nI_clamp (by omega)]; exact ho.2.1 hi) ⟨8 - e + 2, ?_⟩⟩
  exact sy_h11 h1 h5 hi ho.1 H (8 - e) e (by omega) (Nat.le_refl _) (fun y hy hy2 => absurd hy2 (by omega))
theorem sw_upd2 {o : Nat → Int32} {i : Nat} {x y : Int32} : upd (upd o i x) i y = upd o i y := by
  funext j
  by_cases e : j = i
  · rw [e, pk_us, pk_us]
  · rw [pk_un e, pk_un e, pk_un e]
theorem sw_O_b' {n i A e : Nat} {x : Int32} {o : Nat → Int32} (ho : sw_O n (i + 1) A e o) : sw_O n i (A / 8) (A % 8 + 1) (upd (upd o (i + 1) x) (i + 1) (-1)) := by
  rw [sw_upd2]
  exact sw_O_b ho
theorem sw_mu_pos (n i A e : Nat) : i + 1 ≤ sw_mu n i A e := by
  unfold sw_mu
  omega
theorem sy_n15 {post : Int32 → SY → Prop} {a m f : Nat → Int32} {n T0 : Nat} (h1 : 1 ≤ n) (h5 : n ≤ 5) (H1 : ∀ R o', T0 ≤ R → R < 8 ^ n → sw_J n R → (∀ Q, T0 ≤ Q → Q < R → ¬ sw_J n Q) → sy_A n R o' → post 1 (nI n, a, o', m, f)) (H0 : ∀ o', (∀ Q, T0 ≤ Q → Q < 8 ^ n → ¬ sw_J n Q) → post 0 (nI n, a, o', m, f)) : ∀ fuel i A e o, i ≤ n → A < 8 ^ i → e ≤ 8 → (i = n → e = 0) → sw_PA n i A → sw_O n i A e o → sw_no n T0 (sw_T n i A e) → sw_mu n i A e < fuel → wY_nextPattern_15 post (nI n) fuel (nI i) a o m f := by
  intro fuel
  induction fuel with
  | zero =>
    intro i A e o _ _ _ _ _ _ _ hm
    exact absurd hm (by omega)
  | succ fuel ih =>
    intro i A e o hi hA he hn0 hp ho hT hm
    refine br_f (nI_pos (by omega)) (pk_le n i (fun z => ?_) (fun z => ?_))
    · obtain rfl : i = n := by omega
      have e0 := hn0 rfl
      subst e0
      refine br_t rfl ?_
      have eT : sw_T i i A 0 = A * 8 := by
        unfold sw_T
        rw [Nat.sub_self, Nat.pow_zero, Nat.mul_one, Nat.add_zero]
      rw [eT] at hT
      exact H1 A o (by have := hT.1; omega) hA hp (fun Q q1 q2 => hT.2 Q q1 (by omega)) ho.1
    · refine sy_nextHeight h1 h5 z he ho (fun h g1 g2 g3 g4 => ?_)
      have hT' := sw_no_s z g1 g2 g3 hT
      refine ⟨sy_in (by omega), nm_r (e' := upd o i (nI h)) (by rw [nI_clamp (by omega)]) ⟨sy_in (by omega), ?_⟩⟩
      have ec : upd o i (nI h) (nI i).toNatClampNeg = nI h := by rw [nI_clamp (by omega), pk_us]
      refine pk_le h 7 (fun hh => ?_) (fun hh => ⟨sy_in (by omega), ?_⟩) ec rfl
      · refine nm_r (nI_1 i) (ih (i + 1) (A * 8 + h) 0 _ (by omega) ?_ (by omega) (fun _ => rfl) ?_ (sw_O_f ho (by omega)) ?_ ?_)
        · rw [Nat.pow_succ]
          omega
        · exact sw_PA_s hp (by omega) (fun j hj e => g4 (by omega) ⟨j, hj, e⟩)
        · rw [sw_T_f z]
          exact hT'
        · have := sw_mu_f (A := A) z g1 (show h < 8 by omega)
          omega
      · obtain rfl : h = 8 := by omega
        refine nm_r (e' := upd (upd o i (nI 8)) i (-1)) (by rw [nI_clamp (by omega)]) ?_
        rcases Nat.eq_zero_or_pos i with e0 | e0
        · subst e0
          have := sw_mu_pos n 0 A e
          obtain ⟨g, rfl⟩ : ∃ g, fuel = g + 1 := ⟨fuel - 1, by omega⟩
          refine nm_r (e' := -1) (by decide) ?_
          refine br_t (by decide) (br_f ?_ (H0 _ (fun Q q1 q2 => hT'.2 Q q1 ?_)))
          · intro w
            exact sw_m1 (show n < 2 ^ 31 by omega) w.symm
          · rw [Nat.pow_zero] at hA
            obtain rfl : A = 0 := by omega
            unfold sw_T
            rw [Nat.sub_zero]
            omega
        · obtain ⟨g, rfl⟩ : ∃ g, i = g + 1 := ⟨i - 1, by omega⟩
          refine nm_r (pk_m1 g) (ih g (A / 8) (A % 8 + 1) _ (by omega) ?_ (by omega) (fun w => absurd w (by omega)) (sw_PA_p hp) (sw_O_b' ho) ?_ ?_)
          · rw [Nat.pow_succ] at hA
            omega
          · rw [sw_T_b (by omega)]
            exact hT'
          · have := sw_mu_b (n := n) (i := g) (A := A) (e := e)
            omega
/-- the first row -/
theorem sy_first {post : Int32 → SY → Prop} {a o m f : Nat → Int32} {n : Nat} (h1 : 1 ≤ n) (h5 : n ≤ 5) (ho : ∀ j, j < 5 → o j = -1) (H1 : ∀ R o', R < 8 ^ n → sw_J n R → (∀ Q, Q < R → ¬ sw_J n Q) → sy_A n R o' → post 1 (nI n, a, o', m, f)) (H0 : ∀ o', (∀ Q, Q < 8 ^ n → ¬ sw_J n Q) → post 0 (nI n, a, o', m, f)) : wpY_nextPattern post (nI n, a, o, m, f) 1 := by
  unfold wpY_nextPattern
  refine br_f (by decide) ⟨sw_mu n 0 0 0 + 1, ?_⟩
  refine sy_n15 (T0 := 0) h1 h5 (fun R o' _ r2 r3 r4 r5 => H1 R o' r2 r3 (fun Q hQ => r4 Q (by omega) hQ) r5) (fun o' r => H0 o' (fun Q hQ => r Q (by omega) hQ)) _ 0 0 0 o (by omega) (by decide) (by decide) (fun _ => rfl) (fun j hj => absurd hj (by omega)) ⟨fun j hj => absurd hj (by omega), fun _ => ?_, fun j _ hj => ho j (by omega)⟩ ⟨by omega, fun Q _ hQ => ?_⟩ (by omega)
  · rw [ho 0 (by omega)]
    decide
  · unfold sw_T at hQ
    rw [Nat.zero_mul] at hQ
    omega
theorem sw_PA_J {n R : Nat} (h1 : 1 ≤ n) (hJ : sw_J n R) : sw_PA n (n - 1) (R / 8) := by
  obtain ⟨m, rfl⟩ : ∃ m, n = m + 1 := ⟨n - 1, by omega⟩
  exact sw_PA_p (n := m + 1) (i := m) hJ
/-- the next row -/
theorem sy_next {post : Int32 → SY → Prop} {a o m f : Nat → Int32} {n R : Nat} (h1 : 1 ≤ n) (h5 : n ≤ 5) (hR : R < 8 ^ n) (hJ : sw_J n R) (ho : sy_A n R o) (H1 : ∀ R' o', R < R' → R' < 8 ^ n → sw_J n R' → (∀ Q, R < Q → Q < R' → ¬ sw_J n Q) → sy_A n R' o' → post 1 (nI n, a, o', m, f)) (H0 : ∀ o', (∀ Q, R < Q → Q < 8 ^ n → ¬ sw_J n Q) → post 0 (nI n, a, o', m, f)) : wpY_nextPattern post (nI n, a, o, m, f) 0 := by
  obtain ⟨k, rfl⟩ : ∃ k, n = k + 1 := ⟨n - 1, by omega⟩
  have eo : ∀ j, j < k → o j = nI (sw_d k (R / 8) j) := by
    intro j hj
    have z := ho j (by omega)
    rw [@sw_split R, sw_d_pre (by omega) hj] at z
    exact z
  have el : o k = nI (R % 8) := by
    have z := ho k (by omega)
    rw [@sw_split R, sw_d_last (by omega)] at z
    exact z
  have eT : sw_T (k + 1) k (R / 8) (R % 8 + 1) = (R + 1) * 8 := by
    unfold sw_T
    rw [show k + 1 - k = 1 by omega, Nat.pow_one, show R / 8 * 8 + (R % 8 + 1) = R + 1 by omega]
  have h8 : R / 8 < 8 ^ k := by
    rw [Nat.pow_succ] at hR
    omega
  unfold wpY_nextPattern
  refine br_t rfl (nm_r (e' := nI k) (nI_pred k) ⟨sw_mu (k + 1) k (R / 8) (R % 8 + 1) + 1, ?_⟩)
  refine sy_n15 (T0 := R + 1) h1 h5 (fun R' o' r1 r2 r3 r4 r5 => H1 R' o' (by omega) r2 r3 (fun Q q1 q2 => r4 Q (by omega) q2) r5) (fun o' r => H0 o' (fun Q q1 q2 => r Q (by omega) q2)) _ k (R / 8) (R % 8 + 1) o (by omega) h8 (by omega) (fun w => absurd w (by omega)) (sw_PA_p hJ) ⟨eo, fun _ => ?_, fun j w1 w2 => absurd w1 (by omega)⟩ ⟨by rw [eT]; omega, fun Q q1 q2 => ?_⟩ (by omega)
  · rw [el, nI_1]
  · rw [eT] at q2
    omega
end
section
/-! the reference: counting and loading -/
theorem sy_sum_l {post : Int32 → Prop} {a o m f : Nat → Int32} {n R : Nat} (h5 : n ≤ 5) (ho : sy_A n R o) (h : post (nI (sw_S n R n))) : ∀ k i, i + k = n → wY_sum_4 post (nI n) a o m f (k + 1) (nI (sw_S n R i)) (nI i) := by
  intro k
  induction k with
  | zero =>
    intro i hi
    obtain rfl : i = n := by omega
    exact pk_le i i (fun _ => h) (fun z => absurd z (by omega))
  | succ k ih =>
    intro i hi
    refine pk_le n i (fun z => absurd z (by omega)) (fun _ => ?_)
    refine ⟨sy_in (by omega), nm_r (e' := nI (sw_S n R (i + 1))) ?_ (nm_r (nI_1 i) (ih (i + 1) (by omega)))⟩
    rw [sy_at ho h5 (by omega)]
    exact nI_add _ _
theorem sy_sum {post : Int32 → Prop} {a o m f : Nat → Int32} {n R : Nat} (h5 : n ≤ 5) (ho : sy_A n R o) (h : post (nI (sw_S n R n))) : wpY_sum post (nI n, a, o, m, f) := by
  unfold wpY_sum
  exact ⟨n + 1, sy_sum_l h5 ho h n 0 (by omega)⟩
theorem sy_bg_l {post : SY → Prop} {x : Int32} {a m f : Nat → Int32} (h : ∀ o', (∀ j, j < 5 → o' j = -1) → post (x, a, o', m, f)) : ∀ k i o', i + k = 5 → (∀ j, j < i → o' j = -1) → wY_begin_2 post x (k + 1) (nI i) a o' m f := by
  intro k
  induction k with
  | zero =>
    intro i o' hi hq
    obtain rfl : i = 5 := by omega
    exact pk_le 5 5 (fun _ => h o' hq) (fun z => absurd z (by omega))
  | succ k ih =>
    intro i o' hi hq
    refine pk_le 5 i (fun z => absurd z (by omega)) (fun _ => ?_)
    refine ⟨sy_in (by omega), nm_r (e' := upd o' i (-1)) (by rw [nI_clamp (by omega)]) (nm_r (nI_1 i) (ih (i + 1) _ (by omega) (fun j hj => ?_)))⟩
    by_cases e : j = i
    · rw [e, pk_us]
    · rw [pk_un e]
      exact hq j (by omega)
theorem sy_begin {post : SY → Prop} {x : Int32} {a o m f : Nat → Int32} (h : ∀ o', (∀ j, j < 5 → o' j = -1) → post (x, a, o', m, f)) : wpY_begin post (x, a, o, m, f) := by
  unfold wpY_begin
  exact ⟨6, sy_bg_l h 5 0 o rfl (fun j hj => absurd hj (by omega))⟩
theorem sw_C31 {n b x : Nat} (h5 : n ≤ 5) (hx : x ≤ 8 ^ n) : sw_C n b x < 2 ^ 31 := by
  have a := sw_C_le n b x
  have b := sw_8le h5
  omega
theorem sw_bn {n b : Nat} (h5 : n ≤ 5) (hb : b < 8) : b * n < 2 ^ 31 := Nat.lt_of_le_of_lt (Nat.mul_le_mul (show b ≤ 7 by omega) h5) (by decide)
theorem sw_S31 {n R : Nat} (h5 : n ≤ 5) : sw_S n R n < 2 ^ 31 := by
  have := sw_S_le n R n
  omega
theorem sw_next_C {n b R R' : Nat} (h : R < R') (hq : ∀ Q, R < Q → Q < R' → ¬ sw_J n Q) : sw_C n b R' = sw_C n b (R + 1) := sw_C_skip' (by omega) (fun Q q1 q2 => hq Q (by omega) q2)
theorem sy_c42 {post : Int32 → SY → Prop} {J22 : Int32 → Int32 → Int32 → (Nat → Int32) → (Nat → Int32) → (Nat → Int32) → (Nat → Int32) → Prop} {a o m f : Nat → Int32} {n b R c : Nat} (h1 : 1 ≤ n) (h5 : n ≤ 5) (hR : R < 8 ^ n) (hJ : sw_J n R) (ho : sy_A n R o) (hc : sw_C n b (R + 1) = c) (H1 : ∀ R' o', R < R' → R' < 8 ^ n → sw_J n R' → sy_A n R' o' → J22 (nI (sw_C n b R')) 1 (nI n) a o' m f) (H0 : ∀ o', J22 (nI (sw_C n b (8 ^ n))) 0 (nI n) a o' m f) : wY_count_42 post J22 (nI b) (nI c) (nI n) a o m f := by
  subst hc
  unfold wY_count_42
  refine sy_next h1 h5 hR hJ ho (fun R' o' r1 r2 r3 r4 r5 => ?_) (fun o' r => ?_)
  · have z := H1 R' o' r1 r2 r3 r5
    rw [sw_next_C r1 r4] at z
    exact z
  · have z := H0 o'
    rw [sw_next_C hR r] at z
    exact z
theorem sy_c22 {post : Int32 → SY → Prop} {a m f : Nat → Int32} {n b : Nat} (h1 : 1 ≤ n) (h5 : n ≤ 5) (hb : b < 8) (H : ∀ o', post (nI (sw_C n b (8 ^ n))) (nI n, a, o', m, f)) : ∀ fuel R o, R < 8 ^ n → sw_J n R → sy_A n R o → 8 ^ n - R < fuel → wY_count_22 post (nI b) fuel (nI (sw_C n b R)) 1 (nI n) a o m f := by
  intro fuel
  induction fuel with
  | zero =>
    intro R o _ _ _ h
    exact absurd h (by omega)
  | succ fuel ih =>
    intro R o hR hJ ho hm
    refine br_f (by decide) (sy_sum h5 ho ?_)
    have H1 : ∀ R' o', R < R' → R' < 8 ^ n → sw_J n R' → sy_A n R' o' → wY_count_22 post (nI b) fuel (nI (sw_C n b R')) 1 (nI n) a o' m f := fun R' o' r1 r2 r3 r5 => ih R' o' r2 r3 r5 (by omega)
    have H0 : ∀ o', wY_count_22 post (nI b) fuel (nI (sw_C n b (8 ^ n))) 0 (nI n) a o' m f := by
      intro o'
      obtain ⟨g, rfl⟩ : ∃ g, fuel = g + 1 := ⟨fuel - 1, by omega⟩
      exact br_t rfl (H o')
    refine pk_eq (sw_S n R n) (b * n) (fun e => ?_) (fun e => ?_) rfl (pk_mul b n) (sw_S31 h5) (sw_bn h5 hb)
    · exact nm_r (nI_1 _) (sy_c42 (J22 := wY_count_22 post (nI b) fuel) h1 h5 hR hJ ho (sw_C_t ⟨e, hJ⟩) H1 H0)
    · exact sy_c42 (J22 := wY_count_22 post (nI b) fuel) h1 h5 hR hJ ho (sw_C_f (fun w => e w.1)) H1 H0
theorem sy_count {post : Int32 → SY → Prop} {a o m f : Nat → Int32} {n b : Nat} (h1 : 1 ≤ n) (h5 : n ≤ 5) (hb : b < 8) (H : ∀ o', post (nI (sw_C n b (8 ^ n))) (nI n, a, o', m, f)) : wpY_count post (nI n, a, o, m, f) (nI b) := by
  unfold wpY_count
  dsimp only
  refine sy_noBalls_t hb (br_t rfl ?_)
  refine sy_begin (fun o1 ho1 => ?_)
  refine sy_first h1 h5 ho1 (fun R o' r1 r2 r3 r4 => ?_) (fun o' r => ?_)
  · have z := sy_c22 (post := post) (a := a) (m := m) (f := f) h1 h5 hb H (8 ^ n - R + 1) R o' r1 r2 r4 (by omega)
    rw [sw_C_skip' (x := 0) (by omega) (fun Q _ q => r3 Q q)] at z
    exact ⟨_, z⟩
  · have z := H o'
    rw [sw_C_skip' (x := 0) (Nat.zero_le _) (fun Q _ q => r Q q)] at z
    exact ⟨1, br_t rfl z⟩
/-! rank -/
theorem sy_own_l {post : Int32 → Prop} {a o m f : Nat → Int32} {n P R : Nat} (h5 : n ≤ 5) (hP : P < 8 ^ n) (hR : R < 8 ^ n) (ha : sy_A n P a) (ho : sy_A n R o) (ht : R = P → post 1) (hf : ¬ R = P → post 0) : ∀ k i, i + k = n → (∀ j, j < i → sw_d n R j = sw_d n P j) → wY_isOwn_2 post (nI n) a o m f (k + 1) (nI i) := by
  intro k
  induction k with
  | zero =>
    intro i hi hq
    obtain rfl : i = n := by omega
    exact pk_le i i (fun _ => ht (sw_ext i R P hR hP hq)) (fun z => absurd z (by omega))
  | succ k ih =>
    intro i hi hq
    have hd1 := sw_d_lt n R i
    have hd2 := sw_d_lt n P i
    refine pk_le n i (fun z => absurd z (by omega)) (fun _ => ⟨sy_in (by omega), sy_in (by omega), ?_⟩)
    refine pk_eq (sw_d n R i) (sw_d n P i) (fun e => ?_) (fun e => hf (fun z => e (by rw [z]))) (sy_at ho h5 (by omega)) (sy_at ha h5 (by omega))
    refine nm_r (nI_1 i) (ih (i + 1) (by omega) (fun j hj => ?_))
    by_cases ej : j = i
    · rw [ej]
      exact e
    · exact hq j (by omega)
theorem sy_isOwn {post : Int32 → Prop} {a o m f : Nat → Int32} {n P R : Nat} (h5 : n ≤ 5) (hP : P < 8 ^ n) (hR : R < 8 ^ n) (ha : sy_A n P a) (ho : sy_A n R o) (ht : R = P → post 1) (hf : ¬ R = P → post 0) : wpY_isOwn post (nI n, a, o, m, f) := by
  unfold wpY_isOwn
  exact ⟨n + 1, sy_own_l h5 hP hR ha ho ht hf n 0 (by omega) (fun j hj => absurd hj (by omega))⟩
theorem sy_r54 {post : Int32 → SY → Prop} {J27 : Int32 → Int32 → Int32 → (Nat → Int32) → (Nat → Int32) → (Nat → Int32) → (Nat → Int32) → Prop} {a o m f : Nat → Int32} {n b R P c : Nat} (h1 : 1 ≤ n) (h5 : n ≤ 5) (hR : R < 8 ^ n) (hJ : sw_J n R) (ho : sy_A n R o) (hP : P < 8 ^ n) (hJP : sw_J n P) (hRP : R < P) (hc : sw_C n b (R + 1) = c) (H1 : ∀ R' o', R < R' → R' ≤ P → sw_J n R' → sy_A n R' o' → J27 (nI (sw_C n b R')) 1 (nI n) a o' m f) : wY_rank_54 post J27 (nI b) (nI c) (nI n) a o m f := by
  subst hc
  unfold wY_rank_54
  refine sy_next h1 h5 hR hJ ho (fun R' o' r1 r2 r3 r4 r5 => ?_) (fun o' r => absurd hJP (r P hRP hP))
  have hle : R' ≤ P := by
    rcases Nat.lt_or_ge P R' with w | w
    · exact absurd hJP (r4 P hRP w)
    · exact w
  have z := H1 R' o' r1 hle r3 r5
  rw [sw_next_C r1 r4] at z
  exact z
theorem sy_r27 {post : Int32 → SY → Prop} {a m f : Nat → Int32} {n b P : Nat} (h1 : 1 ≤ n) (h5 : n ≤ 5) (hb : b < 8) (hP : P < 8 ^ n) (hJP : sw_J n P) (ha : sy_A n P a) (H : ∀ o', post (nI (sw_C n b P)) (nI n, a, o', m, f)) : ∀ fuel R o, R ≤ P → sw_J n R → sy_A n R o → P - R < fuel → wY_rank_27 post (nI b) fuel (nI (sw_C n b R)) 1 (nI n) a o m f := by
  intro fuel
  induction fuel with
  | zero =>
    intro R o _ _ _ h
    exact absurd h (by omega)
  | succ fuel ih =>
    intro R o hR hJ ho hm
    refine br_f (by decide) (sy_isOwn h5 hP (by omega) ha ho (fun e => br_f (by decide) ?_) (fun e => br_t rfl ?_))
    · rw [e]
      exact H o
    refine sy_sum h5 ho ?_
    have H1 : ∀ R' o', R < R' → R' ≤ P → sw_J n R' → sy_A n R' o' → wY_rank_27 post (nI b) fuel (nI (sw_C n b R')) 1 (nI n) a o' m f := fun R' o' r1 r2 r3 r5 => ih R' o' r2 r3 r5 (by omega)
    refine pk_eq (sw_S n R n) (b * n) (fun e => ?_) (fun e => ?_) rfl (pk_mul b n) (sw_S31 h5) (sw_bn h5 hb)
    · exact nm_r (nI_1 _) (sy_r54 (J27 := wY_rank_27 post (nI b) fuel) h1 h5 (by omega) hJ ho hP hJP (by omega) (sw_C_t ⟨e, hJ⟩) H1)
    · exact sy_r54 (J27 := wY_rank_27 post (nI b) fuel) h1 h5 (by omega) hJ ho hP hJP (by omega) (sw_C_f (fun w => e w.1)) H1
theorem sy_rank {post : Int32 → SY → Prop} {a o m f : Nat → Int32} {n P : Nat} (h1 : 1 ≤ n) (h5 : n ≤ 5) (hP : P < 8 ^ n) (ha : sy_A n P a) (hJP : sw_J n P) (H : ∀ o', post (nI (sw_C n (sw_mb (sw_st n P 0 7) 7) P)) (nI n, a, o', m, f)) : wpY_rank post (nI n, a, o, m, f) := by
  have hb : sw_mb (sw_st n P 0 7) 7 < 8 := by
    have := sw_mb_le (sw_st n P 0 7) 7
    omega
  unfold wpY_rank
  dsimp only
  refine sy_isJugglable h1 h5 ha (fun _ => br_f (by decide) ?_) (fun z => absurd hJP z)
  refine sy_balls h1 h5 ha (fun _ => ?_) (fun z => absurd hJP z)
  refine sy_begin (fun o1 ho1 => ?_)
  refine sy_first h1 h5 ho1 (fun R o' r1 r2 r3 r4 => ?_) (fun o' r => absurd hJP (r P hP))
  have hle : R ≤ P := by
    rcases Nat.lt_or_ge P R with w | w
    · exact absurd hJP (r3 P w)
    · exact w
  have z := sy_r27 (post := post) (a := a) (m := m) (f := f) h1 h5 hb hP hJP ha H (P - R + 1) R o' hle r2 r4 (by omega)
  rw [sw_C_skip' (x := 0) (by omega) (fun Q _ q => r3 Q q)] at z
  exact ⟨_, z⟩
/-! load -/
theorem sy_l49 {post : Int32 → SY → Prop} {o m f : Nat → Int32} {n : Nat} (h5 : n ≤ 5) (h : ∀ a', (∀ j, j < n → a' j = o j) → post 0 (nI n, a', o, m, f)) : ∀ k i a', i + k = n → (∀ j, j < i → a' j = o j) → wY_load_49 post (nI n) (k + 1) (nI i) a' o m f := by
  intro k
  induction k with
  | zero =>
    intro i a' hi hq
    obtain rfl : i = n := by omega
    exact pk_le i i (fun _ => h a' hq) (fun z => absurd z (by omega))
  | succ k ih =>
    intro i a' hi hq
    refine pk_le n i (fun z => absurd z (by omega)) (fun _ => ?_)
    refine ⟨sy_in (by omega), sy_in (by omega), nm_r (e' := upd a' i (o i)) (by rw [nI_clamp (by omega)]) (nm_r (nI_1 i) (ih (i + 1) _ (by omega) (fun j hj => ?_)))⟩
    by_cases e : j = i
    · rw [e, pk_us]
    · rw [pk_un e]
      exact hq j (by omega)
theorem sy_l83 {post : Int32 → SY → Prop} {J23 : Int32 → Int32 → Int32 → (Nat → Int32) → (Nat → Int32) → (Nat → Int32) → (Nat → Int32) → Prop} {kk : Int32} {a o m f : Nat → Int32} {n b R c : Nat} (h1 : 1 ≤ n) (h5 : n ≤ 5) (hR : R < 8 ^ n) (hJ : sw_J n R) (ho : sy_A n R o) (hc : sw_C n b (R + 1) = c) (H1 : ∀ R' o', R < R' → R' < 8 ^ n → sw_J n R' → (∀ Q, R < Q → Q < R' → ¬ sw_J n Q) → sy_A n R' o' → J23 (nI (sw_C n b R')) 1 (nI n) a o' m f) (H0 : ∀ o' c', (∀ Q, R < Q → Q < 8 ^ n → ¬ sw_J n Q) → J23 c' 0 (nI n) a o' m f) : wY_load_83 post J23 (nI b) kk (nI c) (nI n) a o m f := by
  subst hc
  unfold wY_load_83
  refine sy_next h1 h5 hR hJ ho (fun R' o' r1 r2 r3 r4 r5 => ?_) (fun o' r => H0 o' _ r)
  have z := H1 R' o' r1 r2 r3 r4 r5
  rw [sw_next_C r1 r4] at z
  exact z
theorem sy_l23 {post : Int32 → SY → Prop} {kk : Int32} {a m f : Nat → Int32} {n b : Nat} (h1 : 1 ≤ n) (h5 : n ≤ 5) (hb : b < 8) (hF : ∀ R a' o', R < 8 ^ n → sw_S n R n = b * n ∧ sw_J n R → nI (sw_C n b R) = kk → sy_A n R a' → post 0 (nI n, a', o', m, f)) (hN : (∀ R, R < 8 ^ n → sw_S n R n = b * n ∧ sw_J n R → ¬ nI (sw_C n b R) = kk) → ∀ o', post (-4) (nI n, a, o', m, f)) : ∀ fuel R o, R < 8 ^ n → sw_J n R → sy_A n R o → (∀ Q, Q < R → sw_S n Q n = b * n ∧ sw_J n Q → ¬ nI (sw_C n b Q) = kk) → 8 ^ n - R < fuel → wY_load_23 post (nI b) kk fuel (nI (sw_C n b R)) 1 (nI n) a o m f := by
  intro fuel
  induction fuel with
  | zero =>
    intro R o _ _ _ _ h
    exact absurd h (by omega)
  | succ fuel ih =>
    intro R o hR hJ ho hq hm
    refine br_f (by decide) (sy_sum h5 ho ?_)
    have H1 : (sw_S n R n = b * n ∧ sw_J n R → ¬ nI (sw_C n b R) = kk) → ∀ R' o', R < R' → R' < 8 ^ n → sw_J n R' → (∀ Q, R < Q → Q < R' → ¬ sw_J n Q) → sy_A n R' o' → wY_load_23 post (nI b) kk fuel (nI (sw_C n b R')) 1 (nI n) a o' m f := by
      intro hR' R' o' r1 r2 r3 r4 r5
      refine ih R' o' r2 r3 r5 (fun Q q1 q2 => ?_) (by omega)
      rcases Nat.lt_trichotomy Q R with w | w | w
      · exact hq Q w q2
      · rw [w] at q2 ⊢
        exact hR' q2
      · exact absurd q2.2 (r4 Q w q1)
    have H0 : (sw_S n R n = b * n ∧ sw_J n R → ¬ nI (sw_C n b R) = kk) → ∀ o' c', (∀ Q, R < Q → Q < 8 ^ n → ¬ sw_J n Q) → wY_load_23 post (nI b) kk fuel c' 0 (nI n) a o' m f := by
      intro hR' o' c' r
      obtain ⟨g, rfl⟩ : ∃ g, fuel = g + 1 := ⟨fuel - 1, by omega⟩
      refine br_t rfl (hN (fun Q q1 q2 => ?_) o')
      rcases Nat.lt_trichotomy Q R with w | w | w
      · exact hq Q w q2
      · rw [w] at q2 ⊢
        exact hR' q2
      · exact absurd q2.2 (r Q w q1)
    refine pk_eq (sw_S n R n) (b * n) (fun e => ?_) (fun e => ?_) rfl (pk_mul b n) (sw_S31 h5) (sw_bn h5 hb)
    · refine br_c (fun ek => ⟨n + 1, ?_⟩) (fun ek => ?_)
      · exact sy_l49 h5 (fun a' ha' => hF R a' o hR ⟨e, hJ⟩ ek (fun j hj => by rw [ha' j hj]; exact ho j hj)) n 0 a (by omega) (fun j hj => absurd hj (by omega))
      · exact nm_r (nI_1 _) (sy_l83 (J23 := wY_load_23 post (nI b) kk fuel) h1 h5 hR hJ ho (sw_C_t ⟨e, hJ⟩) (H1 (fun _ => ek)) (H0 (fun _ => ek)))
    · exact sy_l83 (J23 := wY_load_23 post (nI b) kk fuel) h1 h5 hR hJ ho (sw_C_f (fun w => e w.1)) (H1 (fun w => absurd w.1 e)) (H0 (fun w => absurd w.1 e))
theorem sy_load {post : Int32 → SY → Prop} {kk : Int32} {a o m f : Nat → Int32} {n b : Nat} (h1 : 1 ≤ n) (h5 : n ≤ 5) (hb : b < 8) (hF : ∀ R a' o', R < 8 ^ n → sw_S n R n = b * n ∧ sw_J n R → nI (sw_C n b R) = kk → sy_A n R a' → post 0 (nI n, a', o', m, f)) (hN : (∀ R, R < 8 ^ n → sw_S n R n = b * n ∧ sw_J n R → ¬ nI (sw_C n b R) = kk) → ∀ o', post (-4) (nI n, a, o', m, f)) : wpY_load post (nI n, a, o, m, f) (nI b) kk := by
  unfold wpY_load
  dsimp only
  refine sy_noBalls_t hb (br_t rfl ?_)
  refine sy_begin (fun o1 ho1 => ?_)
  refine sy_first h1 h5 ho1 (fun R o' r1 r2 r3 r4 => ?_) (fun o' r => ?_)
  · have z := sy_l23 (post := post) (a := a) (m := m) (f := f) (kk := kk) h1 h5 hb hF hN (8 ^ n - R + 1) R o' r1 r2 r4 (fun Q q1 q2 => absurd q2.2 (r3 Q q1)) (by omega)
    rw [sw_C_skip' (x := 0) (by omega) (fun Q _ q => r3 Q q)] at z
    exact ⟨_, z⟩
  · exact ⟨1, br_t rfl (hN (fun R q1 q2 => absurd q2.2 (r R q1)) o')⟩
end
section
/-! the component's rounds -/
theorem sx_and1 {s : Nat} (hs : s < 2 ^ 31) : nI s &&& 1 = nI (s % 2) := pk_andN (by omega) 1 (by decide)
theorem sx_half {s : Nat} (hs : s < 2 ^ 31) : nI s >>> ((1 : Int32) &&& 31) = nI (s / 2) := pk_shrN hs _ 1 (by decide)
theorem sx_reach {post : SX → Prop} {pat thr v : Int32} {d : Nat → Int32} {t : Nat} (ht : t < 128) (h1 : d t = -1 → post (pat, thr, upd d t v)) (h0 : ¬ d t = -1 → post (pat, thr, d)) : wpX_reach post (pat, thr, d) (nI t) v := by
  have ec : (nI t).toNatClampNeg = t := nI_clamp (by omega)
  unfold wpX_reach
  dsimp only
  refine sx_isSet_t ht (br_f (by decide) ⟨vp_in_nI ht (by decide), ?_⟩)
  rw [ec]
  exact br_c (fun e => ⟨vp_in_nI ht (by decide), nm_e (h1 e)⟩) (fun e => h0 e)
/-- the cells with D that were free hold v now, the rest is as it was -/
def sx_G (D : Nat → Prop) (v : Int32) (d dh : Nat → Int32) : Prop := ∀ t, t < 128 → ((d t = -1 ∧ D t) → dh t = v) ∧ (¬ (d t = -1 ∧ D t) → dh t = d t)
theorem sx_G_new {D : Nat → Prop} {v : Int32} {d dh : Nat → Int32} {T : Nat} (G : sx_G D v d dh) (hT : T < 128) (e : dh T = -1) : sx_G (fun t => D t ∨ t = T) v d (upd dh T v) := by
  intro t ht
  obtain ⟨g1, g2⟩ := G t ht
  by_cases z : t = T
  · subst z
    rw [pk_us]
    refine ⟨fun _ => rfl, fun w => ?_⟩
    have w1 : ¬ (d t = -1 ∧ D t) := fun y => w ⟨y.1, Or.inl y.2⟩
    have w2 := g2 w1
    rw [e] at w2
    exact absurd ⟨w2.symm, Or.inr rfl⟩ w
  · rw [pk_un z]
    refine ⟨fun w => g1 ⟨w.1, ?_⟩, fun w => g2 (fun y => w ⟨y.1, Or.inl y.2⟩)⟩
    rcases w.2 with y | y
    · exact y
    · exact absurd y z
theorem sx_G_old {D : Nat → Prop} {v : Int32} {d dh : Nat → Int32} {T : Nat} (G : sx_G D v d dh) (e : ¬ dh T = -1) : sx_G (fun t => D t ∨ t = T) v d dh := by
  intro t ht
  obtain ⟨g1, g2⟩ := G t ht
  refine ⟨fun w => ?_, fun w => g2 (fun y => w ⟨y.1, Or.inl y.2⟩)⟩
  by_cases c : D t
  · exact g1 ⟨w.1, c⟩
  · rcases w.2 with y | y
    · exact absurd y c
    · have w2 := g2 (fun y => c y.2)
      rw [y] at w2 w
      exact absurd (w2.trans w.1) e
theorem sx_G_iff {D D' : Nat → Prop} {v : Int32} {d dh : Nat → Int32} (G : sx_G D v d dh) (h : ∀ t, D t ↔ D' t) : sx_G D' v d dh := by
  intro t ht
  obtain ⟨g1, g2⟩ := G t ht
  exact ⟨fun w => g1 ⟨w.1, (h t).mpr w.2⟩, fun w => g2 (fun y => w ⟨y.1, (h t).mp y.2⟩)⟩
def sx_L (s h t : Nat) : Prop := ∃ g, 1 ≤ g ∧ g < h ∧ s / 2 ^ g % 2 = 0 ∧ t = (s ||| 2 ^ g) / 2
theorem sx_L_s {s h t : Nat} (h1 : 1 ≤ h) (hb : s / 2 ^ h % 2 = 0) : (sx_L s h t ∨ t = (s ||| 2 ^ h) / 2) ↔ sx_L s (h + 1) t := by
  constructor
  · intro w
    rcases w with ⟨g, a, b, c, e⟩ | e
    · exact ⟨g, a, by omega, c, e⟩
    · exact ⟨h, h1, by omega, hb, e⟩
  · intro ⟨g, a, b, c, e⟩
    by_cases z : g = h
    · rw [z] at e
      exact Or.inr e
    · exact Or.inl ⟨g, a, by omega, c, e⟩
theorem sx_L_n {s h t : Nat} (hb : ¬ s / 2 ^ h % 2 = 0) : sx_L s h t ↔ sx_L s (h + 1) t := by
  constructor
  · intro ⟨g, a, b, c, e⟩
    exact ⟨g, a, by omega, c, e⟩
  · intro ⟨g, a, b, c, e⟩
    by_cases z : g = h
    · rw [z] at c
      exact absurd c hb
    · exact ⟨g, a, by omega, c, e⟩
theorem sx_L_0 {s t : Nat} : ¬ sx_L s 1 t := by
  intro ⟨g, a, b, _, _⟩
  omega
theorem sx_L_E {s t : Nat} (ho : s % 2 = 1) : sx_L s 8 t ↔ sw_E s t := by
  constructor
  · intro ⟨g, a, b, c, e⟩
    exact Or.inr ⟨ho, g, a, by omega, c, e⟩
  · intro w
    rcases w with ⟨z, _⟩ | ⟨_, g, a, b, c, e⟩
    · omega
    · exact ⟨g, a, by omega, c, e⟩
theorem sx_or8 {s h : Nat} (hs : s < 128) (hh : h ≤ 7) : s ||| 2 ^ h < 256 := sw_or_lt (n := 8) (by omega) (by omega)
theorem sx_s17 {post : SX → Prop} {pat thr v : Int32} {d0 : Nat → Int32} {D : Nat → Prop} {s : Nat} (hs : s < 128) (ho : s % 2 = 1) (H : ∀ d', sx_G (fun t => D t ∨ sw_E s t) v d0 d' → post (pat, thr, d')) : ∀ k h d, h + k = 8 → 1 ≤ h → sx_G (fun t => D t ∨ sx_L s h t) v d0 d → wX_stepFrom_17 post (nI s) v (k + 1) (nI h) pat thr d := by
  intro k
  induction k with
  | zero =>
    intro h d hk h1 G
    obtain rfl : h = 8 := by omega
    refine pk_lt 7 8 (fun _ => H d (sx_G_iff G (fun t => ?_))) (fun z => absurd z (by omega))
    rw [sx_L_E ho]
  | succ k ih =>
    intro h d hk h1 G
    refine pk_lt 7 h (fun z => absurd z (by omega)) (fun _ => ?_)
    by_cases hb : s / 2 ^ h % 2 = 0
    · refine br_t (sx_b0 (by omega) (by omega) hb) ?_
      have h8 := sx_or8 hs (show h ≤ 7 by omega)
      have hT : (s ||| 2 ^ h) / 2 < 128 := by omega
      have eT : (nI s ||| (1 : Int32) <<< (nI h &&& 31)) >>> ((1 : Int32) &&& 31) = nI ((s ||| 2 ^ h) / 2) := by
        rw [sw_one (by omega), sw_or, sx_half (by omega)]
      rw [eT]
      have fin : ∀ d', sx_G (fun t => (D t ∨ sx_L s h t) ∨ t = (s ||| 2 ^ h) / 2) v d0 d' → sx_G (fun t => D t ∨ sx_L s (h + 1) t) v d0 d' := by
        intro d' G'
        refine sx_G_iff G' (fun t => ?_)
        rw [← sx_L_s h1 hb, or_assoc]
      refine sx_reach hT (fun e => ?_) (fun e => ?_)
      · exact nm_r (nI_1 h) (ih (h + 1) _ (by omega) (by omega) (fin _ (sx_G_new G hT e)))
      · exact nm_r (nI_1 h) (ih (h + 1) _ (by omega) (by omega) (fin _ (sx_G_old G e)))
    · refine br_f (sx_b1 (by omega) (by omega) hb) ?_
      refine nm_r (nI_1 h) (ih (h + 1) _ (by omega) (by omega) (sx_G_iff G (fun t => ?_)))
      rw [sx_L_n hb]
theorem sx_stepFrom {post : SX → Prop} {pat thr v : Int32} {d0 d : Nat → Int32} {D : Nat → Prop} {s : Nat} (hs : s < 128) (G : sx_G D v d0 d) (H : ∀ d', sx_G (fun t => D t ∨ sw_E s t) v d0 d' → post (pat, thr, d')) : wpX_stepFrom post (pat, thr, d) (nI s) v := by
  unfold wpX_stepFrom
  dsimp only
  have e1 := sx_and1 (show s < 2 ^ 31 by omega)
  by_cases ho : s % 2 = 0
  · refine br_t (by rw [e1, ho]; rfl) ?_
    rw [sx_half (by omega)]
    have fin : ∀ d', sx_G (fun t => D t ∨ t = s / 2) v d0 d' → post (pat, thr, d') := by
      intro d' G'
      refine H d' (sx_G_iff G' (fun t => ?_))
      constructor
      · intro w
        rcases w with w | w
        · exact Or.inl w
        · exact Or.inr (Or.inl ⟨ho, w⟩)
      · intro w
        rcases w with w | ⟨_, w⟩ | ⟨w, _⟩
        · exact Or.inl w
        · exact Or.inr w
        · omega
    exact sx_reach (by omega) (fun e => fin _ (sx_G_new G (by omega) e)) (fun e => fin _ (sx_G_old G e))
  · have ho' : s % 2 = 1 := by omega
    refine br_f (by rw [e1, ho']; decide) ⟨8, ?_⟩
    refine sx_s17 hs ho' H 7 1 d rfl (by decide) (sx_G_iff G (fun t => ?_))
    constructor
    · exact Or.inl
    · intro w
      rcases w with w | w
      · exact w
      · exact absurd w sx_L_0
theorem sx_sfa {post : SX → Prop} {pat thr : Int32} {d0 : Nat → Int32} {k : Nat} (hk : k < 1000) (H : ∀ d', sw_Rd k 128 d0 d' → post (pat, thr, d')) : ∀ j s d, s + j = 128 → sw_Rd k s d0 d → wX_stepFromAllAt_2 post (nI k) (j + 1) (nI s) pat thr d := by
  intro j
  induction j with
  | zero =>
    intro s d hs G
    obtain rfl : s = 128 := by omega
    exact pk_le 128 128 (fun _ => H d G) (fun z => absurd z (by omega))
  | succ j ih =>
    intro s d hs G
    have ec : (nI s).toNatClampNeg = s := nI_clamp (by omega)
    have hs8 : s < 128 := by omega
    refine pk_le 128 s (fun z => absurd z (by omega)) (fun _ => ⟨vp_in_nI hs8 (by decide), ?_⟩)
    rw [ec, nI_1 k]
    obtain ⟨g1, g2⟩ := G s hs8
    refine br_c (fun e => ?_) (fun e => ?_)
    · have e0 : d0 s = nI k := by
        by_cases c : d0 s = -1 ∧ ∃ r, r < s ∧ d0 r = nI k ∧ sw_E r s
        · have z := g1 c
          rw [e] at z
          have := (nI_eq (by omega) (by omega)).mp z
          omega
        · rw [← g2 c]
          exact e
      have G0 : sx_G (fun t => ∃ r, r < s ∧ d0 r = nI k ∧ sw_E r t) (nI (k + 1)) d0 d := G
      refine sx_stepFrom hs8 G0 (fun d' G' => ?_)
      refine nm_r (nI_1 s) (ih (s + 1) d' (by omega) ?_)
      refine sx_G_iff G' (fun t => ?_)
      constructor
      · intro w
        rcases w with ⟨r, a, b, c⟩ | w
        · exact ⟨r, by omega, b, c⟩
        · exact ⟨s, by omega, e0, w⟩
      · intro ⟨r, a, b, c⟩
        by_cases z : r = s
        · rw [z] at c
          exact Or.inr c
        · exact Or.inl ⟨r, by omega, b, c⟩
    · have e0 : ¬ d0 s = nI k := by
        intro w
        refine e ?_
        rw [g2 (fun c => ?_)]
        · exact w
        · rw [w] at c
          exact sw_m1 (by omega) c.1
      refine nm_r (nI_1 s) (ih (s + 1) d (by omega) ?_)
      have G0 : sx_G (fun t => ∃ r, r < s ∧ d0 r = nI k ∧ sw_E r t) (nI (k + 1)) d0 d := G
      refine sx_G_iff G0 (fun t => ?_)
      constructor
      · intro ⟨r, a, b, c⟩
        exact ⟨r, by omega, b, c⟩
      · intro ⟨r, a, b, c⟩
        by_cases z : r = s
        · rw [z] at b
          exact absurd b e0
        · exact ⟨r, by omega, b, c⟩
theorem sx_stepFromAllAt {post : SX → Prop} {pat thr : Int32} {d : Nat → Int32} {k : Nat} (hk : k < 1000) (H : ∀ d', sw_Rd k 128 d d' → post (pat, thr, d')) : wpX_stepFromAllAt post (pat, thr, d) (nI k) := by
  unfold wpX_stepFromAllAt
  refine ⟨129, sx_sfa hk H 128 0 d rfl (fun t ht => ⟨fun w => ?_, fun _ => rfl⟩)⟩
  obtain ⟨_, r, hr, _⟩ := w
  omega
theorem sx_fd {post : SX → Prop} {pat thr : Int32} (H : ∀ d', (∀ t, t < 128 → d' t = -1) → post (pat, thr, d')) : ∀ j s d, s + j = 128 → (∀ t, t < s → d t = -1) → wX_forgetDistances_2 post pat thr (j + 1) (nI s) d := by
  intro j
  induction j with
  | zero =>
    intro s d hs G
    obtain rfl : s = 128 := by omega
    exact pk_le 128 128 (fun _ => H d G) (fun z => absurd z (by omega))
  | succ j ih =>
    intro s d hs G
    have ec : (nI s).toNatClampNeg = s := nI_clamp (by omega)
    refine pk_le 128 s (fun z => absurd z (by omega)) (fun _ => ⟨vp_in_nI (by omega) (by decide), ?_⟩)
    refine nm_r (e' := upd d s (-1)) (by rw [ec]) (nm_r (nI_1 s) (ih (s + 1) _ (by omega) (fun t ht => ?_)))
    by_cases e : t = s
    · rw [e, pk_us]
    · rw [pk_un e]
      exact G t (by omega)
theorem sx_forget {post : SX → Prop} {pat thr : Int32} {d : Nat → Int32} (H : ∀ d', (∀ t, t < 128 → d' t = -1) → post (pat, thr, d')) : wpX_forgetDistances post (pat, thr, d) := by
  unfold wpX_forgetDistances
  exact ⟨129, sx_fd H 128 0 d rfl (fun t ht => absurd ht (by omega))⟩
theorem sx_s31 {post : Int32 → SX → Prop} {pat thr : Int32} {a b : Nat} (ha : a < 128) (hb : b < 128) (hF : ∀ j d', j < 128 → sw_dist a b j → post (nI j) (pat, thr, d')) (hN : (∀ j, j < 128 → ¬ sw_R a j b) → ∀ d', post (-4) (pat, thr, d')) : ∀ j k d, k + j = 128 → sw_LV a k d → (∀ i, i < k → ¬ sw_R a i b) → wX_steps_31 post (nI b) (j + 1) (nI k) pat thr d := by
  intro j
  induction j with
  | zero =>
    intro k d hk L hq
    obtain rfl : k = 128 := by omega
    exact pk_le 128 128 (fun _ => hN hq d) (fun z => absurd z (by omega))
  | succ j ih =>
    intro k d hk L hq
    have ec : (nI b).toNatClampNeg = b := nI_clamp (by omega)
    refine pk_le 128 k (fun z => absurd z (by omega)) (fun _ => ⟨vp_in_nI hb (by decide), ?_⟩)
    rw [ec]
    obtain ⟨l1, l2⟩ := L b hb
    refine br_c (fun e => ?_) (fun e => ⟨vp_in_nI hb (by decide), ?_⟩)
    · refine sx_stepFromAllAt (by omega) (fun d' R' => ?_)
      refine nm_r (nI_1 k) (ih (k + 1) d' (by omega) (sw_LVs ha (by omega) L R') (fun i hi hR => ?_))
      obtain ⟨j', hj', hd⟩ := sw_least hR
      have z := l1 j' (by omega) hd
      rw [e] at z
      exact sw_m1 (by omega) z.symm
    · have w : ∃ i, i ≤ k ∧ sw_R a i b := Classical.byContradiction (fun y => e (l2 (fun i hi hR => y ⟨i, hi, hR⟩)))
      obtain ⟨i, hi, hR⟩ := w
      obtain ⟨j', hj', hd⟩ := sw_least hR
      rw [l1 j' (by omega) hd]
      exact hF j' d (by omega) hd
theorem sx_steps {post : Int32 → SX → Prop} {pat thr : Int32} {d : Nat → Int32} {a b : Nat} (ha : a < 128) (hb : b < 128) (hF : ∀ j d', j < 128 → sw_dist a b j → post (nI j) (pat, thr, d')) (hN : (∀ j, j < 128 → ¬ sw_R a j b) → ∀ d', post (-4) (pat, thr, d')) : wpX_steps post (pat, thr, d) (nI a) (nI b) := by
  have ec : (nI a).toNatClampNeg = a := nI_clamp (by omega)
  unfold wpX_steps
  dsimp only
  refine sx_isSet_t ha (br_f (by decide) ?_)
  refine sx_isSet_t hb (br_f (by decide) ?_)
  refine sx_forget (fun d' hd' => ?_)
  refine ⟨vp_in_nI ha (by decide), nm_r (e' := upd d' a 0) (by rw [ec]) ⟨129, ?_⟩⟩
  refine sx_s31 ha hb hF hN 128 0 _ rfl (sw_LV0 (fun t ht => ?_)) (fun i hi => absurd hi (by omega))
  by_cases e : t = a
  · rw [if_pos e, e, pk_us]
  · rw [if_neg e, pk_un e]
    exact hd' t ht
end
section
/-! the reference's queue -/
theorem sw_Q_w {a p many : Nat} {q v : Nat → Nat} {D D' : Nat → Prop} {m f : Nat → Int32} (h : sw_Q a p many q v D m f) (hD : ∀ t, D' t → D t) : sw_Q a p many q v D' m f := by
  obtain ⟨h1, h2, h3, h4, h5, h6, h7⟩ := h
  exact ⟨h1, h2, h3, h4, h5, h6, fun t ht => h7 t (hD t ht)⟩
def sy_D (s h t : Nat) : Prop := (s % 2 = 0 ∧ 1 < h ∧ t = s / 2) ∨ (s % 2 = 1 ∧ sx_L s h t)
theorem sy_D_E {s t : Nat} (h : sw_E s t) : sy_D s 8 t := by
  rcases h with ⟨a, b⟩ | ⟨ho, g, a, b, c, e⟩
  · exact Or.inl ⟨a, by decide, b⟩
  · exact Or.inr ⟨ho, g, a, by omega, c, e⟩
theorem sy_D_1 {s t : Nat} (h : sy_D s 1 t) : False := by
  rcases h with ⟨_, b, _⟩ | ⟨_, b⟩
  · omega
  · exact sx_L_0 b
theorem sy_D_ev {s h t : Nat} (he : s % 2 = 0) (w : sy_D s (h + 1) t) : sy_D s h t ∨ t = s / 2 := by
  rcases w with ⟨_, _, c⟩ | ⟨b, _⟩
  · exact Or.inr c
  · omega
theorem sy_D_od {s h t : Nat} (h1 : 1 ≤ h) (ho : s % 2 = 1) (hb : s / 2 ^ h % 2 = 0) (w : sy_D s (h + 1) t) : sy_D s h t ∨ t = (s ||| 2 ^ h) / 2 := by
  rcases w with ⟨b, _⟩ | ⟨_, b⟩
  · omega
  · rcases (sx_L_s h1 hb).mpr b with c | c
    · exact Or.inl (Or.inr ⟨ho, c⟩)
    · exact Or.inr c
theorem sy_D_no {s h t : Nat} (ho : s % 2 = 1) (hb : ¬ s / 2 ^ h % 2 = 0) (w : sy_D s (h + 1) t) : sy_D s h t := by
  rcases w with ⟨b, _⟩ | ⟨_, b⟩
  · omega
  · exact Or.inr ⟨ho, (sx_L_n hb).mpr b⟩
theorem sy_f0 {a p many t : Nat} {q v : Nat → Nat} {D : Nat → Prop} {m f : Nat → Int32} (h : sw_Q a p many q v D m f) (ht : t < 128) : (f t = -1 ∧ ¬ 0 ≤ f t) ∨ (¬ f t = -1 ∧ 0 ≤ f t) := by
  obtain ⟨h1, h2, h3, h4, h5, h6, h7⟩ := h
  by_cases e : f t = -1
  · refine Or.inl ⟨e, ?_⟩
    rw [e]
    decide
  · refine Or.inr ⟨e, ?_⟩
    rcases h5 t ht with z | ⟨j, hj, ej⟩
    · exact absurd z e
    · obtain ⟨a1, a2, a3, a4, a5⟩ := h2 j hj
      rw [ej] at a3
      rw [a3]
      exact nI_pos' (by omega)
theorem sy_Q0 {a : Nat} {m f : Nat → Int32} (ha : a < 128) (hf : ∀ t, t < 128 → f t = -1) : sw_Q a 0 1 (fun _ => a) (fun _ => 0) (fun _ => False) (upd m 0 (nI a)) (upd f a 0) := by
  have c0 : sw_cn f 128 = 0 := by
    rw [sw_cn_x (g := fun _ => -1) 128 (fun j hj => hf j hj)]
    exact sw_cn_0 128
  have c1 := sw_cn_u (x := 0) (hf a ha) (by decide) 128 ha
  rw [c0] at c1
  refine ⟨⟨by decide, by decide, c1, rfl, rfl⟩, fun j hj => ?_, fun i j _ _ => Nat.le_refl _, fun j hj => Nat.zero_le _, fun t ht => ?_, fun j t hj => absurd hj (by omega), fun t ht => ht.elim⟩
  · obtain rfl : j = 0 := by omega
    dsimp only
    exact ⟨ha, pk_us, by rw [pk_us]; exact nI_0.symm, Nat.le_refl _, rfl⟩
  · by_cases e : t = a
    · exact Or.inr ⟨0, by decide, e.symm⟩
    · rw [pk_un e]
      exact Or.inl (hf t ht)
theorem sy_s147 {post : Int32 → SY → Prop} {J63 J81 : Int32 → Int32 → (Nat → Int32) → (Nat → Int32) → (Nat → Int32) → (Nat → Int32) → Prop} {x2 x4 fn : Int32} {A o m f : Nat → Int32} {a p many h T s : Nat} {q v : Nat → Nat} {D : Nat → Prop} (Q : sw_Q a p many q v D m f) (hs : q p = s) (hT : T < 128) (hE : sw_E s T) (H : ∀ many' q' v' m' f', q' p = s → sw_Q a p many' q' v' (fun t => D t ∨ t = T) m' f' → J81 (nI many') (nI (h + 1)) A o m' f') : wY_steps_147 post J63 J81 x2 (nI many) x4 (nI s) (nI h) (nI T) fn A o m f := by
  have ecT : (nI T).toNatClampNeg = T := nI_clamp (by omega)
  have hp := Q.1.1
  obtain ⟨b1, b2, b3, b4, b5⟩ := Q.2.1 p hp
  rw [hs] at b1 b3
  unfold wY_steps_147
  refine ⟨vp_in_nI hT (by decide), ?_⟩
  rw [ecT]
  rcases sy_f0 Q hT with ⟨e, e0⟩ | ⟨e, e0⟩
  · obtain ⟨hm, Q'⟩ := sw_Q_new Q hT e (by rw [hs]; exact hE)
    refine br_f e0 ⟨vp_in_nI b1 (by decide), vp_in_nI hT (by decide), nm_r (e' := upd f T (nI (v p + 1))) ?_ ⟨vp_in_nI hm (by decide), nm_r (e' := upd m many (nI T)) (by rw [nI_clamp (by omega)]) (nm_r (nI_1 many) (nm_r (nI_1 h) (H _ _ _ _ _ ?_ Q')))⟩⟩
    · rw [nI_clamp (by omega), b3, nI_1]
    · show (if p = many then T else q p) = s
      rw [if_neg (by omega)]
      exact hs
  · exact br_t e0 (nm_r (nI_1 h) (H many q v m f hs (sw_Q_old Q hT e)))
theorem sy_s81 {post : Int32 → SY → Prop} {J63 : Int32 → Int32 → (Nat → Int32) → (Nat → Int32) → (Nat → Int32) → (Nat → Int32) → Prop} {x2 fn : Int32} {A o : Nat → Int32} {a p s : Nat} (hs8 : s < 128) (HJ : ∀ many q v m f, q p = s → sw_Q a p many q v (sw_E s) m f → J63 (nI many) (nI (p + 1)) A o m f) : ∀ k h many q v m f, h + k = 8 → 1 ≤ h → q p = s → sw_Q a p many q v (sy_D s h) m f → wY_steps_81 post J63 x2 (nI p) (nI s) fn (k + 1) (nI many) (nI h) A o m f := by
  intro k
  induction k with
  | zero =>
    intro h many q v m f hk h1 hs Q
    obtain rfl : h = 8 := by omega
    exact pk_lt 7 8 (fun _ => nm_r (nI_1 p) (HJ many q v m f hs (sw_Q_w Q (fun t w => sy_D_E w)))) (fun z => absurd z (by omega))
  | succ k ih =>
    intro h many q v m f hk h1 hs Q
    have e1 := sx_and1 (show s < 2 ^ 31 by omega)
    refine pk_lt 7 h (fun z => absurd z (by omega)) (fun _ => nm_r (e' := nI (s / 2)) (sx_half (by omega)) ?_)
    by_cases ho : s % 2 = 1
    · refine br_t (by rw [e1, ho]; rfl) ?_
      by_cases hb : s / 2 ^ h % 2 = 0
      · refine br_t (sx_b0 (by omega) (by omega) hb) ?_
        have h8 := sx_or8 hs8 (show h ≤ 7 by omega)
        have hT : (s ||| 2 ^ h) / 2 < 128 := by omega
        obtain ⟨g, rfl⟩ : ∃ g, h = g + 1 := ⟨h - 1, by omega⟩
        refine br_f (by decide) (nm_r (e' := nI ((s ||| 2 ^ (g + 1)) / 2)) ?_ (br_f (by decide) ?_))
        · rw [nI_pred, sw_one (by omega), sw_or, sw_nx s hs8 g (by omega)]
        · refine sy_s147 (D := sy_D s (g + 1)) Q hs hT (Or.inr ⟨ho, g + 1, by omega, by omega, hb, rfl⟩) (fun many' q' v' m' f' e Q' => ?_)
          exact ih (g + 1 + 1) many' q' v' m' f' (by omega) (by omega) e (sw_Q_w Q' (fun t w => sy_D_od h1 ho hb w))
      · refine br_f (sx_b1 (by omega) (by omega) hb) ?_
        refine br_t rfl (br_t rfl (br_f (by rw [e1, ho]; decide) ?_))
        exact nm_r (nI_1 h) (ih (h + 1) many q v m f (by omega) (by omega) hs (sw_Q_w Q (fun t w => sy_D_no ho hb w)))
    · have he : s % 2 = 0 := by omega
      refine br_f (by rw [e1, he]; decide) ?_
      refine br_t rfl (br_t rfl (br_t (by rw [e1, he]; rfl) ?_))
      refine sy_s147 (D := sy_D s h) Q hs (by omega) (Or.inl ⟨he, rfl⟩) (fun many' q' v' m' f' e Q' => ?_)
      exact ih (h + 1) many' q' v' m' f' (by omega) (by omega) e (sw_Q_w Q' (fun t w => sy_D_ev he w))
theorem sy_s63 {post : Int32 → SY → Prop} {fn : Int32} {A o : Nat → Int32} {a b : Nat} (hb : b < 128) (hF : ∀ j m' f', j < 128 → sw_dist a b j → post (nI j) (fn, A, o, m', f')) (hN : (∀ j, ¬ sw_R a j b) → ∀ m' f', post (-4) (fn, A, o, m', f')) : ∀ fuel p many q v m f, sw_Q a p many q v (fun _ => False) m f → 128 - p < fuel → wY_steps_63 post (nI b) fn fuel (nI many) (nI p) A o m f := by
  intro fuel
  induction fuel with
  | zero =>
    intro p many q v m f _ hm
    exact absurd hm (by omega)
  | succ fuel ih =>
    intro p many q v m f Q hm
    have hp := Q.1.1
    have hm8 := Q.1.2.1
    obtain ⟨b1, b2, b3, b4, b5⟩ := Q.2.1 p hp
    refine pk_le many p (fun z => absurd z (by omega)) (fun _ => ⟨vp_in_nI (show p < 128 by omega) (by decide), ?_⟩)
    refine nm_r (e' := nI (q p)) (by rw [nI_clamp (by omega)]; exact b2) ⟨8, ?_⟩
    refine sy_s81 (J63 := wY_steps_63 post (nI b) fn fuel) b1 (fun many' q' v' m' f' hs Q' => ?_) 7 1 many q v m f rfl (by decide) rfl (sw_Q_w Q (fun t w => sy_D_1 w))
    have hp' := Q'.1.1
    rw [← hs] at Q'
    by_cases z : p + 1 < many'
    · exact ih (p + 1) many' q' v' m' f' (sw_Q_next Q' (fun t w => w) z) (by omega)
    · have z' : p + 1 = many' := by omega
      have ec : (nI b).toNatClampNeg = b := nI_clamp (by omega)
      obtain ⟨g, rfl⟩ : ∃ g, fuel = g + 1 := ⟨fuel - 1, by omega⟩
      have hm8' := Q'.1.2.1
      refine pk_le many' (p + 1) (fun _ => ⟨vp_in_nI hb (by decide), ?_⟩) (fun w => absurd w (by omega))
      rw [ec]
      rcases sw_Q_ans Q' (fun t w => w) z' hb with ⟨j, hj, hd, ef⟩ | ⟨hn, ef⟩
      · rw [ef]
        exact br_t (nI_pos' (by omega)) ⟨vp_in_nI hb (by decide), hF j m' f' hj hd⟩
      · rw [ef]
        exact br_f (by decide) (hN hn m' f')
theorem sy_s24 {post : Int32 → SY → Prop} {fn : Int32} {A o m : Nat → Int32} {a b : Nat} (ha : a < 128) (hb : b < 128) (hF : ∀ j m' f', j < 128 → sw_dist a b j → post (nI j) (fn, A, o, m', f')) (hN : (∀ j, ¬ sw_R a j b) → ∀ m' f', post (-4) (fn, A, o, m', f')) : ∀ k i f, i + k = 128 → (∀ t, t < i → f t = -1) → wY_steps_24 post (nI a) (nI b) fn (k + 1) (nI i) A o m f := by
  intro k
  induction k with
  | zero =>
    intro i f hi hq
    obtain rfl : i = 128 := by omega
    refine pk_le 128 128 (fun _ => nm_e ⟨vp_in_nI ha (by decide), nm_r (e' := upd f a 0) (by rw [nI_clamp (by omega)]) ⟨129, ?_⟩⟩) (fun z => absurd z (by omega))
    exact sy_s63 hb hF hN 129 0 1 _ _ _ _ (sy_Q0 ha hq) (by decide)
  | succ k ih =>
    intro i f hi hq
    refine pk_le 128 i (fun z => absurd z (by omega)) (fun _ => ⟨vp_in_nI (by omega) (by decide), ?_⟩)
    refine nm_r (e' := upd f i (-1)) (by rw [nI_clamp (by omega)]) (nm_r (nI_1 i) (ih (i + 1) _ (by omega) (fun t ht => ?_)))
    by_cases e : t = i
    · rw [e, pk_us]
    · rw [pk_un e]
      exact hq t (by omega)
theorem sy_steps {post : Int32 → SY → Prop} {fn : Int32} {A o m f : Nat → Int32} {a b : Nat} (ha : a < 128) (hb : b < 128) (hF : ∀ j m' f', j < 128 → sw_dist a b j → post (nI j) (fn, A, o, m', f')) (hN : (∀ j, ¬ sw_R a j b) → ∀ m' f', post (-4) (fn, A, o, m', f')) : wpY_steps post (fn, A, o, m, f) (nI a) (nI b) := by
  unfold wpY_steps
  refine br_f (nI_pos (by omega)) (pk_lt 127 a (fun z => absurd z (by omega)) (fun _ => ?_))
  refine br_f (nI_pos (by omega)) (pk_le b 127 (fun _ => ?_) (fun z => absurd z (by omega)))
  exact ⟨129, sy_s24 ha hb hF hN 128 0 f rfl (fun t ht => absurd ht (by omega))⟩
theorem sy_steps_b {post : Int32 → SY → Prop} {fn : Int32} {A o m f : Nat → Int32} {x y : Int32} (hb : sx_bad 128 x ∨ ((∃ a : Nat, a < 128 ∧ x = nI a) ∧ sx_bad 128 y)) (h : post (-1) (fn, A, o, m, f)) : wpY_steps post (fn, A, o, m, f) x y := by
  unfold wpY_steps
  rcases hb with (z | ⟨z, z2, _⟩) | ⟨⟨a, ha, rfl⟩, z | ⟨z, z2, _⟩⟩
  · exact br_t z h
  · exact br_f z (br_t (sx_bad_s (m := 127) (by decide) z2).1 h)
  · exact br_f (nI_pos (by omega)) (pk_lt 127 a (fun w => absurd w (by omega)) (fun _ => br_t z h))
  · exact br_f (nI_pos (by omega)) (pk_lt 127 a (fun w => absurd w (by omega)) (fun _ => br_f z (br_f (sx_bad_s (m := 127) (by decide) z2).2 h)))
end
section
def i_Rel (_ : Nat) (u : SX) (v : SY) : Prop := ∃ (n P : Nat) (d a o m f : Nat → Int32), 1 ≤ n ∧ n ≤ 5 ∧ P < 8 ^ n ∧ sy_A n P a ∧ u = (nI P, nI n, d) ∧ v = (nI n, a, o, m, f)
theorem sr_mk {k n P : Nat} {d a o m f : Nat → Int32} (h1 : 1 ≤ n) (h5 : n ≤ 5) (hP : P < 8 ^ n) (ha : sy_A n P a) : i_Rel k (nI P, nI n, d) (nI n, a, o, m, f) := ⟨n, P, d, a, o, m, f, h1, h5, hP, ha, rfl, rfl⟩
theorem i_up {k : Nat} {u : SX} {v : SY} (h : i_Rel k u v) : i_Rel (k + 3) u v := h
theorem i_vc0 : wpX_init (fun u => wpY_init (fun v => i_Rel 0 u v)) := by
  have hA : sy_A 1 3 (upd (fun _ => 0) 0 3) := by
    intro i hi
    obtain rfl : i = 0 := by omega
    rw [pk_us]
    decide
  unfold wpX_init
  unfold wpY_init
  refine nm_e ?_
  exact ⟨1, 3, _, _, _, _, _, by decide, by decide, by decide, hA, rfl, rfl⟩
theorem i_vc_put {k : Nat} {u : SX} {v : SY} (I : i_Rel k u v) (hk : k + 3 ≤ 1536) (v1 : Int32) : wpX_put (fun r u' => wpY_put (fun r' v' => r' = r ∧ i_Rel (k + 3) u' v') v v1) u v1 := by
  obtain ⟨n, P, d, a, o, m, f, h1, h5, hP, ha, rfl, rfl⟩ := I
  rcases sx_cls v1 8 (by decide) with hb | ⟨j, hj, rfl⟩
  · unfold wpX_put
    dsimp only
    refine sx_isHeight_b hb (br_t rfl ?_)
    unfold wpY_put
    dsimp only
    exact sy_noHeight_b hb (br_f (by decide) ⟨rfl, sr_mk h1 h5 hP ha⟩)
  · refine sx_put h5 hP hj (fun z => ?_) (fun z => ?_)
    · refine sy_put h1 h5 ha hj (fun _ a' ha' => ⟨rfl, sr_mk (by omega) (by omega) ?_ ha'⟩) (fun w => absurd w (by omega))
      rw [Nat.pow_succ]
      omega
    · exact sy_put h1 h5 ha hj (fun w => absurd w (by omega)) (fun _ => ⟨rfl, sr_mk h1 h5 hP ha⟩)
theorem i_vc_drop {k : Nat} {u : SX} {v : SY} (I : i_Rel k u v) (hk : k + 3 ≤ 1536) : wpX_drop (fun r u' => wpY_drop (fun r' v' => r' = r ∧ i_Rel (k + 3) u' v') v) u := by
  obtain ⟨n, P, d, a, o, m, f, h1, h5, hP, ha, rfl, rfl⟩ := I
  refine sx_drop h1 h5 hP (fun z => ?_) (fun z => ?_)
  · refine sy_drop h1 h5 ha (fun _ => ⟨rfl, sr_mk (by omega) (by omega) ?_ (sy_drop_A z ha)⟩) (fun w => absurd w (by omega))
    obtain ⟨g, rfl⟩ : ∃ g, n = g + 1 := ⟨n - 1, by omega⟩
    rw [Nat.pow_succ] at hP
    rw [show g + 1 - 1 = g by omega]
    omega
  · exact sy_drop h1 h5 ha (fun w => absurd w (by omega)) (fun _ => ⟨rfl, sr_mk h1 h5 hP ha⟩)
theorem i_vc_set {k : Nat} {u : SX} {v : SY} (I : i_Rel k u v) (hk : k + 3 ≤ 1536) (v1 : Int32) (v2 : Int32) : wpX_set (fun r u' => wpY_set (fun r' v' => r' = r ∧ i_Rel (k + 3) u' v') v v1 v2) u v1 v2 := by
  obtain ⟨n, P, d, a, o, m, f, h1, h5, hP, ha, rfl, rfl⟩ := I
  rcases sx_cls v1 n (by omega) with hb | ⟨i, hi, rfl⟩
  · unfold wpX_set
    dsimp only
    refine sx_isThrow_b hb (br_t rfl ?_)
    unfold wpY_set
    dsimp only
    exact sy_noThrow_b hb (br_f (by decide) ⟨rfl, sr_mk h1 h5 hP ha⟩)
  · rcases sx_cls v2 8 (by decide) with hb | ⟨j, hj, rfl⟩
    · unfold wpX_set
      dsimp only
      refine sx_isThrow_t h5 hi (br_f (by decide) ?_)
      refine sx_isHeight_b hb (br_t rfl ?_)
      unfold wpY_set
      dsimp only
      refine sy_noThrow_t h5 hi (br_t rfl ?_)
      exact sy_noHeight_b hb (br_f (by decide) ⟨rfl, sr_mk h1 h5 hP ha⟩)
    · refine sx_set h5 hP hi hj ?_
      exact sy_set h5 ha hi hj (fun a' ha' => ⟨rfl, sr_mk h1 h5 (sw_w_lt h5 hi hP hj) ha'⟩)
theorem i_vc_swap {k : Nat} {u : SX} {v : SY} (I : i_Rel k u v) (hk : k + 3 ≤ 1536) (v1 : Int32) : wpX_swap (fun r u' => wpY_swap (fun r' v' => r' = r ∧ i_Rel (k + 3) u' v') v v1) u v1 := by
  obtain ⟨n, P, d, a, o, m, f, h1, h5, hP, ha, rfl, rfl⟩ := I
  rcases sx_cls v1 n (by omega) with hb | ⟨j, hj, rfl⟩
  · unfold wpX_swap
    dsimp only
    refine sx_isThrow_b hb (br_t rfl ?_)
    unfold wpY_swap
    dsimp only
    exact sy_noThrow_b hb (br_f (by decide) ⟨rfl, sr_mk h1 h5 hP ha⟩)
  · refine sx_swap h1 h5 hP hj (fun z => ?_) (fun z c1 c2 W hW => ?_)
    · exact sy_swapA h1 h5 ha hj z ⟨rfl, sr_mk h1 h5 hP ha⟩
    · exact sy_swapC z h5 ha hj c1 c2 hW (fun a' ha' => ⟨rfl, sr_mk h1 h5 hW.1 ha'⟩)
theorem i_vc_turn {k : Nat} {u : SX} {v : SY} (I : i_Rel k u v) (hk : k + 3 ≤ 1536) : wpX_turn (fun r u' => wpY_turn (fun r' v' => r' = r ∧ i_Rel (k + 3) u' v') v) u := by
  obtain ⟨n, P, d, a, o, m, f, h1, h5, hP, ha, rfl, rfl⟩ := I
  refine sx_turn h1 h5 hP ?_
  refine sy_turn h1 h5 ha (fun a' ha' => ⟨rfl, sr_mk h1 h5 ?_ ha'⟩)
  have hw := sw_t_lt h5 h1 hP
  have hd := sw_d_lt n P 0
  obtain ⟨g, rfl⟩ : ∃ g, n = g + 1 := ⟨n - 1, by omega⟩
  rw [show g + 1 - 1 = g by omega] at hw
  rw [Nat.pow_succ]
  omega
theorem i_vc_mirror {k : Nat} {u : SX} {v : SY} (I : i_Rel k u v) (hk : k + 3 ≤ 1536) : wpX_mirror (fun r u' => wpY_mirror (fun r' v' => r' = r ∧ i_Rel (k + 3) u' v') v) u := by
  obtain ⟨n, P, d, a, o, m, f, h1, h5, hP, ha, rfl, rfl⟩ := I
  by_cases hJ : sw_J n P
  · refine sx_mirror h1 h5 hP hJ (fun Q hQ hq => ?_)
    refine sy_mirror h1 h5 hJ ha (fun a' o' hq' => ⟨rfl, sr_mk h1 h5 hQ (fun i hi => ?_)⟩)
    obtain ⟨j, hj, e⟩ := sw_g_surj h1 h5 hJ hi
    rw [← e, hq' j hj, hq j hj]
  · unfold wpX_mirror
    dsimp only
    refine sx_landsApart h1 h5 hP (fun z => absurd z hJ) (fun _ => br_t rfl ?_)
    unfold wpY_mirror
    dsimp only
    exact sy_isJugglable h1 h5 ha (fun z => absurd z hJ) (fun _ => br_t rfl ⟨rfl, sr_mk h1 h5 hP ha⟩)
theorem i_vc_size {k : Nat} {u : SX} {v : SY} (I : i_Rel k u v) (hk : k + 3 ≤ 1536) : wpX_size (fun r => wpY_size (fun r' => r' = r ∧ i_Rel (k + 3) u v) v) u := by
  obtain ⟨n, P, d, a, o, m, f, h1, h5, hP, ha, rfl, rfl⟩ := I
  unfold wpX_size
  unfold wpY_size
  exact ⟨rfl, sr_mk h1 h5 hP ha⟩
theorem i_vc_height {k : Nat} {u : SX} {v : SY} (I : i_Rel k u v) (hk : k + 3 ≤ 1536) (v1 : Int32) : wpX_height (fun r => wpY_height (fun r' => r' = r ∧ i_Rel (k + 3) u v) v v1) u v1 := by
  obtain ⟨n, P, d, a, o, m, f, h1, h5, hP, ha, rfl, rfl⟩ := I
  unfold wpX_height
  dsimp only
  rcases sx_cls v1 n (by omega) with hb | ⟨i, hi, rfl⟩
  · refine sx_isThrow_b hb (br_t rfl ?_)
    unfold wpY_height
    dsimp only
    exact sy_noThrow_b hb (br_f (by decide) ⟨rfl, sr_mk h1 h5 hP ha⟩)
  · refine sx_isThrow_t h5 hi (br_f (by decide) ?_)
    refine sx_heightIn h5 hP hi ?_
    unfold wpY_height
    dsimp only
    exact sy_noThrow_t h5 hi (br_t rfl ⟨sy_in (by omega), sy_at ha h5 hi, sr_mk h1 h5 hP ha⟩)
theorem i_vc_jugglable {k : Nat} {u : SX} {v : SY} (I : i_Rel k u v) (hk : k + 3 ≤ 1536) : wpX_jugglable (fun r => wpY_jugglable (fun r' => r' = r ∧ i_Rel (k + 3) u v) v) u := by
  obtain ⟨n, P, d, a, o, m, f, h1, h5, hP, ha, rfl, rfl⟩ := I
  unfold wpX_jugglable
  dsimp only
  refine sx_landsApart h1 h5 hP (fun z => br_f (by decide) ?_) (fun z => br_t rfl ?_)
  · exact sy_jugglable h1 h5 ha ⟨(sw_jb_t z).symm, sr_mk h1 h5 hP ha⟩
  · exact sy_jugglable h1 h5 ha ⟨(sw_jb_f z).symm, sr_mk h1 h5 hP ha⟩
theorem i_vc_balls {k : Nat} {u : SX} {v : SY} (I : i_Rel k u v) (hk : k + 3 ≤ 1536) : wpX_balls (fun r => wpY_balls (fun r' => r' = r ∧ i_Rel (k + 3) u v) v) u := by
  obtain ⟨n, P, d, a, o, m, f, h1, h5, hP, ha, rfl, rfl⟩ := I
  unfold wpX_balls
  dsimp only
  refine sx_landsApart h1 h5 hP (fun hJ => br_f (by decide) ?_) (fun hJ => br_t rfl ?_)
  · refine sx_ballsOf h1 h5 hP ?_
    exact sy_balls h1 h5 ha (fun _ => ⟨rfl, sr_mk h1 h5 hP ha⟩) (fun z => absurd hJ z)
  · exact sy_balls h1 h5 ha (fun z => absurd z hJ) (fun _ => ⟨rfl, sr_mk h1 h5 hP ha⟩)
theorem i_vc_state {k : Nat} {u : SX} {v : SY} (I : i_Rel k u v) (hk : k + 3 ≤ 1536) (v1 : Int32) : wpX_state (fun r => wpY_state (fun r' => r' = r ∧ i_Rel (k + 3) u v) v v1) u v1 := by
  obtain ⟨n, P, d, a, o, m, f, h1, h5, hP, ha, rfl, rfl⟩ := I
  have r : v1 < -1000 ∨ (¬ v1 < -1000 ∧ ¬ v1 ≤ 1000) ∨ (¬ v1 < -1000 ∧ v1 ≤ 1000) := by
    by_cases z : v1 < -1000
    · exact Or.inl z
    · by_cases z2 : v1 ≤ 1000
      · exact Or.inr (Or.inr ⟨z, z2⟩)
      · exact Or.inr (Or.inl ⟨z, z2⟩)
  unfold wpX_state
  unfold wpY_state
  dsimp only
  rcases r with z | ⟨z, z2⟩ | ⟨z, z2⟩
  · exact br_t z (br_t z ⟨rfl, sr_mk h1 h5 hP ha⟩)
  · exact br_f z (br_f z2 (br_f z (br_f z2 ⟨rfl, sr_mk h1 h5 hP ha⟩)))
  · have ht : -5000 ≤ v1.toInt ∧ v1.toInt ≤ 5000 := by
      rw [Int32.lt_iff_toInt_lt, show (-1000 : Int32).toInt = -1000 by decide] at z
      rw [Int32.le_iff_toInt_le, show (1000 : Int32).toInt = 1000 by decide] at z2
      omega
    refine br_f z (br_t z2 (sx_landsApart h1 h5 hP (fun hJ => br_f (by decide) ?_) (fun hJ => br_t rfl ?_)))
    · refine sx_stateBefore h1 h5 hP ht ?_
      refine br_f z (br_t z2 (sy_isJugglable h1 h5 ha (fun _ => br_f (by decide) ?_) (fun w => absurd hJ w)))
      exact sy_stateBefore h1 h5 ha ht ⟨rfl, sr_mk h1 h5 hP ha⟩
    · exact br_f z (br_t z2 (sy_isJugglable h1 h5 ha (fun w => absurd w hJ) (fun _ => br_t rfl ⟨rfl, sr_mk h1 h5 hP ha⟩)))
theorem i_vc_prime {k : Nat} {u : SX} {v : SY} (I : i_Rel k u v) (hk : k + 3 ≤ 1536) : wpX_prime (fun r => wpY_prime (fun r' => r' = r ∧ i_Rel (k + 3) u v) v) u := by
  obtain ⟨n, P, d, a, o, m, f, h1, h5, hP, ha, rfl, rfl⟩ := I
  unfold wpX_prime
  dsimp only
  refine sx_landsApart h1 h5 hP (fun hJ => br_f (by decide) ⟨n - 1 + 1, ?_⟩) (fun hJ => br_t rfl ?_)
  · refine sx_pr16 h1 h5 hP (fun hp => ?_) (fun hp => ?_) (n - 1) 1 (by omega) (fun i hi j hj => absurd hj (by omega))
    · unfold wpY_prime
      dsimp only
      refine sy_isJugglable h1 h5 ha (fun _ => br_f (by decide) ⟨n + 1, ?_⟩) (fun w => absurd hJ w)
      exact sy_pr12 h1 h5 ha (fun _ => ⟨rfl, sr_mk h1 h5 hP ha⟩) (fun w => absurd hp w) n 0 (by omega) (fun i hi => absurd hi (by omega))
    · unfold wpY_prime
      dsimp only
      refine sy_isJugglable h1 h5 ha (fun _ => br_f (by decide) ⟨n + 1, ?_⟩) (fun w => absurd hJ w)
      exact sy_pr12 h1 h5 ha (fun w => absurd w hp) (fun _ => ⟨rfl, sr_mk h1 h5 hP ha⟩) n 0 (by omega) (fun i hi => absurd hi (by omega))
  · unfold wpY_prime
    dsimp only
    exact sy_isJugglable h1 h5 ha (fun w => absurd w hJ) (fun _ => br_t rfl ⟨rfl, sr_mk h1 h5 hP ha⟩)
theorem i_vc_period {k : Nat} {u : SX} {v : SY} (I : i_Rel k u v) (hk : k + 3 ≤ 1536) (v1 : Int32) : wpX_period (fun r => wpY_period (fun r' => r' = r ∧ i_Rel (k + 3) u v) v v1) u v1 := by
  obtain ⟨n, P, d, a, o, m, f, h1, h5, hP, ha, rfl, rfl⟩ := I
  unfold wpX_period
  dsimp only
  rcases sx_cls v1 n (by omega) with hb | ⟨i, hi, rfl⟩
  · refine sx_isThrow_b hb (br_t rfl ?_)
    unfold wpY_period
    dsimp only
    exact sy_noThrow_b hb (br_f (by decide) ⟨rfl, sr_mk h1 h5 hP ha⟩)
  · have hd := sw_d_lt n P i
    refine sx_isThrow_t h5 hi (br_f (by decide) ?_)
    refine sx_heightIn h5 hP hi ?_
    by_cases h0 : sw_d n P i = 0
    · rw [h0]
      refine br_t rfl ?_
      unfold wpY_period
      dsimp only
      refine sy_noThrow_t h5 hi (br_t rfl ⟨sy_in (by omega), br_t ?_ ⟨rfl, sr_mk h1 h5 hP ha⟩⟩)
      rw [sy_at ha h5 hi, h0]
      rfl
    · have hn0 : ¬ nI (sw_d n P i) = 0 := nI_ne0 (Nat.pos_of_ne_zero h0) (by omega)
      have hn0' : ¬ a (nI i).toNatClampNeg = 0 := by
        rw [sy_at ha h5 hi]
        exact hn0
      refine br_f hn0 (sx_landsApart h1 h5 hP (fun hJ => br_f (by decide) ?_) (fun hJ => br_t rfl ?_))
      · obtain ⟨K, hK, hit, hl⟩ := sw_ret h1 h5 hP hJ hi
        refine sx_beats h1 h5 hP hi hK hit hl ?_
        unfold wpY_period
        dsimp only
        refine sy_noThrow_t h5 hi (br_t rfl ⟨sy_in (by omega), br_f hn0' ?_⟩)
        refine sy_isJugglable h1 h5 ha (fun _ => br_f (by decide) ⟨sy_in (by omega), ?_⟩) (fun w => absurd hJ w)
        refine nm_r (e' := nI (sw_bt n P i (0 + 1))) (by rw [sy_at ha h5 hi]; exact nI_add _ _) ⟨K + 1, ?_⟩
        exact sy_per_l h1 h5 ha hi hK hit hl ⟨rfl, sr_mk h1 h5 hP ha⟩ K 0 (by omega)
      · unfold wpY_period
        dsimp only
        refine sy_noThrow_t h5 hi (br_t rfl ⟨sy_in (by omega), br_f hn0' ?_⟩)
        exact sy_isJugglable h1 h5 ha (fun w => absurd w hJ) (fun _ => br_t rfl ⟨rfl, sr_mk h1 h5 hP ha⟩)
theorem i_vc_orbits {k : Nat} {u : SX} {v : SY} (I : i_Rel k u v) (hk : k + 3 ≤ 1536) : wpX_orbits (fun r => wpY_orbits (fun r' => r' = r ∧ i_Rel (k + 3) u v) v) u := by
  obtain ⟨n, P, d, a, o, m, f, h1, h5, hP, ha, rfl, rfl⟩ := I
  unfold wpX_orbits
  dsimp only
  refine sx_landsApart h1 h5 hP (fun hJ => br_f (by decide) ⟨n + 1, ?_⟩) (fun hJ => br_t rfl ?_)
  · refine sx_orb_l h1 h5 hP ?_ n 0 (by omega)
    unfold wpY_orbits
    dsimp only
    refine sy_isJugglable h1 h5 ha (fun _ => br_f (by decide) ⟨n + 1, ?_⟩) (fun w => absurd hJ w)
    exact sy_orb_l h1 h5 hP hJ ha ⟨rfl, sr_mk h1 h5 hP ha⟩ n 0 (by omega)
  · unfold wpY_orbits
    dsimp only
    exact sy_isJugglable h1 h5 ha (fun w => absurd w hJ) (fun _ => br_t rfl ⟨rfl, sr_mk h1 h5 hP ha⟩)
theorem i_vc_count {k : Nat} {u : SX} {v : SY} (I : i_Rel k u v) (hk : k + 3 ≤ 1536) (v1 : Int32) : wpX_count (fun r => wpY_count (fun r' v' => r' = r ∧ i_Rel (k + 3) u v') v v1) u v1 := by
  obtain ⟨n, P, d, a, o, m, f, h1, h5, hP, ha, rfl, rfl⟩ := I
  unfold wpX_count
  dsimp only
  rcases sx_cls v1 8 (by decide) with hb | ⟨b, hb, rfl⟩
  · refine sx_isBall_b hb (br_t rfl ?_)
    unfold wpY_count
    dsimp only
    exact sy_noBalls_b hb (br_f (by decide) ⟨rfl, sr_mk h1 h5 hP ha⟩)
  · refine sx_isBall_t hb (br_f (by decide) ?_)
    refine sx_rowsEnd h5 ?_
    refine sx_countBelow h1 h5 hb (Nat.le_refl _) ?_
    exact sy_count h1 h5 hb (fun o' => ⟨rfl, sr_mk h1 h5 hP ha⟩)
theorem i_vc_rank {k : Nat} {u : SX} {v : SY} (I : i_Rel k u v) (hk : k + 3 ≤ 1536) : wpX_rank (fun r => wpY_rank (fun r' v' => r' = r ∧ i_Rel (k + 3) u v') v) u := by
  obtain ⟨n, P, d, a, o, m, f, h1, h5, hP, ha, rfl, rfl⟩ := I
  unfold wpX_rank
  dsimp only
  refine sx_landsApart h1 h5 hP (fun hJ => br_f (by decide) ?_) (fun hJ => br_t rfl ?_)
  · have hb : sw_mb (sw_st n P 0 7) 7 < 8 := by
      have := sw_mb_le (sw_st n P 0 7) 7
      omega
    refine sx_ballsOf h1 h5 hP ?_
    refine sx_countBelow h1 h5 hb (by omega) ?_
    exact sy_rank h1 h5 hP ha hJ (fun o' => ⟨rfl, sr_mk h1 h5 hP ha⟩)
  · unfold wpY_rank
    dsimp only
    exact sy_isJugglable h1 h5 ha (fun w => absurd w hJ) (fun _ => br_t rfl ⟨rfl, sr_mk h1 h5 hP ha⟩)
theorem i_vc_load {k : Nat} {u : SX} {v : SY} (I : i_Rel k u v) (hk : k + 3 ≤ 1536) (v1 : Int32) (v2 : Int32) : wpX_load (fun r u' => wpY_load (fun r' v' => r' = r ∧ i_Rel (k + 3) u' v') v v1 v2) u v1 v2 := by
  obtain ⟨n, P, d, a, o, m, f, h1, h5, hP, ha, rfl, rfl⟩ := I
  rcases sx_cls v1 8 (by decide) with hb | ⟨b, hb, rfl⟩
  · unfold wpX_load
    dsimp only
    refine sx_isBall_b hb (br_t rfl ?_)
    unfold wpY_load
    dsimp only
    exact sy_noBalls_b hb (br_f (by decide) ⟨rfl, sr_mk h1 h5 hP ha⟩)
  · refine sx_load h1 h5 hb (fun R hR gR eR => ?_) (fun hn => ?_)
    · refine sy_load h1 h5 hb (fun R' a' o' hR' gR' eR' ha' => ?_) (fun hn => absurd eR (hn R hR gR))
      have e := (nI_eq (sw_C31 h5 (by omega)) (sw_C31 h5 (by omega))).mp (eR.trans eR'.symm)
      obtain rfl : R = R' := sw_C_inj gR gR' e
      exact ⟨rfl, sr_mk h1 h5 hR ha'⟩
    · exact sy_load h1 h5 hb (fun R' a' o' hR' gR' eR' ha' => absurd eR' (hn R' hR' gR')) (fun _ o' => ⟨rfl, sr_mk h1 h5 hP ha⟩)
theorem i_vc_steps {k : Nat} {u : SX} {v : SY} (I : i_Rel k u v) (hk : k + 3 ≤ 1536) (v1 : Int32) (v2 : Int32) : wpX_steps (fun r u' => wpY_steps (fun r' v' => r' = r ∧ i_Rel (k + 3) u' v') v v1 v2) u v1 v2 := by
  obtain ⟨n, P, d, a, o, m, f, h1, h5, hP, ha, rfl, rfl⟩ := I
  rcases sx_cls v1 128 (by decide) with hb | ⟨s, hs, rfl⟩
  · unfold wpX_steps
    dsimp only
    refine sx_isSet_b hb (br_t rfl ?_)
    exact sy_steps_b (Or.inl hb) ⟨rfl, sr_mk h1 h5 hP ha⟩
  · rcases sx_cls v2 128 (by decide) with hb | ⟨t, ht, rfl⟩
    · unfold wpX_steps
      dsimp only
      refine sx_isSet_t hs (br_f (by decide) ?_)
      refine sx_isSet_b hb (br_t rfl ?_)
      exact sy_steps_b (Or.inr ⟨⟨s, hs, rfl⟩, hb⟩) ⟨rfl, sr_mk h1 h5 hP ha⟩
    · refine sx_steps hs ht (fun j d' hj hd => ?_) (fun hn d' => ?_)
      · refine sy_steps hs ht (fun j' m' f' hj' hd' => ?_) (fun hn => absurd hd.1 (hn j))
        have e : j' = j := by
          rcases Nat.lt_trichotomy j' j with w | w | w
          · exact absurd hd'.1 (hd.2 j' w)
          · exact w
          · exact absurd hd.1 (hd'.2 j w)
        rw [e]
        exact ⟨rfl, sr_mk h1 h5 hP ha⟩
      · exact sy_steps hs ht (fun j' m' f' hj' hd' => absurd hd'.1 (hn j' hj')) (fun _ m' f' => ⟨rfl, sr_mk h1 h5 hP ha⟩)
end
