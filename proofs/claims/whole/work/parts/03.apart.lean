/-! landings as a mask; apart means: the mask is full -/
def sw_M (n P : Nat) : Nat → Nat
  | 0 => 0
  | k + 1 => sw_M n P k ||| 2 ^ sw_l n P k
theorem sw_b (M b : Nat) : M / 2 ^ b % 2 = if M.testBit b then 1 else 0 := by
  rw [Nat.testBit_eq_decide_div_mod_eq]
  have : M / 2 ^ b % 2 = 0 ∨ M / 2 ^ b % 2 = 1 := by omega
  rcases this with h | h <;> simp [h]
theorem sw_b1 {M b : Nat} : M / 2 ^ b % 2 = 0 ↔ M.testBit b = false := by
  rw [sw_b]
  cases M.testBit b <;> simp
theorem sw_orb {M b c : Nat} : (M ||| 2 ^ b).testBit c = (M.testBit c || decide (b = c)) := by
  rw [Nat.testBit_or, Nat.testBit_two_pow]
theorem sw_or_lt {n M b : Nat} (hM : M < 2 ^ n) (hb : b < n) : M ||| 2 ^ b < 2 ^ n :=
  Nat.or_lt_two_pow hM (Nat.pow_lt_pow_right (by decide) hb)
theorem sw_M_bit (n P b : Nat) : ∀ k, (sw_M n P k).testBit b = true ↔ ∃ i, i < k ∧ sw_l n P i = b
  | 0 => by
    constructor
    · intro h
      have : (0 : Nat).testBit b = true := h
      simp at this
    · intro ⟨i, hi, _⟩
      omega
  | k + 1 => by
    show (sw_M n P k ||| 2 ^ sw_l n P k).testBit b = true ↔ _
    rw [sw_orb, Bool.or_eq_true, sw_M_bit n P b k, decide_eq_true_eq]
    constructor
    · intro h
      rcases h with ⟨i, hi, e⟩ | e
      · exact ⟨i, by omega, e⟩
      · exact ⟨k, by omega, e⟩
    · intro ⟨i, hi, e⟩
      by_cases z : i = k
      · exact Or.inr (z ▸ e)
      · exact Or.inl ⟨i, by omega, e⟩
theorem sw_M_lt {n P : Nat} (h : 0 < n) : ∀ k, sw_M n P k < 2 ^ n
  | 0 => Nat.two_pow_pos n
  | k + 1 => sw_or_lt (sw_M_lt h k) (sw_l_lt P k h)
def sw_any : Nat → (Nat → Bool) → Bool
  | 0, _ => false
  | k + 1, f => f k || sw_any k f
def sw_all : Nat → (Nat → Bool) → Bool
  | 0, _ => true
  | k + 1, f => f k && sw_all k f
theorem sw_any_ok {f : Nat → Bool} : ∀ {k : Nat}, sw_any k f = true → ∃ j, j < k ∧ f j = true
  | 0, h => Bool.noConfusion (show false = true from h)
  | k + 1, h => by
    have h' : (f k || sw_any k f) = true := h
    rw [Bool.or_eq_true] at h'
    rcases h' with a | a
    · exact ⟨k, by omega, a⟩
    · obtain ⟨j, hj, e⟩ := sw_any_ok a
      exact ⟨j, by omega, e⟩
theorem sw_all_ok {f : Nat → Bool} : ∀ {k : Nat}, sw_all k f = true → ∀ j, j < k → f j = true
  | 0, _, j, hj => by omega
  | k + 1, h, j, hj => by
    have h' : (f k && sw_all k f) = true := h
    rw [Bool.and_eq_true] at h'
    by_cases e : j = k
    · rw [e]
      exact h'.1
    · exact sw_all_ok h'.2 j (by omega)
theorem sw_f1 : ∀ a, a < 1 → (0 ||| 2 ^ a = 1) := by decide +kernel
theorem sw_f2 : ∀ a, a < 2 → ∀ b, b < 2 → ((0 ||| 2 ^ a) ||| 2 ^ b = 3 ↔ ¬ a = b) := by decide +kernel
theorem sw_f3 : ∀ a, a < 3 → ∀ b, b < 3 → ∀ c, c < 3 → (((0 ||| 2 ^ a) ||| 2 ^ b) ||| 2 ^ c = 7 ↔ (¬ a = b ∧ ¬ a = c ∧ ¬ b = c)) := by decide +kernel
theorem sw_f4b : sw_all 4 (fun a => sw_all 4 (fun b => sw_all 4 (fun c => sw_all 4 (fun d => ((((((0 ||| 2 ^ a) ||| 2 ^ b) ||| 2 ^ c) ||| 2 ^ d) == 15) == (!(a == b) && !(a == c) && !(b == c) && !(a == d) && !(b == d) && !(c == d))))))) = true := by decide +kernel
theorem sw_f4 : ∀ a, a < 4 → ∀ b, b < 4 → ∀ c, c < 4 → ∀ d, d < 4 → ((((0 ||| 2 ^ a) ||| 2 ^ b) ||| 2 ^ c) ||| 2 ^ d = 15 ↔ (¬ a = b ∧ ¬ a = c ∧ ¬ b = c ∧ ¬ a = d ∧ ¬ b = d ∧ ¬ c = d)) := by
  intro a ha b hb c hc d hd
  have t : ((((((0 ||| 2 ^ a) ||| 2 ^ b) ||| 2 ^ c) ||| 2 ^ d) == 15) == (!(a == b) && !(a == c) && !(b == c) && !(a == d) && !(b == d) && !(c == d))) = true := sw_all_ok (sw_all_ok (sw_all_ok (sw_all_ok sw_f4b a ha) b hb) c hc) d hd
  have e := eq_of_beq t
  rw [Bool.eq_iff_iff] at e
  simpa [and_assoc] using e
theorem sw_f5b : sw_all 5 (fun a => sw_all 5 (fun b => sw_all 5 (fun c => sw_all 5 (fun d => sw_all 5 (fun e => (((((((0 ||| 2 ^ a) ||| 2 ^ b) ||| 2 ^ c) ||| 2 ^ d) ||| 2 ^ e) == 31) == (!(a == b) && !(a == c) && !(b == c) && !(a == d) && !(b == d) && !(c == d) && !(a == e) && !(b == e) && !(c == e) && !(d == e)))))))) = true := by decide +kernel
theorem sw_f5 : ∀ a, a < 5 → ∀ b, b < 5 → ∀ c, c < 5 → ∀ d, d < 5 → ∀ e, e < 5 → (((((0 ||| 2 ^ a) ||| 2 ^ b) ||| 2 ^ c) ||| 2 ^ d) ||| 2 ^ e = 31 ↔ (¬ a = b ∧ ¬ a = c ∧ ¬ b = c ∧ ¬ a = d ∧ ¬ b = d ∧ ¬ c = d ∧ ¬ a = e ∧ ¬ b = e ∧ ¬ c = e ∧ ¬ d = e)) := by
  intro a ha b hb c hc d hd e he
  have t : (((((((0 ||| 2 ^ a) ||| 2 ^ b) ||| 2 ^ c) ||| 2 ^ d) ||| 2 ^ e) == 31) == (!(a == b) && !(a == c) && !(b == c) && !(a == d) && !(b == d) && !(c == d) && !(a == e) && !(b == e) && !(c == e) && !(d == e))) = true := sw_all_ok (sw_all_ok (sw_all_ok (sw_all_ok (sw_all_ok sw_f5b a ha) b hb) c hc) d hd) e he
  have e := eq_of_beq t
  rw [Bool.eq_iff_iff] at e
  simpa [and_assoc] using e
theorem sw_J1 {P : Nat} : sw_J 1 P := fun j hj i hi => by omega
theorem sw_J2 {P : Nat} : sw_J 2 P ↔ ¬ sw_l 2 P 0 = sw_l 2 P 1 := by
  constructor
  · intro h
    exact h 1 (by decide) 0 (by decide)
  · intro a j hj i hi
    obtain rfl : j = 1 := by omega
    obtain rfl : i = 0 := by omega
    exact a
theorem sw_J3 {P : Nat} : sw_J 3 P ↔ (¬ sw_l 3 P 0 = sw_l 3 P 1 ∧ ¬ sw_l 3 P 0 = sw_l 3 P 2 ∧ ¬ sw_l 3 P 1 = sw_l 3 P 2) := by
  constructor
  · intro h
    exact ⟨h 1 (by decide) 0 (by decide), h 2 (by decide) 0 (by decide), h 2 (by decide) 1 (by decide)⟩
  · intro ⟨a, b, c⟩ j hj i hi
    have : (j = 1 ∧ i = 0) ∨ (j = 2 ∧ i = 0) ∨ (j = 2 ∧ i = 1) := by omega
    rcases this with ⟨rfl, rfl⟩ | ⟨rfl, rfl⟩ | ⟨rfl, rfl⟩ <;> assumption
theorem sw_J4 {P : Nat} : sw_J 4 P ↔ (¬ sw_l 4 P 0 = sw_l 4 P 1 ∧ ¬ sw_l 4 P 0 = sw_l 4 P 2 ∧ ¬ sw_l 4 P 1 = sw_l 4 P 2 ∧ ¬ sw_l 4 P 0 = sw_l 4 P 3 ∧ ¬ sw_l 4 P 1 = sw_l 4 P 3 ∧ ¬ sw_l 4 P 2 = sw_l 4 P 3) := by
  constructor
  · intro h
    exact ⟨h 1 (by decide) 0 (by decide), h 2 (by decide) 0 (by decide), h 2 (by decide) 1 (by decide), h 3 (by decide) 0 (by decide), h 3 (by decide) 1 (by decide), h 3 (by decide) 2 (by decide)⟩
  · intro ⟨a, b, c, d, e, f⟩ j hj i hi
    have : (j = 1 ∧ i = 0) ∨ (j = 2 ∧ i = 0) ∨ (j = 2 ∧ i = 1) ∨ (j = 3 ∧ i = 0) ∨ (j = 3 ∧ i = 1) ∨ (j = 3 ∧ i = 2) := by omega
    rcases this with ⟨rfl, rfl⟩ | ⟨rfl, rfl⟩ | ⟨rfl, rfl⟩ | ⟨rfl, rfl⟩ | ⟨rfl, rfl⟩ | ⟨rfl, rfl⟩ <;> assumption
theorem sw_J5 {P : Nat} : sw_J 5 P ↔ (¬ sw_l 5 P 0 = sw_l 5 P 1 ∧ ¬ sw_l 5 P 0 = sw_l 5 P 2 ∧ ¬ sw_l 5 P 1 = sw_l 5 P 2 ∧ ¬ sw_l 5 P 0 = sw_l 5 P 3 ∧ ¬ sw_l 5 P 1 = sw_l 5 P 3 ∧ ¬ sw_l 5 P 2 = sw_l 5 P 3 ∧ ¬ sw_l 5 P 0 = sw_l 5 P 4 ∧ ¬ sw_l 5 P 1 = sw_l 5 P 4 ∧ ¬ sw_l 5 P 2 = sw_l 5 P 4 ∧ ¬ sw_l 5 P 3 = sw_l 5 P 4) := by
  constructor
  · intro h
    exact ⟨h 1 (by decide) 0 (by decide), h 2 (by decide) 0 (by decide), h 2 (by decide) 1 (by decide), h 3 (by decide) 0 (by decide), h 3 (by decide) 1 (by decide), h 3 (by decide) 2 (by decide), h 4 (by decide) 0 (by decide), h 4 (by decide) 1 (by decide), h 4 (by decide) 2 (by decide), h 4 (by decide) 3 (by decide)⟩
  · intro ⟨a, b, c, d, e, f, g, k, l, m⟩ j hj i hi
    have : (j = 1 ∧ i = 0) ∨ (j = 2 ∧ i = 0) ∨ (j = 2 ∧ i = 1) ∨ (j = 3 ∧ i = 0) ∨ (j = 3 ∧ i = 1) ∨ (j = 3 ∧ i = 2) ∨ (j = 4 ∧ i = 0) ∨ (j = 4 ∧ i = 1) ∨ (j = 4 ∧ i = 2) ∨ (j = 4 ∧ i = 3) := by omega
    rcases this with ⟨rfl, rfl⟩ | ⟨rfl, rfl⟩ | ⟨rfl, rfl⟩ | ⟨rfl, rfl⟩ | ⟨rfl, rfl⟩ | ⟨rfl, rfl⟩ | ⟨rfl, rfl⟩ | ⟨rfl, rfl⟩ | ⟨rfl, rfl⟩ | ⟨rfl, rfl⟩ <;> assumption
theorem sw_full {n P : Nat} (h1 : 1 ≤ n) (h5 : n ≤ 5) : sw_M n P n = 2 ^ n - 1 ↔ sw_J n P := by
  have : n = 1 ∨ n = 2 ∨ n = 3 ∨ n = 4 ∨ n = 5 := by omega
  rcases this with rfl | rfl | rfl | rfl | rfl
  · exact ⟨fun _ => sw_J1, fun _ => sw_f1 _ (sw_l_lt P 0 (by decide))⟩
  · rw [sw_J2]
    exact sw_f2 _ (sw_l_lt P 0 (by decide)) _ (sw_l_lt P 1 (by decide))
  · rw [sw_J3]
    exact sw_f3 _ (sw_l_lt P 0 (by decide)) _ (sw_l_lt P 1 (by decide)) _ (sw_l_lt P 2 (by decide))
  · rw [sw_J4]
    exact sw_f4 _ (sw_l_lt P 0 (by decide)) _ (sw_l_lt P 1 (by decide)) _ (sw_l_lt P 2 (by decide)) _ (sw_l_lt P 3 (by decide))
  · rw [sw_J5]
    exact sw_f5 _ (sw_l_lt P 0 (by decide)) _ (sw_l_lt P 1 (by decide)) _ (sw_l_lt P 2 (by decide)) _ (sw_l_lt P 3 (by decide)) _ (sw_l_lt P 4 (by decide))
theorem sw_surj {n P p : Nat} (h1 : 1 ≤ n) (h5 : n ≤ 5) (hJ : sw_J n P) (hp : p < n) : ∃ j, j < n ∧ sw_l n P j = p := by
  apply (sw_M_bit n P p n).mp
  rw [(sw_full h1 h5).mpr hJ, Nat.testBit_two_pow_sub_one]
  exact decide_eq_true hp
/-! every row that lands apart is met by the tree of prefixes: what a program finds true at its leaves holds -/
def sw_cf (n i A h : Nat) : Bool := sw_any i (fun j => (j + sw_d i A j) % n == (i + h) % n)
def sw_tree (n : Nat) (F : Nat → Bool) : Nat → Nat → Nat → Bool
  | 0, _, A => F A
  | k + 1, i, A => sw_all 8 (fun h => sw_cf n i A h || sw_tree n F k (i + 1) (A * 8 + h))
theorem sw_tree_ok {n Q : Nat} {F : Nat → Bool} (hJ : sw_J n Q) : ∀ (k i A : Nat), sw_tree n F k i A = true → i + k = n → Q / 8 ^ k = A → F Q = true
  | 0, i, A, h, _, e => by
    rw [Nat.pow_zero, Nat.div_one] at e
    rw [e]
    exact h
  | k + 1, i, A, h, hk, e => by
    have h' : sw_all 8 (fun h => sw_cf n i A h || sw_tree n F k (i + 1) (A * 8 + h)) = true := h
    have z := sw_all_ok h' (Q / 8 ^ k % 8) (Nat.mod_lt _ (by decide))
    have z' : (sw_cf n i A (Q / 8 ^ k % 8) || sw_tree n F k (i + 1) (A * 8 + Q / 8 ^ k % 8)) = true := z
    rw [Bool.or_eq_true] at z'
    rcases z' with c | c
    · obtain ⟨j, hj, ej⟩ := sw_any_ok c
      have ej' : (j + sw_d i A j) % n = (i + Q / 8 ^ k % 8) % n := eq_of_beq ej
      exfalso
      refine hJ i (by omega) j hj ?_
      have e1 : sw_d n Q j = sw_d i A j := by
        rw [sw_d_up (i := i) (by omega) hj, show n - i = k + 1 by omega, e]
      have e2 : sw_d n Q i = Q / 8 ^ k % 8 := by
        unfold sw_d
        rw [show n - 1 - i = k by omega]
      unfold sw_l
      rw [e1, e2]
      exact ej'
    · refine sw_tree_ok hJ k (i + 1) _ c (by omega) ?_
      rw [Nat.pow_succ, ← Nat.div_div_eq_div_mul] at e
      omega
theorem sw_tree_all {n Q : Nat} {F : Nat → Bool} (h : sw_tree n F n 0 0 = true) (hQ : Q < 8 ^ n) (hJ : sw_J n Q) : F Q = true :=
  sw_tree_ok hJ n 0 0 h (by omega) (Nat.div_eq_of_lt hQ)
/-! states -/
def sw_ix (n : Nat) (t : Int) (k : Nat) : Nat := ((t - (k : Int)) % (n : Int)).toNat
def sw_st (n P : Nat) (t : Int) : Nat → Nat
  | 0 => 0
  | k + 1 => if k + 1 ≤ sw_d n P (sw_ix n t (k + 1)) then sw_st n P t k ||| 2 ^ (sw_d n P (sw_ix n t (k + 1)) - (k + 1)) else sw_st n P t k
theorem sw_st_lt (n P : Nat) (t : Int) : ∀ k, sw_st n P t k < 2 ^ 7
  | 0 => Nat.two_pow_pos 7
  | k + 1 => by
    have h := sw_d_lt n P (sw_ix n t (k + 1))
    unfold sw_st
    split
    · exact sw_or_lt (sw_st_lt n P t k) (by omega)
    · exact sw_st_lt n P t k
def sw_mb (s : Nat) : Nat → Nat
  | 0 => 0
  | k + 1 => sw_mb s k + s / 2 ^ k % 2
theorem sw_mb_le (s : Nat) : ∀ k, sw_mb s k ≤ k
  | 0 => Nat.le_refl _
  | k + 1 => by
    have h := sw_mb_le s k
    show sw_mb s k + s / 2 ^ k % 2 ≤ k + 1
    omega
theorem sw_5 {P : Nat → Prop} (a1 : P 1) (a2 : P 2) (a3 : P 3) (a4 : P 4) (a5 : P 5) {n : Nat} (h1 : 1 ≤ n) (h5 : n ≤ 5) : P n := by
  have : n = 1 ∨ n = 2 ∨ n = 3 ∨ n = 4 ∨ n = 5 := by omega
  rcases this with rfl | rfl | rfl | rfl | rfl <;> assumption
/-! the way of a ball -/
def sw_it (n P i : Nat) : Nat → Nat
  | 0 => i
  | k + 1 => sw_l n P (sw_it n P i k)
def sw_bt (n P i : Nat) : Nat → Nat
  | 0 => i
  | k + 1 => sw_bt n P i k + sw_d n P (sw_it n P i k)
theorem sw_it_lt {n P i : Nat} (hi : i < n) : ∀ k, sw_it n P i k < n
  | 0 => hi
  | _ + 1 => sw_l_lt P _ (by omega)
theorem sw_bt_mod {n P i : Nat} (hi : i < n) : ∀ k, sw_bt n P i k % n = sw_it n P i k
  | 0 => Nat.mod_eq_of_lt hi
  | k + 1 => by
    show (sw_bt n P i k + sw_d n P (sw_it n P i k)) % n = (sw_it n P i k + sw_d n P (sw_it n P i k)) % n
    rw [← sw_bt_mod hi k, Nat.mod_add_mod]
theorem sw_bt_le {n P i : Nat} : ∀ k, i ≤ sw_bt n P i k ∧ sw_bt n P i k ≤ i + 7 * k
  | 0 => ⟨Nat.le_refl _, Nat.le_refl _⟩
  | k + 1 => by
    have h := sw_bt_le (n := n) (P := P) (i := i) k
    have h2 := sw_d_lt n P (sw_it n P i k)
    show i ≤ sw_bt n P i k + sw_d n P (sw_it n P i k) ∧ sw_bt n P i k + sw_d n P (sw_it n P i k) ≤ _
    omega
def sw_back (n P : Nat) : Bool := sw_all n (fun i => sw_any n (fun k => sw_it n P i (k + 1) == i))
theorem sw_bk1 : sw_tree 1 (sw_back 1) 1 0 0 = true := by decide +kernel
theorem sw_bk2 : sw_tree 2 (sw_back 2) 2 0 0 = true := by decide +kernel
theorem sw_bk3 : sw_tree 3 (sw_back 3) 3 0 0 = true := by decide +kernel
theorem sw_bk4 : sw_tree 4 (sw_back 4) 4 0 0 = true := by decide +kernel
theorem sw_bk5 : sw_tree 5 (sw_back 5) 5 0 0 = true := by decide +kernel
theorem sw_ret {n P i : Nat} (h1 : 1 ≤ n) (h5 : n ≤ 5) (hP : P < 8 ^ n) (hJ : sw_J n P) (hi : i < n) : ∃ k, k < n ∧ sw_it n P i (k + 1) = i ∧ ∀ j, j < k → ¬ sw_it n P i (j + 1) = i := by
  have t := sw_5 (P := fun n => sw_tree n (sw_back n) n 0 0 = true) sw_bk1 sw_bk2 sw_bk3 sw_bk4 sw_bk5 h1 h5
  have a : sw_all n (fun i => sw_any n (fun k => sw_it n P i (k + 1) == i)) = true := sw_tree_all t hP hJ
  have b : sw_any n (fun k => sw_it n P i (k + 1) == i) = true := sw_all_ok a i hi
  obtain ⟨k, hk, e⟩ := sw_any_ok b
  obtain ⟨m, hm, hl⟩ := pk_least (fun k => sw_it n P i (k + 1) = i) ⟨k, eq_of_beq e⟩
  refine ⟨m, ?_, hm, hl⟩
  rcases Nat.lt_or_ge k m with z | z
  · exact absurd (eq_of_beq e) (hl k z)
  · omega
/-! balls met one by one: the mask of a ball's throws, and the other program's walk to it -/
def sw_tb (n P i : Nat) : Nat → Nat
  | 0 => 0
  | k + 1 => sw_tb n P i k ||| 2 ^ sw_it n P i k
theorem sw_tb_lt {n P i : Nat} (hi : i < n) : ∀ k, sw_tb n P i k < 2 ^ n
  | 0 => Nat.two_pow_pos n
  | k + 1 => sw_or_lt (sw_tb_lt hi k) (sw_it_lt hi k)
def sw_ox (n P : Nat) : Nat → Nat × Nat
  | 0 => (0, 0)
  | i + 1 => if sw_d n P i ≠ 0 ∧ (sw_ox n P i).2 / 2 ^ i % 2 = 0 then ((sw_ox n P i).1 + 1, (sw_ox n P i).2 ||| sw_tb n P i n) else sw_ox n P i
def sw_yw (n P : Nat) : Nat → Nat → Nat → Option Nat
  | 0, _, _ => none
  | k + 1, s, a => if s / 2 ^ a % 2 = 0 then sw_yw n P k (s ||| 2 ^ a) (sw_l n P a) else some s
def sw_orbs (n P : Nat) : Bool := sw_all n (fun i => sw_d n P i == 0 || (sw_ox n P i).2 / 2 ^ i % 2 == 1 || sw_yw n P 7 (sw_ox n P i).2 i == some ((sw_ox n P i).2 ||| sw_tb n P i n))
theorem sw_ob1 : sw_tree 1 (sw_orbs 1) 1 0 0 = true := by decide +kernel
theorem sw_ob2 : sw_tree 2 (sw_orbs 2) 2 0 0 = true := by decide +kernel
theorem sw_ob3 : sw_tree 3 (sw_orbs 3) 3 0 0 = true := by decide +kernel
theorem sw_ob4 : sw_tree 4 (sw_orbs 4) 4 0 0 = true := by decide +kernel
theorem sw_ob5 : sw_tree 5 (sw_orbs 5) 5 0 0 = true := by decide +kernel
theorem sw_orb_ok {n P i : Nat} (h1 : 1 ≤ n) (h5 : n ≤ 5) (hP : P < 8 ^ n) (hJ : sw_J n P) (hi : i < n) (hd : ¬ sw_d n P i = 0) (hs : (sw_ox n P i).2 / 2 ^ i % 2 = 0) : sw_yw n P 7 (sw_ox n P i).2 i = some ((sw_ox n P i).2 ||| sw_tb n P i n) := by
  have t := sw_5 (P := fun n => sw_tree n (sw_orbs n) n 0 0 = true) sw_ob1 sw_ob2 sw_ob3 sw_ob4 sw_ob5 h1 h5
  have b := sw_all_ok (k := n) (sw_tree_all t hP hJ) i hi
  have b' : (sw_d n P i == 0 || (sw_ox n P i).2 / 2 ^ i % 2 == 1 || sw_yw n P 7 (sw_ox n P i).2 i == some ((sw_ox n P i).2 ||| sw_tb n P i n)) = true := b
  rw [Bool.or_eq_true, Bool.or_eq_true] at b'
  rcases b' with (c | c) | c
  · exact absurd (eq_of_beq c) hd
  · have := eq_of_beq c
    omega
  · exact eq_of_beq c
theorem sw_ox_lt {n P : Nat} (h : 0 < n) : ∀ i, i ≤ n → (sw_ox n P i).1 ≤ i ∧ (sw_ox n P i).2 < 2 ^ n
  | 0, _ => ⟨Nat.le_refl _, Nat.two_pow_pos n⟩
  | i + 1, hi => by
    have a := sw_ox_lt (P := P) h i (by omega)
    unfold sw_ox
    split
    · exact ⟨by have := a.1; omega, Nat.or_lt_two_pow a.2 (sw_tb_lt (by omega) n)⟩
    · exact ⟨by have := a.1; omega, a.2⟩
