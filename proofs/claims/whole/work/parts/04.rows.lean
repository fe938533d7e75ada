/-! rows counted, and the search for the next one -/
def sw_gb (n b Q : Nat) : Bool := decide (sw_S n Q n = b * n) && decide (∀ j, j < n → ∀ i, i < j → ¬ sw_l n Q i = sw_l n Q j)
theorem sw_gb_iff {n b Q : Nat} : sw_gb n b Q = true ↔ (sw_S n Q n = b * n ∧ sw_J n Q) := by
  unfold sw_gb sw_J
  rw [Bool.and_eq_true, decide_eq_true_eq, decide_eq_true_eq]
def sw_C (n b : Nat) : Nat → Nat
  | 0 => 0
  | x + 1 => sw_C n b x + (if sw_gb n b x = true then 1 else 0)
theorem sw_C_t {n b x : Nat} (h : sw_S n x n = b * n ∧ sw_J n x) : sw_C n b (x + 1) = sw_C n b x + 1 := by
  show sw_C n b x + (if sw_gb n b x = true then 1 else 0) = _
  rw [if_pos (sw_gb_iff.mpr h)]
theorem sw_C_f {n b x : Nat} (h : ¬ (sw_S n x n = b * n ∧ sw_J n x)) : sw_C n b (x + 1) = sw_C n b x := by
  show sw_C n b x + (if sw_gb n b x = true then 1 else 0) = _
  rw [if_neg (fun z => h (sw_gb_iff.mp z)), Nat.add_zero]
theorem sw_C_s (n b x : Nat) : sw_C n b x ≤ sw_C n b (x + 1) ∧ sw_C n b (x + 1) ≤ sw_C n b x + 1 := by
  show sw_C n b x ≤ sw_C n b x + (if sw_gb n b x = true then 1 else 0) ∧ sw_C n b x + (if sw_gb n b x = true then 1 else 0) ≤ _
  split <;> omega
theorem sw_C_le (n b : Nat) : ∀ x, sw_C n b x ≤ x
  | 0 => Nat.le_refl _
  | x + 1 => by
    have h1 := sw_C_le n b x
    have h2 := sw_C_s n b x
    omega
theorem sw_C_mono (n b x : Nat) : ∀ d, sw_C n b x ≤ sw_C n b (x + d)
  | 0 => Nat.le_refl _
  | d + 1 => by
    have h1 := sw_C_mono n b x d
    have h2 := sw_C_s n b (x + d)
    show _ ≤ sw_C n b (x + d + 1)
    omega
theorem sw_C_skip {n b x : Nat} : ∀ d, (∀ Q, x ≤ Q → Q < x + d → ¬ sw_J n Q) → sw_C n b (x + d) = sw_C n b x
  | 0, _ => rfl
  | d + 1, h => by
    show sw_C n b (x + d + 1) = _
    rw [sw_C_f (fun z => h (x + d) (by omega) (by omega) z.2)]
    exact sw_C_skip d (fun Q a c => h Q a (by omega))
theorem sw_C_skip' {n b x y : Nat} (hxy : x ≤ y) (h : ∀ Q, x ≤ Q → Q < y → ¬ sw_J n Q) : sw_C n b y = sw_C n b x := by
  obtain ⟨d, rfl⟩ : ∃ d, y = x + d := ⟨y - x, by omega⟩
  exact sw_C_skip d h
theorem sw_C_inj {n b x y : Nat} (hx : sw_S n x n = b * n ∧ sw_J n x) (hy : sw_S n y n = b * n ∧ sw_J n y) (h : sw_C n b x = sw_C n b y) : x = y := by
  have one : ∀ a c, (sw_S n a n = b * n ∧ sw_J n a) → a < c → sw_C n b a < sw_C n b c := by
    intro a c ha hac
    have h1 := sw_C_t ha
    have h2 := sw_C_mono n b (a + 1) (c - (a + 1))
    rw [show a + 1 + (c - (a + 1)) = c by omega] at h2
    omega
  rcases Nat.lt_trichotomy x y with z | z | z
  · have := one x y hx z
    omega
  · exact z
  · have := one y x hy z
    omega
/-- no row between two digits at place i that all meet an earlier landing -/
theorem sw_skip {n i A a h : Nat} (hi : i < n) (h8 : h ≤ 8) (hc : ∀ x, a ≤ x → x < h → ∃ j, j < i ∧ (j + sw_d i A j) % n = (i + x) % n) {Q : Nat} (hQ1 : (A * 8 + a) * 8 ^ (n - 1 - i) ≤ Q) (hQ2 : Q < (A * 8 + h) * 8 ^ (n - 1 - i)) : ¬ sw_J n Q := by
  intro hJ
  have hw : 0 < 8 ^ (n - 1 - i) := Nat.pow_pos (by decide)
  have q1 : A * 8 + a ≤ Q / 8 ^ (n - 1 - i) := (Nat.le_div_iff_mul_le hw).mpr hQ1
  have q2 : Q / 8 ^ (n - 1 - i) < A * 8 + h := (Nat.div_lt_iff_lt_mul hw).mpr hQ2
  have e1 : Q / 8 ^ (n - i) = A := by
    rw [show n - i = (n - 1 - i) + 1 by omega, Nat.pow_succ, ← Nat.div_div_eq_div_mul]
    omega
  have e2 : sw_d n Q i = Q / 8 ^ (n - 1 - i) - A * 8 := by
    unfold sw_d
    omega
  obtain ⟨j, hj, ej⟩ := hc (Q / 8 ^ (n - 1 - i) - A * 8) (by omega) (by omega)
  refine hJ i hi j hj ?_
  unfold sw_l
  rw [sw_d_up (i := i) (by omega) hj, e1, e2]
  exact ej
def sw_PA (n i A : Nat) : Prop := ∀ j, j < i → ∀ k, k < j → ¬ (k + sw_d i A k) % n = (j + sw_d i A j) % n
theorem sw_PA_s {n i A h : Nat} (hp : sw_PA n i A) (hh : h < 8) (hc : ∀ j, j < i → ¬ (j + sw_d i A j) % n = (i + h) % n) : sw_PA n (i + 1) (A * 8 + h) := by
  intro j hj k hk
  rw [sw_d_pre hh (show k < i by omega)]
  by_cases e : j = i
  · subst e
    rw [sw_d_last hh]
    exact hc k hk
  · rw [sw_d_pre hh (show j < i by omega)]
    exact hp j (by omega) k hk
theorem sw_PA_p {n i A : Nat} (hp : sw_PA n (i + 1) A) : sw_PA n i (A / 8) := by
  intro j hj k hk
  have z := hp j (by omega) k hk
  rw [@sw_split A, sw_d_pre (by omega) (show k < i by omega), sw_d_pre (by omega) hj] at z
  exact z
/-- how much search is left -/
def sw_c : Nat → Nat
  | 0 => 0
  | k + 1 => 8 * sw_c k + 2
def sw_D (n : Nat) : Nat → Nat → Nat
  | 0, _ => 0
  | i + 1, A => sw_D n i (A / 8) + (7 - A % 8) * sw_c (n - i)
def sw_mu (n i A e : Nat) : Nat := sw_D n i A + (8 - e) * sw_c (n - i) + i + 1
theorem sw_mu_f {n i A e h : Nat} (hi : i < n) (he : e ≤ h) (hh : h < 8) : sw_mu n (i + 1) (A * 8 + h) 0 < sw_mu n i A e := by
  unfold sw_mu
  show sw_D n i ((A * 8 + h) / 8) + (7 - (A * 8 + h) % 8) * sw_c (n - i) + (8 - 0) * sw_c (n - (i + 1)) + (i + 1) + 1 < _
  rw [show (A * 8 + h) / 8 = A by omega, show (A * 8 + h) % 8 = h by omega]
  have e1 : sw_c (n - i) = 8 * sw_c (n - (i + 1)) + 2 := by
    rw [show n - i = (n - (i + 1)) + 1 by omega]
    rfl
  have e2 : (8 - h) * sw_c (n - i) ≤ (8 - e) * sw_c (n - i) := Nat.mul_le_mul_right _ (by omega)
  have e3 : (8 - h) * sw_c (n - i) = (7 - h) * sw_c (n - i) + sw_c (n - i) := by
    rw [show 8 - h = (7 - h) + 1 by omega, Nat.succ_mul]
  generalize (8 - e) * sw_c (n - i) = x at *
  generalize (8 - h) * sw_c (n - i) = y at *
  generalize (7 - h) * sw_c (n - i) = z at *
  omega
theorem sw_mu_b {n i A e : Nat} : sw_mu n i (A / 8) (A % 8 + 1) < sw_mu n (i + 1) A e := by
  unfold sw_mu
  show _ < sw_D n i (A / 8) + (7 - A % 8) * sw_c (n - i) + (8 - e) * sw_c (n - (i + 1)) + (i + 1) + 1
  rw [show 8 - (A % 8 + 1) = 7 - A % 8 by omega]
  generalize (7 - A % 8) * sw_c (n - i) = x
  generalize (8 - e) * sw_c (n - (i + 1)) = y
  omega
/-- the other program's array while it searches: i digits stand, place i was tried below e, the rest is fresh -/
def sw_O (n i A e : Nat) (o : Nat → Int32) : Prop := (∀ j, j < i → o j = nI (sw_d i A j)) ∧ (i < n → o i + 1 = nI e) ∧ (∀ j, i < j → j < n → o j = -1)
theorem sw_O_f {n i A e h : Nat} {o : Nat → Int32} (ho : sw_O n i A e o) (hh : h < 8) : sw_O n (i + 1) (A * 8 + h) 0 (upd o i (nI h)) := by
  refine ⟨fun j hj => ?_, fun hi => ?_, fun j hj hn => ?_⟩
  · by_cases e : j = i
    · subst e
      rw [pk_us, sw_d_last hh]
    · rw [pk_un e, sw_d_pre hh (by omega)]
      exact ho.1 j (by omega)
  · rw [pk_un (by omega), ho.2.2 (i + 1) (by omega) hi]
    decide
  · rw [pk_un (by omega)]
    exact ho.2.2 j (by omega) hn
theorem sw_O_b {n i A e : Nat} {o : Nat → Int32} (ho : sw_O n (i + 1) A e o) : sw_O n i (A / 8) (A % 8 + 1) (upd o (i + 1) (-1)) := by
  refine ⟨fun j hj => ?_, fun hi => ?_, fun j hj hn => ?_⟩
  · have z := ho.1 j (by omega)
    rw [@sw_split A, sw_d_pre (by omega) hj] at z
    rw [pk_un (by omega)]
    exact z
  · have z := ho.1 i (by omega)
    rw [@sw_split A, sw_d_last (by omega)] at z
    rw [pk_un (by omega), z, nI_1]
  · by_cases e : j = i + 1
    · rw [e, pk_us]
    · rw [pk_un e]
      exact ho.2.2 j (by omega) hn
