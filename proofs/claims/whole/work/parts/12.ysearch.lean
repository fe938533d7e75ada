/-! the reference's search for the next row that lands apart -/
def sw_T (n i A e : Nat) : Nat := (A * 8 + e) * 8 ^ (n - i)
theorem sw_T_f {n i A h : Nat} (hi : i < n) : sw_T n (i + 1) (A * 8 + h) 0 = sw_T n i A h := by
  unfold sw_T
  rw [show n - i = (n - (i + 1)) + 1 by omega, Nat.pow_succ, Nat.add_zero, Nat.mul_assoc, Nat.mul_comm 8]
theorem sw_T_b {n i A : Nat} (hi : i < n) : sw_T n i (A / 8) (A % 8 + 1) = sw_T n (i + 1) A 8 := by
  unfold sw_T
  rw [show n - i = (n - (i + 1)) + 1 by omega, Nat.pow_succ, show A / 8 * 8 + (A % 8 + 1) = A + 1 by omega, show A * 8 + 8 = (A + 1) * 8 by omega, Nat.mul_assoc, Nat.mul_comm 8]
theorem sw_T_lt {n i A e Q : Nat} (hi : i < n) : 8 * Q < sw_T n i A e ↔ Q < (A * 8 + e) * 8 ^ (n - 1 - i) := by
  unfold sw_T
  rw [show n - i = (n - 1 - i) + 1 by omega, Nat.pow_succ, ← Nat.mul_assoc]
  generalize (A * 8 + e) * 8 ^ (n - 1 - i) = w
  omega
theorem sw_T_le {n i A e h : Nat} (he : e ≤ h) : sw_T n i A e ≤ sw_T n i A h := Nat.mul_le_mul_right _ (by omega)
/-- no row that lands apart from T0 up to where the search stands -/
def sw_no (n T0 t : Nat) : Prop := T0 * 8 ≤ t ∧ ∀ Q, T0 ≤ Q → 8 * Q < t → ¬ sw_J n Q
def sw_cc (n i A x : Nat) : Prop := ∃ j, j < i ∧ (j + sw_d i A j) % n = (i + x) % n
theorem sw_no_s {n i A e h T0 : Nat} (hi : i < n) (he : e ≤ h) (h8 : h ≤ 8) (hc : ∀ x, e ≤ x → x < h → sw_cc n i A x) (H : sw_no n T0 (sw_T n i A e)) : sw_no n T0 (sw_T n i A h) := by
  refine ⟨Nat.le_trans H.1 (sw_T_le he), fun Q h0 hQ => ?_⟩
  by_cases z : 8 * Q < sw_T n i A e
  · exact H.2 Q h0 z
  · rw [sw_T_lt hi] at hQ z
    exact sw_skip hi h8 hc (by omega) hQ
theorem sy_h26 {post : Int32 → Prop} {J11 : Int32 → Int32 → Prop} {a o m f : Nat → Int32} {n i A x : Nat} (h1 : 1 ≤ n) (h5 : n ≤ 5) (hi : i < n) (hx : x < 8) (ho : ∀ j, j < i → o j = nI (sw_d i A j)) (hno : ¬ sw_cc n i A x → J11 (nI x) 0) (hyes : sw_cc n i A x → J11 (nI (x + 1)) 1) : ∀ k j, j + k = i → ((∀ q, q < j → ¬ (q + sw_d i A q) % n = (i + x) % n) → wY_nextHeight_26 post J11 (nI i) (nI x) (nI n) a o m f (k + 1) 0 (nI j)) ∧ (sw_cc n i A x → wY_nextHeight_26 post J11 (nI i) (nI x) (nI n) a o m f (k + 1) 1 (nI j)) := by
  intro k
  induction k with
  | zero =>
    intro j hj
    obtain rfl : j = i := by omega
    constructor
    · intro hq
      refine pk_le j j (fun _ => br_t rfl (hno ?_)) (fun z => absurd z (by omega))
      intro ⟨q, hq1, hq2⟩
      exact hq q hq1 hq2
    · intro hc
      exact pk_le j j (fun _ => br_f (by decide) (nm_r (nI_1 x) (hyes hc))) (fun z => absurd z (by omega))
  | succ k ih =>
    intro j hj
    obtain ⟨ih0, ih1⟩ := ih (j + 1) (by omega)
    constructor
    · intro hq
      have hd := sw_d_lt i A j
      refine pk_le i j (fun z => absurd z (by omega)) (fun _ => ?_)
      refine br_t rfl ⟨sy_in (by omega), sy_n0 h1 h5, sy_n0 h1 h5, ?_⟩
      refine pk_eq ((j + sw_d i A j) % n) ((i + x) % n) (fun e => ?_) (fun e => ?_) ?_ ?_ (by have := Nat.mod_lt (j + sw_d i A j) h1; omega) (by have := Nat.mod_lt (i + x) h1; omega)
      · exact nm_r (nI_1 j) (ih1 ⟨j, by omega, e⟩)
      · refine nm_r (nI_1 j) (ih0 (fun q hq2 => ?_))
        by_cases eq : q = j
        · rw [eq]
          exact e
        · exact hq q (by omega)
      · rw [nI_clamp (by omega), ho j (by omega), nI_add, pk_rem (by omega) (by omega) (by omega)]
      · rw [nI_add, pk_rem (by omega) (by omega) (by omega)]
    · intro hc
      refine pk_le i j (fun z => absurd z (by omega)) (fun _ => ?_)
      exact br_f (by decide) (nm_r (nI_1 j) (ih1 hc))
theorem sy_h11 {post : Int32 → Prop} {a o m f : Nat → Int32} {n i A e : Nat} (h1 : 1 ≤ n) (h5 : n ≤ 5) (hi : i < n) (ho : ∀ j, j < i → o j = nI (sw_d i A j)) (H : ∀ h, e ≤ h → h ≤ 8 → (∀ x, e ≤ x → x < h → sw_cc n i A x) → (h < 8 → ¬ sw_cc n i A h) → post (nI h)) : ∀ k x, x + k = 8 → e ≤ x → (∀ y, e ≤ y → y < x → sw_cc n i A y) → wY_nextHeight_11 post (nI i) (nI n) a o m f (k + 2) (nI x) 1 := by
  intro k
  induction k with
  | zero =>
    intro x hx he hq
    refine br_f (by decide) (pk_le 8 x (fun _ => H x he (by omega) hq (fun z => absurd z (by omega))) (fun z => absurd z (by omega)))
  | succ k ih =>
    intro x hx he hq
    refine br_f (by decide) (pk_le 8 x (fun z => absurd z (by omega)) (fun _ => ⟨i + 1, ?_⟩))
    refine (sy_h26 (J11 := wY_nextHeight_11 post (nI i) (nI n) a o m f (k + 2)) h1 h5 hi (by omega) ho (fun hn => ?_) (fun hc => ?_) i 0 (by omega)).1 (fun q hq => absurd hq (by omega))
    · exact br_t rfl (H x he (by omega) hq (fun _ => hn))
    · refine ih (x + 1) (by omega) (by omega) (fun y hy hy2 => ?_)
      by_cases ey : y = x
      · rw [ey]
        exact hc
      · exact hq y hy (by omega)
theorem sy_nextHeight {post : Int32 → Prop} {a o m f : Nat → Int32} {n i A e : Nat} (h1 : 1 ≤ n) (h5 : n ≤ 5) (hi : i < n) (he : e ≤ 8) (ho : sw_O n i A e o) (H : ∀ h, e ≤ h → h ≤ 8 → (∀ x, e ≤ x → x < h → sw_cc n i A x) → (h < 8 → ¬ sw_cc n i A h) → post (nI h)) : wpY_nextHeight post (nI n, a, o, m, f) (nI i) := by
  unfold wpY_nextHeight
  refine ⟨sy_in (by omega), nm_r (e' := nI e) (by rw [nI_clamp (by omega)]; exact ho.2.1 hi) ⟨8 - e + 2, ?_⟩⟩
  exact sy_h11 h1 h5 hi ho.1 H (8 - e) e (by omega) (Nat.le_refl _) (fun y hy hy2 => absurd hy2 (by omega))
theorem sw_upd2 {o : Nat → Int32} {i : Nat} {x y : Int32} : upd (upd o i x) i y = upd o i y := by
  funext j
  by_cases e : j = i
  · rw [e, pk_us, pk_us]
  · rw [pk_un e, pk_un e, pk_un e]
theorem sw_O_b' {n i A e : Nat} {x : Int32} {o : Nat → Int32} (ho : sw_O n (i + 1) A e o) : sw_O n i (A / 8) (A % 8 + 1) (upd (upd o (i + 1) x) (i + 1) (-1)) := by
  rw [sw_upd2]
  exact sw_O_b ho
theorem sw_mu_pos (n i A e : Nat) : i + 1 ≤ sw_mu n i A e := by
  unfold sw_mu
  omega
theorem sy_n15 {post : Int32 → SY → Prop} {a m f : Nat → Int32} {n T0 : Nat} (h1 : 1 ≤ n) (h5 : n ≤ 5) (H1 : ∀ R o', T0 ≤ R → R < 8 ^ n → sw_J n R → (∀ Q, T0 ≤ Q → Q < R → ¬ sw_J n Q) → sy_A n R o' → post 1 (nI n, a, o', m, f)) (H0 : ∀ o', (∀ Q, T0 ≤ Q → Q < 8 ^ n → ¬ sw_J n Q) → post 0 (nI n, a, o', m, f)) : ∀ fuel i A e o, i ≤ n → A < 8 ^ i → e ≤ 8 → (i = n → e = 0) → sw_PA n i A → sw_O n i A e o → sw_no n T0 (sw_T n i A e) → sw_mu n i A e < fuel → wY_nextPattern_15 post (nI n) fuel (nI i) a o m f := by
  intro fuel
  induction fuel with
  | zero =>
    intro i A e o _ _ _ _ _ _ _ hm
    exact absurd hm (by omega)
  | succ fuel ih =>
    intro i A e o hi hA he hn0 hp ho hT hm
    refine br_f (nI_pos (by omega)) (pk_le n i (fun z => ?_) (fun z => ?_))
    · obtain rfl : i = n := by omega
      have e0 := hn0 rfl
      subst e0
      refine br_t rfl ?_
      have eT : sw_T i i A 0 = A * 8 := by
        unfold sw_T
        rw [Nat.sub_self, Nat.pow_zero, Nat.mul_one, Nat.add_zero]
      rw [eT] at hT
      exact H1 A o (by have := hT.1; omega) hA hp (fun Q q1 q2 => hT.2 Q q1 (by omega)) ho.1
    · refine sy_nextHeight h1 h5 z he ho (fun h g1 g2 g3 g4 => ?_)
      have hT' := sw_no_s z g1 g2 g3 hT
      refine ⟨sy_in (by omega), nm_r (e' := upd o i (nI h)) (by rw [nI_clamp (by omega)]) ⟨sy_in (by omega), ?_⟩⟩
      have ec : upd o i (nI h) (nI i).toNatClampNeg = nI h := by rw [nI_clamp (by omega), pk_us]
      refine pk_le h 7 (fun hh => ?_) (fun hh => ⟨sy_in (by omega), ?_⟩) ec rfl
      · refine nm_r (nI_1 i) (ih (i + 1) (A * 8 + h) 0 _ (by omega) ?_ (by omega) (fun _ => rfl) ?_ (sw_O_f ho (by omega)) ?_ ?_)
        · rw [Nat.pow_succ]
          omega
        · exact sw_PA_s hp (by omega) (fun j hj e => g4 (by omega) ⟨j, hj, e⟩)
        · rw [sw_T_f z]
          exact hT'
        · have := sw_mu_f (A := A) z g1 (show h < 8 by omega)
          omega
      · obtain rfl : h = 8 := by omega
        refine nm_r (e' := upd (upd o i (nI 8)) i (-1)) (by rw [nI_clamp (by omega)]) ?_
        rcases Nat.eq_zero_or_pos i with e0 | e0
        · subst e0
          have := sw_mu_pos n 0 A e
          obtain ⟨g, rfl⟩ : ∃ g, fuel = g + 1 := ⟨fuel - 1, by omega⟩
          refine nm_r (e' := -1) (by decide) ?_
          refine br_t (by decide) (br_f ?_ (H0 _ (fun Q q1 q2 => hT'.2 Q q1 ?_)))
          · intro w
            exact sw_m1 (show n < 2 ^ 31 by omega) w.symm
          · rw [Nat.pow_zero] at hA
            obtain rfl : A = 0 := by omega
            unfold sw_T
            rw [Nat.sub_zero]
            omega
        · obtain ⟨g, rfl⟩ : ∃ g, i = g + 1 := ⟨i - 1, by omega⟩
          refine nm_r (pk_m1 g) (ih g (A / 8) (A % 8 + 1) _ (by omega) ?_ (by omega) (fun w => absurd w (by omega)) (sw_PA_p hp) (sw_O_b' ho) ?_ ?_)
          · rw [Nat.pow_succ] at hA
            omega
          · rw [sw_T_b (by omega)]
            exact hT'
          · have := sw_mu_b (n := n) (i := g) (A := A) (e := e)
            omega
/-- the first row -/
theorem sy_first {post : Int32 → SY → Prop} {a o m f : Nat → Int32} {n : Nat} (h1 : 1 ≤ n) (h5 : n ≤ 5) (ho : ∀ j, j < 5 → o j = -1) (H1 : ∀ R o', R < 8 ^ n → sw_J n R → (∀ Q, Q < R → ¬ sw_J n Q) → sy_A n R o' → post 1 (nI n, a, o', m, f)) (H0 : ∀ o', (∀ Q, Q < 8 ^ n → ¬ sw_J n Q) → post 0 (nI n, a, o', m, f)) : wpY_nextPattern post (nI n, a, o, m, f) 1 := by
  unfold wpY_nextPattern
  refine br_f (by decide) ⟨sw_mu n 0 0 0 + 1, ?_⟩
  refine sy_n15 (T0 := 0) h1 h5 (fun R o' _ r2 r3 r4 r5 => H1 R o' r2 r3 (fun Q hQ => r4 Q (by omega) hQ) r5) (fun o' r => H0 o' (fun Q hQ => r Q (by omega) hQ)) _ 0 0 0 o (by omega) (by decide) (by decide) (fun _ => rfl) (fun j hj => absurd hj (by omega)) ⟨fun j hj => absurd hj (by omega), fun _ => ?_, fun j _ hj => ho j (by omega)⟩ ⟨by omega, fun Q _ hQ => ?_⟩ (by omega)
  · rw [ho 0 (by omega)]
    decide
  · unfold sw_T at hQ
    rw [Nat.zero_mul] at hQ
    omega
theorem sw_PA_J {n R : Nat} (h1 : 1 ≤ n) (hJ : sw_J n R) : sw_PA n (n - 1) (R / 8) := by
  obtain ⟨m, rfl⟩ : ∃ m, n = m + 1 := ⟨n - 1, by omega⟩
  exact sw_PA_p (n := m + 1) (i := m) hJ
/-- the next row -/
theorem sy_next {post : Int32 → SY → Prop} {a o m f : Nat → Int32} {n R : Nat} (h1 : 1 ≤ n) (h5 : n ≤ 5) (hR : R < 8 ^ n) (hJ : sw_J n R) (ho : sy_A n R o) (H1 : ∀ R' o', R < R' → R' < 8 ^ n → sw_J n R' → (∀ Q, R < Q → Q < R' → ¬ sw_J n Q) → sy_A n R' o' → post 1 (nI n, a, o', m, f)) (H0 : ∀ o', (∀ Q, R < Q → Q < 8 ^ n → ¬ sw_J n Q) → post 0 (nI n, a, o', m, f)) : wpY_nextPattern post (nI n, a, o, m, f) 0 := by
  obtain ⟨k, rfl⟩ : ∃ k, n = k + 1 := ⟨n - 1, by omega⟩
  have eo : ∀ j, j < k → o j = nI (sw_d k (R / 8) j) := by
    intro j hj
    have z := ho j (by omega)
    rw [@sw_split R, sw_d_pre (by omega) hj] at z
    exact z
  have el : o k = nI (R % 8) := by
    have z := ho k (by omega)
    rw [@sw_split R, sw_d_last (by omega)] at z
    exact z
  have eT : sw_T (k + 1) k (R / 8) (R % 8 + 1) = (R + 1) * 8 := by
    unfold sw_T
    rw [show k + 1 - k = 1 by omega, Nat.pow_one, show R / 8 * 8 + (R % 8 + 1) = R + 1 by omega]
  have h8 : R / 8 < 8 ^ k := by
    rw [Nat.pow_succ] at hR
    omega
  unfold wpY_nextPattern
  refine br_t rfl (nm_r (e' := nI k) (nI_pred k) ⟨sw_mu (k + 1) k (R / 8) (R % 8 + 1) + 1, ?_⟩)
  refine sy_n15 (T0 := R + 1) h1 h5 (fun R' o' r1 r2 r3 r4 r5 => H1 R' o' (by omega) r2 r3 (fun Q q1 q2 => r4 Q (by omega) q2) r5) (fun o' r => H0 o' (fun Q q1 q2 => r Q (by omega) q2)) _ k (R / 8) (R % 8 + 1) o (by omega) h8 (by omega) (fun w => absurd w (by omega)) (sw_PA_p hJ) ⟨eo, fun _ => ?_, fun j w1 w2 => absurd w1 (by omega)⟩ ⟨by rw [eT]; omega, fun Q q1 q2 => ?_⟩ (by omega)
  · rw [el, nI_1]
  · rw [eT] at q2
    omega
