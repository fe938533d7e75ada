/-! the component's own methods against the picture -/
theorem sx_32 {n : Nat} (h5 : n ≤ 5) : 2 ^ n ≤ 32 := Nat.pow_le_pow_right (n := 2) (by decide) h5
theorem sx_M31 {n P : Nat} (i : Nat) (h1 : 1 ≤ n) (h5 : n ≤ 5) : sw_M n P i < 2 ^ 31 := by
  have a := sw_M_lt (P := P) h1 i
  have b := sx_32 h5
  omega
theorem sx_b0 {M b : Nat} (hM : M < 2 ^ 31) (hb : b < 32) (h : M / 2 ^ b % 2 = 0) : (nI M >>> (nI b &&& 31)) &&& 1 = 0 := by
  rw [sw_bit hM hb, h]
  rfl
theorem sx_b1 {M b : Nat} (hM : M < 2 ^ 31) (hb : b < 32) (h : ¬ M / 2 ^ b % 2 = 0) : ¬ (nI M >>> (nI b &&& 31)) &&& 1 = 0 := by
  have e : M / 2 ^ b % 2 = 1 := by omega
  rw [sw_bit hM hb, e]
  decide
/-- out of range -/
def sx_bad (m : Nat) (p : Int32) : Prop := p < 0 ∨ (¬ p < 0 ∧ nI m ≤ p ∧ ¬ p < nI m)
theorem sx_cls (p : Int32) (m : Nat) (hm : m < 2 ^ 30) : sx_bad m p ∨ ∃ j : Nat, j < m ∧ p = nI j := by
  rcases pk_ix p (n := m) (by omega) with h | h | h
  · exact Or.inl (Or.inl h)
  · have h' := h
    rw [Int32.le_iff_toInt_le, nI_toInt (by omega)] at h'
    refine Or.inl (Or.inr ⟨?_, h, ?_⟩)
    · rw [sw_lt0]
      omega
    · rw [Int32.lt_iff_toInt_lt, nI_toInt (by omega)]
      omega
  · exact Or.inr h
theorem sx_bad_s {m : Nat} {p : Int32} (hm : m < 2 ^ 30) (h : nI (m + 1) ≤ p) : nI m < p ∧ ¬ p ≤ nI m := by
  rw [Int32.le_iff_toInt_le, nI_toInt (by omega)] at h
  rw [Int32.lt_iff_toInt_lt, Int32.le_iff_toInt_le, nI_toInt (by omega)]
  omega
theorem sx_isHeight_t {post : Int32 → Prop} {u : SX} {j : Nat} (hj : j < 8) (h : post 1) : wpX_isHeight post u (nI j) := by
  obtain ⟨u1, u2, u3⟩ := u
  unfold wpX_isHeight
  exact br_f (nI_pos (by omega)) (pk_lt 7 j (fun z => absurd z (by omega)) (fun _ => h))
theorem sx_isHeight_b {post : Int32 → Prop} {u : SX} {p : Int32} (hb : sx_bad 8 p) (h : post 0) : wpX_isHeight post u p := by
  obtain ⟨u1, u2, u3⟩ := u
  unfold wpX_isHeight
  rcases hb with z | ⟨z, z2, _⟩
  · exact br_t z h
  · exact br_f z (br_t (sx_bad_s (m := 7) (by decide) z2).1 h)
theorem sx_isBall_t {post : Int32 → Prop} {u : SX} {j : Nat} (hj : j < 8) (h : post 1) : wpX_isBallNumber post u (nI j) := by
  obtain ⟨u1, u2, u3⟩ := u
  unfold wpX_isBallNumber
  exact br_f (nI_pos (by omega)) (pk_lt 7 j (fun z => absurd z (by omega)) (fun _ => h))
theorem sx_isBall_b {post : Int32 → Prop} {u : SX} {p : Int32} (hb : sx_bad 8 p) (h : post 0) : wpX_isBallNumber post u p := by
  obtain ⟨u1, u2, u3⟩ := u
  unfold wpX_isBallNumber
  rcases hb with z | ⟨z, z2, _⟩
  · exact br_t z h
  · exact br_f z (br_t (sx_bad_s (m := 7) (by decide) z2).1 h)
theorem sx_isThrow_t {post : Int32 → Prop} {pat : Int32} {d : Nat → Int32} {n j : Nat} (h5 : n ≤ 5) (hj : j < n) (h : post 1) : wpX_isThrow post (pat, nI n, d) (nI j) := by
  unfold wpX_isThrow
  exact br_f (nI_pos (by omega)) (pk_le n j (fun z => absurd z (by omega)) (fun _ => h))
theorem sx_isThrow_b {post : Int32 → Prop} {pat : Int32} {d : Nat → Int32} {n : Nat} {p : Int32} (hb : sx_bad n p) (h : post 0) : wpX_isThrow post (pat, nI n, d) p := by
  unfold wpX_isThrow
  rcases hb with z | ⟨z, z2, _⟩
  · exact br_t z h
  · exact br_f z (br_t z2 h)
theorem sx_isSet_t {post : Int32 → Prop} {u : SX} {j : Nat} (hj : j < 128) (h : post 1) : wpX_isSet post u (nI j) := by
  obtain ⟨u1, u2, u3⟩ := u
  unfold wpX_isSet
  exact br_f (nI_pos (by omega)) (pk_le 128 j (fun z => absurd z (by omega)) (fun _ => h))
theorem sx_isSet_b {post : Int32 → Prop} {u : SX} {p : Int32} (hb : sx_bad 128 p) (h : post 0) : wpX_isSet post u p := by
  obtain ⟨u1, u2, u3⟩ := u
  unfold wpX_isSet
  rcases hb with z | ⟨z, z2, _⟩
  · exact br_t z h
  · exact br_f z (br_t z2 h)
theorem sx_sh {n i : Nat} (hi : i < n) : (3 : Int32) * (nI n - 1 - nI i) = nI (3 * (n - 1 - i)) := by
  have e1 : nI n - 1 = nI (n - 1) := pk_sub (a := n) (b := 1) (by omega)
  rw [e1, pk_sub (by omega)]
  exact pk_mul 3 (n - 1 - i)
theorem sx_shiftOf {post : Int32 → Prop} {pat : Int32} {d : Nat → Int32} {n i : Nat} (hi : i < n) (h : post (nI (3 * (n - 1 - i)))) : wpX_shiftOf post (pat, nI n, d) (nI i) := by
  unfold wpX_shiftOf
  exact ek_v (P := post) (sx_sh hi) h
theorem sx_heightIn {post : Int32 → Prop} {pat : Int32} {d : Nat → Int32} {n P i : Nat} (h5 : n ≤ 5) (hP : P < 8 ^ n) (hi : i < n) (h : post (nI (sw_d n P i))) : wpX_heightIn post (pat, nI n, d) (nI P) (nI i) := by
  unfold wpX_heightIn
  dsimp only
  refine sx_shiftOf hi ?_
  exact ek_v (P := post) (sw_get h5 hP) h
theorem sx_withHeight {post : Int32 → Prop} {pat : Int32} {d : Nat → Int32} {n P i h : Nat} (h5 : n ≤ 5) (hi : i < n) (hh : h < 8) (hp : post (nI (sw_w n P i h))) : wpX_withHeight post (pat, nI n, d) (nI P) (nI i) (nI h) := by
  unfold wpX_withHeight
  dsimp only
  refine sx_shiftOf hi ?_
  exact ek_v (P := post) (sw_put h5 (by omega) hh) hp
theorem sx_throwAt' {post : Int32 → Prop} {pat : Int32} {d : Nat → Int32} {n : Nat} {x : Int32} (h1 : 1 ≤ n) (h5 : n ≤ 5) (h : post (nI (x.toInt % (n : Int)).toNat)) : wpX_throwAt post (pat, nI n, d) x := by
  have r := sw_rn (x := x) h1 h5
  have hc : (1 : Int32) ≤ nI n := nI_le (a := 1) h1 (by omega)
  unfold wpX_throwAt
  dsimp only
  refine br_t hc ⟨nI_ne0 (by omega) (by omega), nm_e ?_⟩
  exact br_c (fun h0 => ek_v (P := post) (r.2 (Int32.not_lt.mpr h0)) h) (fun h0 => ek_v (P := post) (r.1 (Int32.not_le.mp h0)) h)
theorem sx_throwAt {post : Int32 → Prop} {pat : Int32} {d : Nat → Int32} {n m : Nat} (h1 : 1 ≤ n) (h5 : n ≤ 5) (hm : m < 2 ^ 31) (h : post (nI (m % n))) : wpX_throwAt post (pat, nI n, d) (nI m) := by
  refine sx_throwAt' h1 h5 ?_
  rw [nI_toInt hm, sw_nat h1]
  exact h
theorem sx_ap_l {post : Int32 → Prop} {pat : Int32} {d : Nat → Int32} {n P : Nat} (h1 : 1 ≤ n) (h5 : n ≤ 5) (hP : P < 8 ^ n) (ht : sw_J n P → post 1) (hf : ¬ sw_J n P → post 0) : ∀ k i, i + k = n → (∀ j, j < i → ∀ i', i' < j → ¬ sw_l n P i' = sw_l n P j) → wX_landsApart_4 post (nI P) pat (nI n) d (k + 1) (nI (sw_M n P i)) (nI i) := by
  intro k
  induction k with
  | zero =>
    intro i hi hp
    obtain rfl : i = n := by omega
    exact pk_le i i (fun _ => ht hp) (fun z => absurd z (by omega))
  | succ k ih =>
    intro i hi hp
    refine pk_le n i (fun z => absurd z (by omega)) (fun _ => ?_)
    refine sx_heightIn h5 hP (by omega) ?_
    have hd := sw_d_lt n P i
    refine nm_r (nI_add _ _) ?_
    refine sx_throwAt h1 h5 (by omega) ?_
    have hM := sx_M31 (P := P) i h1 h5
    have hl : (i + sw_d n P i) % n < n := sw_l_lt P i h1
    by_cases hb : sw_M n P i / 2 ^ ((i + sw_d n P i) % n) % 2 = 0
    · refine br_t (sx_b0 hM (by omega) hb) ?_
      refine nm_r (e' := nI (sw_M n P (i + 1))) ?_ ?_
      · rw [sw_one (by omega)]
        exact sw_or _ _
      refine nm_r (nI_1 i) ?_
      refine ih (i + 1) (by omega) ?_
      intro j hj i' hi' e
      by_cases ej : j = i
      · subst ej
        have z := sw_b1.mp hb
        have z' : (sw_M n P j).testBit ((j + sw_d n P j) % n) = true := (sw_M_bit n P _ j).mpr ⟨i', hi', e⟩
        rw [z] at z'
        exact Bool.noConfusion z'
      · exact hp j (by omega) i' hi' e
    · refine br_f (sx_b1 hM (by omega) hb) (hf fun hJ => ?_)
      have z : (sw_M n P i).testBit ((i + sw_d n P i) % n) = true := by
        cases hq : (sw_M n P i).testBit ((i + sw_d n P i) % n) with
        | false => exact absurd (sw_b1.mpr hq) hb
        | true => rfl
      obtain ⟨j, hj, e⟩ := (sw_M_bit n P _ i).mp z
      exact hJ i (by omega) j hj e
theorem sx_landsApart {post : Int32 → Prop} {pat : Int32} {d : Nat → Int32} {n P : Nat} (h1 : 1 ≤ n) (h5 : n ≤ 5) (hP : P < 8 ^ n) (ht : sw_J n P → post 1) (hf : ¬ sw_J n P → post 0) : wpX_landsApart post (pat, nI n, d) (nI P) := by
  unfold wpX_landsApart
  exact ⟨n + 1, sx_ap_l h1 h5 hP ht hf n 0 (by omega) (fun j hj => absurd hj (by omega))⟩
theorem sx_sum_l {post : Int32 → Prop} {pat : Int32} {d : Nat → Int32} {n P : Nat} (h5 : n ≤ 5) (hP : P < 8 ^ n) (h : post (nI (sw_S n P n))) : ∀ k i, i + k = n → wX_heightSum_4 post (nI P) pat (nI n) d (k + 1) (nI (sw_S n P i)) (nI i) := by
  intro k
  induction k with
  | zero =>
    intro i hi
    obtain rfl : i = n := by omega
    exact pk_le i i (fun _ => h) (fun z => absurd z (by omega))
  | succ k ih =>
    intro i hi
    refine pk_le n i (fun z => absurd z (by omega)) (fun _ => ?_)
    refine sx_heightIn h5 hP (by omega) ?_
    exact nm_r (nI_add _ _) (nm_r (nI_1 i) (ih (i + 1) (by omega)))
theorem sx_heightSum {post : Int32 → Prop} {pat : Int32} {d : Nat → Int32} {n P : Nat} (h5 : n ≤ 5) (hP : P < 8 ^ n) (h : post (nI (sw_S n P n))) : wpX_heightSum post (pat, nI n, d) (nI P) := by
  unfold wpX_heightSum
  exact ⟨n + 1, sx_sum_l h5 hP h n 0 (by omega)⟩
theorem sx_jw {post : Int32 → Prop} {pat : Int32} {d : Nat → Int32} {n P b : Nat} (h1 : 1 ≤ n) (h5 : n ≤ 5) (hP : P < 8 ^ n) (hb : b < 8) (ht : (sw_S n P n = b * n ∧ sw_J n P) → post 1) (hf : ¬ (sw_S n P n = b * n ∧ sw_J n P) → post 0) : wpX_isJugglableWith post (pat, nI n, d) (nI P) (nI b) := by
  unfold wpX_isJugglableWith
  dsimp only
  refine sx_heightSum h5 hP ?_
  have hS := sw_S_le n P n
  have hbn : b * n ≤ 7 * 5 := Nat.mul_le_mul (by omega) h5
  refine pk_eq (sw_S n P n) (b * n) (fun e => ?_) (fun e => hf fun z => e z.1) rfl (pk_mul b n)
  exact sx_landsApart h1 h5 hP (fun hJ => br_f (by decide) (ht ⟨e, hJ⟩)) (fun hJ => br_t rfl (hf fun z => hJ z.2))
