/-! the component: counting, loading, writing -/
theorem sx_cb_l {post : Int32 → Prop} {pat : Int32} {d : Nat → Int32} {n b E : Nat} (h1 : 1 ≤ n) (h5 : n ≤ 5) (hb : b < 8) (hE : E ≤ 8 ^ n) (h : post (nI (sw_C n b E))) : ∀ k x, x + k = E → wX_countBelow_5 post (nI E) (nI b) pat (nI n) d (k + 1) (nI (sw_C n b x)) (nI x) := by
  have h8 := sw_8le h5
  intro k
  induction k with
  | zero =>
    intro x hx
    obtain rfl : x = E := by omega
    exact pk_le x x (fun _ => h) (fun z => absurd z (by omega))
  | succ k ih =>
    intro x hx
    refine pk_le E x (fun z => absurd z (by omega)) (fun _ => ?_)
    have z := ih (x + 1) (by omega)
    refine sx_jw h1 h5 (by omega) hb (fun g => ?_) (fun g => ?_)
    · rw [sw_C_t g] at z
      exact br_f (by decide) (nm_r (nI_1 _) (nm_r (nI_1 x) z))
    · rw [sw_C_f g] at z
      exact br_t rfl (nm_r (nI_1 x) z)
theorem sx_countBelow {post : Int32 → Prop} {pat : Int32} {d : Nat → Int32} {n b E : Nat} (h1 : 1 ≤ n) (h5 : n ≤ 5) (hb : b < 8) (hE : E ≤ 8 ^ n) (h : post (nI (sw_C n b E))) : wpX_countBelow post (pat, nI n, d) (nI E) (nI b) := by
  unfold wpX_countBelow
  exact ⟨E + 1, sx_cb_l h1 h5 hb hE h E 0 (by omega)⟩
theorem sx_end {n : Nat} (h5 : n ≤ 5) : (1 : Int32) <<< (((3 : Int32) * nI n) &&& 31) = nI (8 ^ n) := by
  have e : (3 : Int32) * nI n = nI (3 * n) := pk_mul 3 n
  rw [e, sw_one (by omega), sw_8]
theorem sx_rowsEnd {post : Int32 → Prop} {pat : Int32} {d : Nat → Int32} {n : Nat} (h5 : n ≤ 5) (h : post (nI (8 ^ n))) : wpX_rowsEnd post (pat, nI n, d) := by
  unfold wpX_rowsEnd
  exact ek_v (P := post) (sx_end h5) h
theorem sx_ld_l {post : Int32 → SX → Prop} {pat kk : Int32} {d : Nat → Int32} {n b : Nat} (h1 : 1 ≤ n) (h5 : n ≤ 5) (hb : b < 8) (hF : ∀ R, R < 8 ^ n → sw_S n R n = b * n ∧ sw_J n R → nI (sw_C n b R) = kk → post 0 (nI R, nI n, d)) (hN : (∀ R, R < 8 ^ n → sw_S n R n = b * n ∧ sw_J n R → ¬ nI (sw_C n b R) = kk) → post (-4) (pat, nI n, d)) : ∀ k x, x + k = 8 ^ n → (∀ R, R < x → sw_S n R n = b * n ∧ sw_J n R → ¬ nI (sw_C n b R) = kk) → wX_load_21 post (nI b) kk (nI (8 ^ n)) pat (nI n) d (k + 1) (nI (sw_C n b x)) (nI x) := by
  have h8 := sw_8le h5
  intro k
  induction k with
  | zero =>
    intro x hx hq
    exact pk_le (8 ^ n) x (fun _ => hN (fun R hR => hq R (by omega))) (fun z => absurd z (by omega))
  | succ k ih =>
    intro x hx hq
    refine pk_le (8 ^ n) x (fun z => absurd z (by omega)) (fun _ => ?_)
    have z := ih (x + 1) (by omega)
    refine sx_jw h1 h5 (by omega) hb (fun g => ?_) (fun g => ?_)
    · rw [sw_C_t g] at z
      refine br_f (by decide) (br_c (fun e => hF x (by omega) g e) (fun e => ?_))
      refine nm_r (nI_1 _) (nm_r (nI_1 x) (z (fun R hR gR => ?_)))
      by_cases eR : R = x
      · rw [eR]
        exact e
      · exact hq R (by omega) gR
    · rw [sw_C_f g] at z
      refine br_t rfl (nm_r (nI_1 x) (z (fun R hR gR => ?_)))
      by_cases eR : R = x
      · rw [eR] at gR
        exact absurd gR g
      · exact hq R (by omega) gR
theorem sx_load {post : Int32 → SX → Prop} {pat kk : Int32} {d : Nat → Int32} {n b : Nat} (h1 : 1 ≤ n) (h5 : n ≤ 5) (hb : b < 8) (hF : ∀ R, R < 8 ^ n → sw_S n R n = b * n ∧ sw_J n R → nI (sw_C n b R) = kk → post 0 (nI R, nI n, d)) (hN : (∀ R, R < 8 ^ n → sw_S n R n = b * n ∧ sw_J n R → ¬ nI (sw_C n b R) = kk) → post (-4) (pat, nI n, d)) : wpX_load post (pat, nI n, d) (nI b) kk := by
  unfold wpX_load
  dsimp only
  refine sx_isBall_t hb (br_f (by decide) ?_)
  refine sx_rowsEnd h5 ?_
  exact ⟨8 ^ n + 1, sx_ld_l h1 h5 hb hF hN (8 ^ n) 0 (by omega) (fun R hR => absurd hR (by omega))⟩
/-! mirror -/
def sw_g (n P j : Nat) : Nat := (n - sw_l n P j) % n
theorem sw_g_lt {n P j : Nat} (h1 : 1 ≤ n) : sw_g n P j < n := Nat.mod_lt _ h1
theorem sw_g_inj {n P i j : Nat} (h1 : 1 ≤ n) (h5 : n ≤ 5) (hJ : sw_J n P) (hi : i < n) (hj : j < n) (e : sw_g n P i = sw_g n P j) : i = j := by
  have a := sw_l_lt P i h1
  have b := sw_l_lt P j h1
  have c : sw_l n P i = sw_l n P j := by
    unfold sw_g at e
    have : n = 1 ∨ n = 2 ∨ n = 3 ∨ n = 4 ∨ n = 5 := by omega
    generalize sw_l n P i = x at *
    generalize sw_l n P j = y at *
    rcases this with rfl | rfl | rfl | rfl | rfl <;> omega
  rcases Nat.lt_trichotomy i j with z | z | z
  · exact absurd c (hJ j hj i z)
  · exact z
  · exact absurd c.symm (hJ i hi j z)
theorem sw_g_surj {n P p : Nat} (h1 : 1 ≤ n) (h5 : n ≤ 5) (hJ : sw_J n P) (hp : p < n) : ∃ j, j < n ∧ sw_g n P j = p := by
  obtain ⟨j, hj, e⟩ := sw_surj h1 h5 hJ (show (n - p) % n < n from Nat.mod_lt _ h1)
  refine ⟨j, hj, ?_⟩
  unfold sw_g
  rw [e]
  have : n = 1 ∨ n = 2 ∨ n = 3 ∨ n = 4 ∨ n = 5 := by omega
  rcases this with rfl | rfl | rfl | rfl | rfl <;> omega
theorem sw_neg {m n : Nat} (h1 : 1 ≤ n) (h5 : n ≤ 5) : ((-(m : Int)) % (n : Int)).toNat = (n - m % n) % n := by
  have : n = 1 ∨ n = 2 ∨ n = 3 ∨ n = 4 ∨ n = 5 := by omega
  rcases this with rfl | rfl | rfl | rfl | rfl <;> omega
theorem sw_negI {m : Nat} (hm : m < 1000) : (-(nI m)).toInt = -(m : Int) := by
  rw [Int32.toInt_neg, nI_toInt (by omega)]
  exact Int.bmod_eq_of_le (by omega) (by omega)
theorem sx_mir_l {post : Int32 → SX → Prop} {d : Nat → Int32} {n P : Nat} (h1 : 1 ≤ n) (h5 : n ≤ 5) (hP : P < 8 ^ n) (hJ : sw_J n P) (h : ∀ Q, Q < 8 ^ n → (∀ j, j < n → sw_d n Q (sw_g n P j) = sw_d n P j) → post 0 (nI Q, nI n, d)) : ∀ k i Q, i + k = n → Q < 8 ^ n → (∀ j, j < i → sw_d n Q (sw_g n P j) = sw_d n P j) → wX_mirror_18 post (nI P) (nI n) d (k + 1) (nI Q) (nI i) := by
  intro k
  induction k with
  | zero =>
    intro i Q hi hQ hq
    obtain rfl : i = n := by omega
    exact pk_le i i (fun _ => h Q hQ hq) (fun z => absurd z (by omega))
  | succ k ih =>
    intro i Q hi hQ hq
    have hd := sw_d_lt n P i
    have hg := sw_g_lt (P := P) (j := i) h1
    refine pk_le n i (fun z => absurd z (by omega)) (fun _ => ?_)
    refine sx_heightIn h5 hP (by omega) ?_
    refine sx_throwAtE (m := sw_g n P i) h1 h5 ?_ ?_
    · rw [nI_add, sw_negI (by omega), sw_neg h1 h5]
      rfl
    refine sx_withHeight h5 hg hd ?_
    refine nm_r (nI_1 i) (ih (i + 1) _ (by omega) (sw_w_lt h5 hg hQ hd) (fun j hj => ?_))
    by_cases ej : j = i
    · rw [ej]
      exact sw_w_d h5 hg hd
    · rw [sw_w_n h5 hg (sw_g_lt h1) hd (fun z => ej (sw_g_inj h1 h5 hJ (by omega) (by omega) z))]
      exact hq j (by omega)
theorem sx_mirror {post : Int32 → SX → Prop} {d : Nat → Int32} {n P : Nat} (h1 : 1 ≤ n) (h5 : n ≤ 5) (hP : P < 8 ^ n) (hJ : sw_J n P) (h : ∀ Q, Q < 8 ^ n → (∀ j, j < n → sw_d n Q (sw_g n P j) = sw_d n P j) → post 0 (nI Q, nI n, d)) : wpX_mirror post (nI P, nI n, d) := by
  unfold wpX_mirror
  dsimp only
  refine sx_landsApart h1 h5 hP (fun _ => br_f (by decide) ?_) (fun z => absurd hJ z)
  exact ⟨n + 1, sx_mir_l h1 h5 hP hJ h n 0 0 (by omega) (Nat.pow_pos (by decide)) (fun j hj => absurd hj (by omega))⟩
/-! put, drop, set, swap, turn -/
theorem sw_or8 {A h : Nat} (hh : h < 8) : A * 8 ||| h = A * 8 + h := by
  have e := Nat.two_pow_add_eq_or_of_lt (i := 3) hh A
  rw [show 2 ^ 3 * A = A * 8 by omega] at e
  exact e.symm
theorem sx_app {A h : Nat} (hA : A < 32768) (hh : h < 8) : (nI A <<< ((3 : Int32) &&& 31)) ||| nI h = nI (A * 8 + h) := by
  rw [pk_shlN ((3 : Int32) &&& 31) 3 (by decide) (by omega), sw_or, show A * 2 ^ 3 = A * 8 by omega, sw_or8 hh]
theorem sx_put {post : Int32 → SX → Prop} {d : Nat → Int32} {n P j : Nat} (h5 : n ≤ 5) (hP : P < 8 ^ n) (hj : j < 8) (h4 : n < 5 → post (nI (n + 1)) (nI (P * 8 + j), nI (n + 1), d)) (hf : n = 5 → post (-2) (nI P, nI n, d)) : wpX_put post (nI P, nI n, d) (nI j) := by
  have h8 := sw_8le h5
  unfold wpX_put
  dsimp only
  refine sx_isHeight_t hj (br_f (by decide) ?_)
  refine pk_lt n 5 (fun z => ?_) (fun z => hf (by omega))
  exact nm_r (sx_app (by omega) hj) (nm_r (nI_1 n) (h4 z))
theorem sx_drop {post : Int32 → SX → Prop} {d : Nat → Int32} {n P : Nat} (h1 : 1 ≤ n) (h5 : n ≤ 5) (hP : P < 8 ^ n) (h2 : 1 < n → post (nI (P % 8)) (nI (P / 8), nI (n - 1), d)) (hf : n = 1 → post (-4) (nI P, nI n, d)) : wpX_drop post (nI P, nI n, d) := by
  have h8 := sw_8le h5
  unfold wpX_drop
  refine pk_lt 1 n (fun z => ?_) (fun z => hf (by omega))
  refine nm_r (e' := nI (P % 8)) (pk_andN (by omega) 3 (by decide)) ?_
  refine nm_r (e' := nI (P / 8)) (pk_shrN (by omega) _ 3 (by decide)) ?_
  exact nm_r (e' := nI (n - 1)) (pk_sub (a := n) (b := 1) h1) (h2 z)
theorem sx_set {post : Int32 → SX → Prop} {d : Nat → Int32} {n P i j : Nat} (h5 : n ≤ 5) (hP : P < 8 ^ n) (hi : i < n) (hj : j < 8) (h : post (nI (sw_d n P i)) (nI (sw_w n P i j), nI n, d)) : wpX_set post (nI P, nI n, d) (nI i) (nI j) := by
  unfold wpX_set
  dsimp only
  refine sx_isThrow_t h5 hi (br_f (by decide) ?_)
  refine sx_isHeight_t hj (br_f (by decide) ?_)
  refine sx_heightIn h5 hP hi ?_
  exact sx_withHeight h5 hi hj h
noncomputable def sw_jb (n P : Nat) : Int32 := @ite _ (sw_J n P) (Classical.propDecidable _) 1 0
theorem sw_jb_t {n P : Nat} (h : sw_J n P) : (1 : Int32) = sw_jb n P := (if_pos h).symm
theorem sw_jb_f {n P : Nat} (h : ¬ sw_J n P) : (0 : Int32) = sw_jb n P := (if_neg h).symm
def sw_sd (n P j q : Nat) (W : Nat) : Prop := W < 8 ^ n ∧ ∀ i, i < n → sw_d n W i = if i = q then sw_d n P j - 1 else if i = j then sw_d n P q + 1 else sw_d n P i
theorem sx_swap {post : Int32 → SX → Prop} {d : Nat → Int32} {n P j : Nat} (h1 : 1 ≤ n) (h5 : n ≤ 5) (hP : P < 8 ^ n) (hj : j < n) (hA : n = 1 ∨ sw_d n P ((j + 1) % n) = 7 ∨ sw_d n P j = 0 → post (-4) (nI P, nI n, d)) (hC : 1 < n → sw_d n P ((j + 1) % n) < 7 → 0 < sw_d n P j → ∀ W, sw_sd n P j ((j + 1) % n) W → post (sw_jb n W) (nI W, nI n, d)) : wpX_swap post (nI P, nI n, d) (nI j) := by
  have hd := sw_d_lt n P ((j + 1) % n)
  have hd2 := sw_d_lt n P j
  have hq : (j + 1) % n < n := Nat.mod_lt _ h1
  unfold wpX_swap
  dsimp only
  refine sx_isThrow_t h5 hj (br_f (by decide) ?_)
  refine pk_eq n 1 (fun e => hA (Or.inl e)) (fun e => ?_)
  rw [nI_1 j]
  refine sx_throwAt h1 h5 (by omega) ?_
  refine sx_heightIn h5 hP hq ?_
  refine nm_r (nI_1 _) ?_
  refine sx_heightIn h5 hP hj ?_
  by_cases c1 : sw_d n P ((j + 1) % n) = 7
  · refine nm_e ?_
    rw [c1]
    exact sx_isHeight_b (Or.inr ⟨by decide, by decide, by decide⟩) (br_t rfl (hA (Or.inr (Or.inl c1))))
  by_cases c2 : sw_d n P j = 0
  · refine nm_e ?_
    rw [c2]
    refine sx_isHeight_t (by omega) (br_f (by decide) ?_)
    exact sx_isHeight_b (Or.inl (by decide)) (br_t rfl (hA (Or.inr (Or.inr c2))))
  have hw1 := sw_w_lt (h := sw_d n P ((j + 1) % n) + 1) h5 hj hP (by omega)
  have hw2 := sw_w_lt (h := sw_d n P j - 1) h5 hq hw1 (by omega)
  refine nm_r (e' := nI (sw_d n P j - 1)) (pk_sub (a := sw_d n P j) (b := 1) (by omega)) ?_
  refine sx_isHeight_t (by omega) (br_f (by decide) ?_)
  refine sx_isHeight_t (by omega) (br_f (by decide) ?_)
  refine sx_withHeight h5 hj (by omega) ?_
  refine sx_withHeight h5 hq (by omega) ?_
  have hh := hC (by omega) (by omega) (by omega) _ ⟨hw2, fun i hi => ?_⟩
  · exact sx_landsApart h1 h5 hw2 (fun hJ => br_f (by decide) (ek_v (P := fun r => post r _) (sw_jb_t hJ) hh)) (fun hJ => br_t rfl (ek_v (P := fun r => post r _) (sw_jb_f hJ) hh))
  · by_cases z : i = (j + 1) % n
    · rw [if_pos z, z]
      exact sw_w_d h5 hq (by omega)
    · rw [if_neg z, sw_w_n h5 hq hi (by omega) z]
      by_cases z2 : i = j
      · rw [if_pos z2, z2]
        exact sw_w_d h5 hj (by omega)
      · rw [if_neg z2, sw_w_n h5 hj hi (by omega) z2]
theorem sx_turn {post : Int32 → SX → Prop} {d : Nat → Int32} {n P : Nat} (h1 : 1 ≤ n) (h5 : n ≤ 5) (hP : P < 8 ^ n) (h : post (nI (sw_d n P 0)) (nI (sw_w n P 0 0 * 8 + sw_d n P 0), nI n, d)) : wpX_turn post (nI P, nI n, d) := by
  have hw := sw_t_lt h5 h1 hP
  have h8 := sw_8le (show n - 1 ≤ 5 by omega)
  unfold wpX_turn
  dsimp only
  refine sx_heightIn (i := 0) h5 hP h1 ?_
  refine sx_withHeight (i := 0) (h := 0) h5 h1 (by decide) ?_
  exact nm_r (sx_app (by omega) (sw_d_lt n P 0)) h
