/-! the reference's own methods against the picture -/
theorem sy_noHeight_t {post : Int32 → Prop} {v : SY} {j : Nat} (hj : j < 8) (h : post 0) : wpY_noHeight post v (nI j) := by
  obtain ⟨v1, v2, v3, v4, v5⟩ := v
  unfold wpY_noHeight
  exact br_f (nI_pos (by omega)) (pk_le j 7 (fun _ => h) (fun z => absurd z (by omega)))
theorem sy_noHeight_b {post : Int32 → Prop} {v : SY} {p : Int32} (hb : sx_bad 8 p) (h : post 1) : wpY_noHeight post v p := by
  obtain ⟨v1, v2, v3, v4, v5⟩ := v
  unfold wpY_noHeight
  rcases hb with z | ⟨z, z2, _⟩
  · exact br_t z h
  · exact br_f z (br_f (sx_bad_s (m := 7) (by decide) z2).2 h)
theorem sy_noBalls_t {post : Int32 → Prop} {v : SY} {j : Nat} (hj : j < 8) (h : post 0) : wpY_noBalls post v (nI j) := by
  obtain ⟨v1, v2, v3, v4, v5⟩ := v
  unfold wpY_noBalls
  exact br_f (nI_pos (by omega)) (pk_le j 7 (fun _ => h) (fun z => absurd z (by omega)))
theorem sy_noBalls_b {post : Int32 → Prop} {v : SY} {p : Int32} (hb : sx_bad 8 p) (h : post 1) : wpY_noBalls post v p := by
  obtain ⟨v1, v2, v3, v4, v5⟩ := v
  unfold wpY_noBalls
  rcases hb with z | ⟨z, z2, _⟩
  · exact br_t z h
  · exact br_f z (br_f (sx_bad_s (m := 7) (by decide) z2).2 h)
theorem sy_noThrow_t {post : Int32 → Prop} {a o m f : Nat → Int32} {n j : Nat} (h5 : n ≤ 5) (hj : j < n) (h : post 0) : wpY_noThrow post (nI n, a, o, m, f) (nI j) := by
  unfold wpY_noThrow
  exact br_f (nI_pos (by omega)) (pk_lt j n (fun _ => h) (fun z => absurd z (by omega)))
theorem sy_noThrow_b {post : Int32 → Prop} {a o m f : Nat → Int32} {n : Nat} {p : Int32} (hb : sx_bad n p) (h : post 1) : wpY_noThrow post (nI n, a, o, m, f) p := by
  unfold wpY_noThrow
  rcases hb with z | ⟨z, _, z2⟩
  · exact br_t z h
  · exact br_f z (br_f z2 h)
/-- an array holds a row -/
def sy_A (n P : Nat) (a : Nat → Int32) : Prop := ∀ i, i < n → a i = nI (sw_d n P i)
theorem sy_at {a : Nat → Int32} {n P i : Nat} (ha : sy_A n P a) (h5 : n ≤ 5) (hi : i < n) : a (nI i).toNatClampNeg = nI (sw_d n P i) := by
  rw [nI_clamp (by omega)]
  exact ha i hi
theorem sy_rm {a : Nat → Int32} {n P i : Nat} (ha : sy_A n P a) (h5 : n ≤ 5) (hi : i < n) : nI i + a (nI i).toNatClampNeg - (nI i + a (nI i).toNatClampNeg) / nI n * nI n = nI (sw_l n P i) := by
  have hd := sw_d_lt n P i
  rw [sy_at ha h5 hi, nI_add, pk_rem (by omega) (by omega) (by omega)]
  rfl
theorem sy_in {i : Nat} (hi : i < 5) : vp_in (nI i) 5 := vp_in_nI hi (by decide)
theorem sy_n0 {n : Nat} (h1 : 1 ≤ n) (h5 : n ≤ 5) : ¬ nI n = 0 := nI_ne0 h1 (by omega)
theorem sy_ij_l {post : Int32 → Prop} {a o m f : Nat → Int32} {n P : Nat} (h1 : 1 ≤ n) (h5 : n ≤ 5) (ha : sy_A n P a) (ht : sw_J n P → post 1) (hf : ¬ sw_J n P → post 0) : ∀ k i, i + k = n → wY_isJugglable_4 post (nI n) a o m f (k + 1) (nI (sw_M n P i)) (nI i) := by
  intro k
  induction k with
  | zero =>
    intro i hi
    obtain rfl : i = n := by omega
    have h32 := sx_32 h5
    have e : (1 : Int32) <<< (nI i &&& 31) - 1 = nI (2 ^ i - 1) := by
      rw [sw_one (by omega)]
      exact pk_sub (a := 2 ^ i) (b := 1) (Nat.two_pow_pos i)
    refine pk_le i i (fun _ => ?_) (fun z => absurd z (by omega))
    exact pk_eq (sw_M i P i) (2 ^ i - 1) (fun z => ht ((sw_full h1 h5).mp z)) (fun z => hf (fun hJ => z ((sw_full h1 h5).mpr hJ))) rfl e (sx_M31 i h1 h5) (by omega)
  | succ k ih =>
    intro i hi
    have hl := sw_l_lt P i h1
    refine pk_le n i (fun z => absurd z (by omega)) (fun _ => ?_)
    refine ⟨sy_in (by omega), sy_n0 h1 h5, nm_r (e' := nI (sw_M n P (i + 1))) ?_ (nm_r (nI_1 i) (ih (i + 1) (by omega)))⟩
    rw [sy_rm ha h5 (by omega), sw_one (by omega)]
    exact sw_or _ _
theorem sy_isJugglable {post : Int32 → Prop} {a o m f : Nat → Int32} {n P : Nat} (h1 : 1 ≤ n) (h5 : n ≤ 5) (ha : sy_A n P a) (ht : sw_J n P → post 1) (hf : ¬ sw_J n P → post 0) : wpY_isJugglable post (nI n, a, o, m, f) := by
  unfold wpY_isJugglable
  exact ⟨n + 1, sy_ij_l h1 h5 ha ht hf n 0 (by omega)⟩
theorem sy_jugglable {post : Int32 → Prop} {a o m f : Nat → Int32} {n P : Nat} (h1 : 1 ≤ n) (h5 : n ≤ 5) (ha : sy_A n P a) (h : post (sw_jb n P)) : wpY_jugglable post (nI n, a, o, m, f) := by
  unfold wpY_jugglable
  dsimp only
  exact sy_isJugglable h1 h5 ha (fun hJ => br_f (by decide) (ek_v (P := post) (sw_jb_t hJ) h)) (fun hJ => br_t rfl (ek_v (P := post) (sw_jb_f hJ) h))
theorem sy_mb_l {post : Int32 → Prop} {n a o m f} {s : Nat} (hs : s < 128) (h : post (nI (sw_mb s 7))) : ∀ k j, j + k = 7 → wY_members_4 post (nI s) n a o m f (k + 1) (nI (sw_mb s j)) (nI j) := by
  intro k
  induction k with
  | zero =>
    intro j hj
    obtain rfl : j = 7 := by omega
    exact pk_le 7 7 (fun _ => h) (fun z => absurd z (by omega))
  | succ k ih =>
    intro j hj
    refine pk_le 7 j (fun z => absurd z (by omega)) (fun _ => ?_)
    refine nm_r (e' := nI (sw_mb s (j + 1))) ?_ ?_
    · rw [sw_bit (by omega) (by omega)]
      exact nI_add _ _
    exact nm_r (nI_1 j) (ih (j + 1) (by omega))
theorem sy_members {post : Int32 → Prop} {n a o m f} {s : Nat} (hs : s < 128) (h : post (nI (sw_mb s 7))) : wpY_members post (n, a, o, m, f) (nI s) := by
  unfold wpY_members
  exact ⟨8, sy_mb_l hs h 7 0 rfl⟩
theorem sy_sb_l {post : Int32 → Prop} {a o m f : Nat → Int32} {n P : Nat} {t : Int32} (h1 : 1 ≤ n) (h5 : n ≤ 5) (ha : sy_A n P a) (ht : -5000 ≤ t.toInt ∧ t.toInt ≤ 5000) (h : post (nI (sw_st n P t.toInt 7))) : ∀ k j, j + k = 7 → wY_stateBefore_4 post t (nI n) a o m f (k + 1) (nI (sw_st n P t.toInt j)) (nI (j + 1)) := by
  intro k
  induction k with
  | zero =>
    intro j hj
    obtain rfl : j = 7 := by omega
    exact pk_lt 7 8 (fun _ => h) (fun z => absurd z (by omega))
  | succ k ih =>
    intro j hj
    refine pk_lt 7 (j + 1) (fun z => absurd z (by omega)) (fun _ => ?_)
    have et := sw_tsub ht (show j + 1 < 100 by omega)
    have hx := sw_ix_lt t.toInt (j + 1) h1 h5
    have hd := sw_d_lt n P (sw_ix n t.toInt (j + 1))
    have eh := sy_at ha h5 hx
    have z := ih (j + 1) (by omega)
    refine nm_e ⟨sy_n0 h1 h5, sy_n0 h1 h5, nm_r (e' := nI (sw_ix n t.toInt (j + 1))) ?_ ⟨sy_in (by omega), ?_⟩⟩
    · rw [sw_rr h1 h5, et]
      rfl
    by_cases hD : j + 1 ≤ sw_d n P (sw_ix n t.toInt (j + 1))
    · have es : sw_st n P t.toInt (j + 1) = sw_st n P t.toInt j ||| 2 ^ (sw_d n P (sw_ix n t.toInt (j + 1)) - (j + 1)) := if_pos hD
      refine nm_r (e' := nI (sw_d n P (sw_ix n t.toInt (j + 1)) - (j + 1))) (by rw [eh]; exact pk_sub hD) ⟨sy_in (by omega), br_f (by rw [eh]; exact nI_nle (by omega) (by omega)) (br_f (nI_pos (by omega)) ?_)⟩
      refine nm_r (e' := nI (sw_st n P t.toInt (j + 1))) ?_ (nm_r (nI_1 (j + 1)) z)
      rw [sw_one (by omega), es]
      exact sw_or _ _
    · have es : sw_st n P t.toInt (j + 1) = sw_st n P t.toInt j := if_neg hD
      rw [es] at z
      refine nm_r (e' := nI (sw_d n P (sw_ix n t.toInt (j + 1))) - nI (j + 1)) (by rw [eh]) ⟨sy_in (by omega), ?_⟩
      by_cases h0 : sw_d n P (sw_ix n t.toInt (j + 1)) = 0
      · exact br_t (by rw [eh, h0]; decide) (nm_r (nI_1 (j + 1)) z)
      · exact br_f (by rw [eh]; exact nI_nle (by omega) (by omega)) (br_t (pk_sneg (by omega) (by omega)) (nm_r (nI_1 (j + 1)) z))
theorem sy_stateBefore {post : Int32 → Prop} {a o m f : Nat → Int32} {n P : Nat} {t : Int32} (h1 : 1 ≤ n) (h5 : n ≤ 5) (ha : sy_A n P a) (ht : -5000 ≤ t.toInt ∧ t.toInt ≤ 5000) (h : post (nI (sw_st n P t.toInt 7))) : wpY_stateBefore post (nI n, a, o, m, f) t := by
  unfold wpY_stateBefore
  exact ⟨8, sy_sb_l h1 h5 ha ht h 7 0 rfl⟩
theorem sy_stateN {post : Int32 → Prop} {a o m f : Nat → Int32} {n P i : Nat} (h1 : 1 ≤ n) (h5 : n ≤ 5) (ha : sy_A n P a) (hi : i < 100) (h : post (nI (sw_st n P (i : Int) 7))) : wpY_stateBefore post (nI n, a, o, m, f) (nI i) := by
  have e := nI_toInt (show i < 2 ^ 31 by omega)
  refine sy_stateBefore h1 h5 ha (by rw [e]; omega) ?_
  rw [e]
  exact h
theorem sy_balls {post : Int32 → Prop} {a o m f : Nat → Int32} {n P : Nat} (h1 : 1 ≤ n) (h5 : n ≤ 5) (ha : sy_A n P a) (ht : sw_J n P → post (nI (sw_mb (sw_st n P 0 7) 7))) (hf : ¬ sw_J n P → post (-4)) : wpY_balls post (nI n, a, o, m, f) := by
  unfold wpY_balls
  dsimp only
  refine sy_isJugglable h1 h5 ha (fun hJ => br_f (by decide) ?_) (fun hJ => br_t rfl (hf hJ))
  refine sy_stateN (i := 0) h1 h5 ha (by decide) ?_
  exact sy_members (sw_st_lt n P 0 7) (ht hJ)
theorem sy_pr22 {post : Int32 → Prop} {J12 : Int32 → Prop} {a o m f : Nat → Int32} {n P i : Nat} (h1 : 1 ≤ n) (h5 : n ≤ 5) (ha : sy_A n P a) (hi : i < n) (he : ∀ j : Nat, j < i → sw_st n P (i : Int) 7 = sw_st n P (j : Int) 7 → post 0) (hn : (∀ j : Nat, j < i → ¬ sw_st n P (i : Int) 7 = sw_st n P (j : Int) 7) → J12 (nI (i + 1))) : ∀ k j : Nat, j + k = i → (∀ j' : Nat, j' < j → ¬ sw_st n P (i : Int) 7 = sw_st n P (j' : Int) 7) → wY_prime_22 post J12 (nI i) (nI n) a o m f (k + 1) (nI j) := by
  intro k
  induction k with
  | zero =>
    intro j hj hq
    obtain rfl : j = i := by omega
    exact pk_le j j (fun _ => nm_r (nI_1 j) (hn hq)) (fun z => absurd z (by omega))
  | succ k ih =>
    intro j hj hq
    refine pk_le i j (fun z => absurd z (by omega)) (fun _ => ?_)
    refine sy_stateN h1 h5 ha (by omega) ?_
    refine sy_stateN h1 h5 ha (by omega) ?_
    refine pk_eq (sw_st n P (i : Int) 7) (sw_st n P (j : Int) 7) (fun e => he j (by omega) e) (fun e => ?_) rfl rfl (sw_st31 _ _ _) (sw_st31 _ _ _)
    refine nm_r (nI_1 j) (ih (j + 1) (by omega) (fun j' hj' => ?_))
    by_cases ej : j' = j
    · rw [ej]
      exact e
    · exact hq j' (by omega)
theorem sy_pr12 {post : Int32 → Prop} {a o m f : Nat → Int32} {n P : Nat} (h1 : 1 ≤ n) (h5 : n ≤ 5) (ha : sy_A n P a) (ht : sw_pr n P → post 1) (hf : ¬ sw_pr n P → post 0) : ∀ k i : Nat, i + k = n → (∀ i' : Nat, i' < i → ∀ j : Nat, j < i' → ¬ sw_st n P (i' : Int) 7 = sw_st n P (j : Int) 7) → wY_prime_12 post (nI n) a o m f (k + 1) (nI i) := by
  intro k
  induction k with
  | zero =>
    intro i hi hq
    obtain rfl : i = n := by omega
    exact pk_le i i (fun _ => ht hq) (fun z => absurd z (by omega))
  | succ k ih =>
    intro i hi hq
    refine pk_le n i (fun z => absurd z (by omega)) (fun _ => ?_)
    refine ⟨i + 1, sy_pr22 (J12 := wY_prime_12 post (nI n) a o m f (k + 1)) h1 h5 ha (by omega) (fun j hj e => hf fun z => z i (by omega) j hj e) (fun hne => ?_) i 0 (by omega) (fun j' hj' => absurd hj' (by omega))⟩
    refine ih (i + 1) (by omega) (fun i' hi' => ?_)
    by_cases ei : i' = i
    · rw [ei]
      exact hne
    · exact hq i' (by omega)
theorem sy_per_l {post : Int32 → Prop} {a o m f : Nat → Int32} {n P i K : Nat} (h1 : 1 ≤ n) (h5 : n ≤ 5) (ha : sy_A n P a) (hi : i < n) (hK : K < n) (hit : sw_it n P i (K + 1) = i) (hl : ∀ j, j < K → ¬ sw_it n P i (j + 1) = i) (h : post (nI (sw_bt n P i (K + 1) - i))) : ∀ k j, j + k = K → wY_period_38 post (nI i) (nI n) a o m f (k + 1) (nI (sw_bt n P i (j + 1))) := by
  intro k
  induction k with
  | zero =>
    intro j hj
    obtain rfl : j = K := by omega
    have b2 := sw_bt_le (n := n) (P := P) (i := i) (j + 1)
    have er : nI (sw_bt n P i (j + 1)) - nI (sw_bt n P i (j + 1)) / nI n * nI n = nI (sw_it n P i (j + 1)) := by
      rw [pk_rem (by omega) (by omega) (by omega), sw_bt_mod hi]
    refine ⟨sy_n0 h1 h5, ?_⟩
    exact br_t (by rw [er, hit]) (ek_v (P := post) (pk_sub b2.1) h)
  | succ k ih =>
    intro j hj
    have b2 := sw_bt_le (n := n) (P := P) (i := i) (j + 1)
    have b3 := sw_it_lt (P := P) hi (j + 1)
    have er : nI (sw_bt n P i (j + 1)) - nI (sw_bt n P i (j + 1)) / nI n * nI n = nI (sw_it n P i (j + 1)) := by
      rw [pk_rem (by omega) (by omega) (by omega), sw_bt_mod hi]
    refine ⟨sy_n0 h1 h5, ?_⟩
    refine pk_eq (sw_it n P i (j + 1)) i (fun e => absurd e (hl j (by omega))) (fun _ => ?_) er rfl
    refine ⟨sy_n0 h1 h5, by rw [er]; exact sy_in (by omega), nm_r (e' := nI (sw_bt n P i (j + 1 + 1))) ?_ (ih (j + 1) (by omega))⟩
    rw [er, sy_at ha h5 b3]
    exact nI_add _ _
theorem sy_o47 {post : Int32 → Prop} {J16 : Int32 → Int32 → Int32 → Prop} {many : Int32} {a o m f : Nat → Int32} {n P i : Nat} (h1 : 1 ≤ n) (h5 : n ≤ 5) (ha : sy_A n P a) {r : Nat} (hJ : J16 (nI r) many (nI (i + 1))) : ∀ K s c, sw_yw n P K s c = some r → s < 2 ^ n → c < n → wY_orbits_47 post J16 many (nI i) (nI n) a o m f K (nI s) (nI c) := by
  have h32 := sx_32 h5
  intro K
  induction K with
  | zero =>
    intro s c e _ _
    exact absurd (show none = some r from e) (by simp)
  | succ K ih =>
    intro s c e hs hc
    have e' : (if s / 2 ^ c % 2 = 0 then sw_yw n P K (s ||| 2 ^ c) (sw_l n P c) else some s) = some r := e
    by_cases hb : s / 2 ^ c % 2 = 0
    · rw [if_pos hb] at e'
      refine br_t (sx_b0 (by omega) (by omega) hb) ?_
      refine nm_r (e' := nI (s ||| 2 ^ c)) ?_ ⟨sy_in (by omega), sy_n0 h1 h5, nm_r (sy_rm ha h5 hc) (ih _ _ e' (sw_or_lt hs hc) (sw_l_lt P c h1))⟩
      rw [sw_one (by omega)]
      exact sw_or _ _
    · rw [if_neg hb] at e'
      obtain rfl : s = r := Option.some.inj e'
      exact br_f (sx_b1 (by omega) (by omega) hb) (nm_r (nI_1 i) hJ)
theorem sy_orb_l {post : Int32 → Prop} {a o m f : Nat → Int32} {n P : Nat} (h1 : 1 ≤ n) (h5 : n ≤ 5) (hP : P < 8 ^ n) (hJ : sw_J n P) (ha : sy_A n P a) (h : post (nI (sw_ox n P n).1)) : ∀ k i, i + k = n → wY_orbits_16 post (nI n) a o m f (k + 1) (nI (sw_ox n P i).2) (nI (sw_ox n P i).1) (nI i) := by
  intro k
  induction k with
  | zero =>
    intro i hi
    obtain rfl : i = n := by omega
    exact pk_le i i (fun _ => h) (fun z => absurd z (by omega))
  | succ k ih =>
    intro i hi
    have ho := sw_ox_lt (P := P) h1 i (by omega)
    have h32 := sx_32 h5
    have hd := sw_d_lt n P i
    have z := ih (i + 1) (by omega)
    have eh := sy_at ha h5 (show i < n by omega)
    refine pk_le n i (fun z => absurd z (by omega)) (fun _ => ?_)
    by_cases hc : sw_d n P i ≠ 0 ∧ (sw_ox n P i).2 / 2 ^ i % 2 = 0
    · have eo : sw_ox n P (i + 1) = ((sw_ox n P i).1 + 1, (sw_ox n P i).2 ||| sw_tb n P i n) := if_pos hc
      rw [eo] at z
      refine br_t (sx_b0 (by omega) (by omega) hc.2) ⟨sy_in (by omega), br_f (by rw [eh]; exact nI_nle (Nat.pos_of_ne_zero hc.1) (by omega)) ?_⟩
      refine nm_r (nI_1 _) ⟨7, ?_⟩
      exact sy_o47 (J16 := wY_orbits_16 post (nI n) a o m f (k + 1)) h1 h5 ha z 7 _ i (sw_orb_ok h1 h5 hP hJ (by omega) hc.1 hc.2) ho.2 (by omega)
    · have eo : sw_ox n P (i + 1) = sw_ox n P i := if_neg hc
      rw [eo] at z
      by_cases hb : (sw_ox n P i).2 / 2 ^ i % 2 = 0
      · have h0 : sw_d n P i = 0 := Classical.byContradiction (fun w => hc ⟨w, hb⟩)
        exact br_t (sx_b0 (by omega) (by omega) hb) ⟨sy_in (by omega), br_t (by rw [eh, h0]; decide) (nm_r (nI_1 i) z)⟩
      · exact br_f (sx_b1 (by omega) (by omega) hb) (nm_r (nI_1 i) z)
