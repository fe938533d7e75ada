/-! the component: states, balls, ways -/
theorem sx_throwAtE {post : Int32 → Prop} {pat : Int32} {d : Nat → Int32} {n m : Nat} {x : Int32} (h1 : 1 ≤ n) (h5 : n ≤ 5) (e : (x.toInt % (n : Int)).toNat = m) (h : post (nI m)) : wpX_throwAt post (pat, nI n, d) x := by
  refine sx_throwAt' h1 h5 ?_
  rw [e]
  exact h
theorem sx_throwAtM {post : Int32 → Prop} {pat : Int32} {d : Nat → Int32} {n m m' : Nat} (h1 : 1 ≤ n) (h5 : n ≤ 5) (hm : m < 2 ^ 31) (e : m % n = m') (h : post (nI m')) : wpX_throwAt post (pat, nI n, d) (nI m) := by
  refine sx_throwAt h1 h5 hm ?_
  rw [e]
  exact h
theorem sw_ix_lt {n : Nat} (t : Int) (k : Nat) (h1 : 1 ≤ n) (h5 : n ≤ 5) : sw_ix n t k < n := by
  have b := sw_em (x := t - (k : Int)) h1 h5
  unfold sw_ix
  omega
theorem sw_tsub {t : Int32} {j : Nat} (ht : -5000 ≤ t.toInt ∧ t.toInt ≤ 5000) (hj : j < 100) : (t - nI j).toInt = t.toInt - (j : Int) := by
  rw [Int32.toInt_sub, nI_toInt (by omega)]
  exact Int.bmod_eq_of_le (by omega) (by omega)
theorem sx_sb_l {post : Int32 → Prop} {d : Nat → Int32} {n P : Nat} {t : Int32} (h1 : 1 ≤ n) (h5 : n ≤ 5) (hP : P < 8 ^ n) (ht : -5000 ≤ t.toInt ∧ t.toInt ≤ 5000) (h : post (nI (sw_st n P t.toInt 7))) : ∀ k j, j + k = 7 → wX_stateBefore_4 post t (nI P) (nI n) d (k + 1) (nI (sw_st n P t.toInt j)) (nI (j + 1)) := by
  intro k
  induction k with
  | zero =>
    intro j hj
    obtain rfl : j = 7 := by omega
    exact pk_lt 7 8 (fun _ => h) (fun z => absurd z (by omega))
  | succ k ih =>
    intro j hj
    refine pk_lt 7 (j + 1) (fun z => absurd z (by omega)) (fun _ => ?_)
    have et := sw_tsub ht (show j + 1 < 100 by omega)
    refine sx_throwAtE (m := sw_ix n t.toInt (j + 1)) h1 h5 (by rw [et]; rfl) ?_
    refine sx_heightIn h5 hP (sw_ix_lt _ _ h1 h5) ?_
    have hd := sw_d_lt n P (sw_ix n t.toInt (j + 1))
    by_cases hD : j + 1 ≤ sw_d n P (sw_ix n t.toInt (j + 1))
    · have es : sw_st n P t.toInt (j + 1) = sw_st n P t.toInt j ||| 2 ^ (sw_d n P (sw_ix n t.toInt (j + 1)) - (j + 1)) := if_pos hD
      refine nm_r (pk_sub hD) ?_
      refine br_f (nI_pos (by omega)) ?_
      refine nm_r (e' := nI (sw_st n P t.toInt (j + 1))) ?_ ?_
      · rw [sw_one (by omega), es]
        exact sw_or _ _
      exact nm_r (nI_1 (j + 1)) (ih (j + 1) (by omega))
    · have es : sw_st n P t.toInt (j + 1) = sw_st n P t.toInt j := if_neg hD
      refine nm_e ?_
      refine br_t (pk_sneg (by omega) (by omega)) ?_
      refine nm_r (nI_1 (j + 1)) ?_
      have z := ih (j + 1) (by omega)
      rw [es] at z
      exact z
theorem sx_stateBefore {post : Int32 → Prop} {d : Nat → Int32} {n P : Nat} {t : Int32} (h1 : 1 ≤ n) (h5 : n ≤ 5) (hP : P < 8 ^ n) (ht : -5000 ≤ t.toInt ∧ t.toInt ≤ 5000) (h : post (nI (sw_st n P t.toInt 7))) : wpX_stateBefore post (nI P, nI n, d) t := by
  unfold wpX_stateBefore
  exact ⟨8, sx_sb_l h1 h5 hP ht h 7 0 rfl⟩
theorem sx_stateN {post : Int32 → Prop} {d : Nat → Int32} {n P i : Nat} (h1 : 1 ≤ n) (h5 : n ≤ 5) (hP : P < 8 ^ n) (hi : i < 100) (h : post (nI (sw_st n P (i : Int) 7))) : wpX_stateBefore post (nI P, nI n, d) (nI i) := by
  have e := nI_toInt (show i < 2 ^ 31 by omega)
  refine sx_stateBefore h1 h5 hP (by rw [e]; omega) ?_
  rw [e]
  exact h
theorem sx_bp_l {post : Int32 → Prop} {pat thr : Int32} {d : Nat → Int32} {s : Nat} (hs : s < 128) (h : post (nI (sw_mb s 7))) : ∀ k j, j + k = 7 → wX_ballsOfPattern_10 post (nI s) pat thr d (k + 1) (nI (sw_mb s j)) (nI j) := by
  intro k
  induction k with
  | zero =>
    intro j hj
    obtain rfl : j = 7 := by omega
    exact pk_le 7 7 (fun _ => h) (fun z => absurd z (by omega))
  | succ k ih =>
    intro j hj
    refine pk_le 7 j (fun z => absurd z (by omega)) (fun _ => ?_)
    refine nm_r (e' := nI (sw_mb s (j + 1))) ?_ ?_
    · rw [sw_bit (by omega) (by omega)]
      exact nI_add _ _
    exact nm_r (nI_1 j) (ih (j + 1) (by omega))
theorem sx_ballsOf {post : Int32 → Prop} {d : Nat → Int32} {n P : Nat} (h1 : 1 ≤ n) (h5 : n ≤ 5) (hP : P < 8 ^ n) (h : post (nI (sw_mb (sw_st n P 0 7) 7))) : wpX_ballsOfPattern post (nI P, nI n, d) := by
  unfold wpX_ballsOfPattern
  dsimp only
  refine sx_stateN (i := 0) h1 h5 hP (by decide) ?_
  exact ⟨8, sx_bp_l (sw_st_lt n P 0 7) h 7 0 rfl⟩
def sw_pr (n P : Nat) : Prop := ∀ i : Nat, i < n → ∀ j : Nat, j < i → ¬ sw_st n P (i : Int) 7 = sw_st n P (j : Int) 7
theorem sw_st31 (n P : Nat) (t : Int) : sw_st n P t 7 < 2 ^ 31 := Nat.lt_trans (sw_st_lt n P t 7) (by decide)
theorem sx_pr32 {post : Int32 → Prop} {J16 : Int32 → Prop} {d : Nat → Int32} {n P i : Nat} (h1 : 1 ≤ n) (h5 : n ≤ 5) (hP : P < 8 ^ n) (hi : i < n) (he : ∀ j : Nat, j < i → sw_st n P (i : Int) 7 = sw_st n P (j : Int) 7 → post 0) (hn : (∀ j : Nat, j < i → ¬ sw_st n P (i : Int) 7 = sw_st n P (j : Int) 7) → J16 (nI (i + 1))) : ∀ k j : Nat, j + k = i → (∀ j' : Nat, j' < j → ¬ sw_st n P (i : Int) 7 = sw_st n P (j' : Int) 7) → wX_prime_32 post J16 (nI i) (nI (sw_st n P (i : Int) 7)) (nI P) (nI n) d (k + 1) (nI j) := by
  intro k
  induction k with
  | zero =>
    intro j hj hq
    obtain rfl : j = i := by omega
    exact pk_le j j (fun _ => nm_r (nI_1 j) (hn hq)) (fun z => absurd z (by omega))
  | succ k ih =>
    intro j hj hq
    refine pk_le i j (fun z => absurd z (by omega)) (fun _ => ?_)
    refine sx_stateN h1 h5 hP (by omega) ?_
    refine pk_eq (sw_st n P (j : Int) 7) (sw_st n P (i : Int) 7) (fun e => he j (by omega) e.symm) (fun e => ?_) rfl rfl (sw_st31 _ _ _) (sw_st31 _ _ _)
    refine nm_r (nI_1 j) (ih (j + 1) (by omega) (fun j' hj' => ?_))
    by_cases ej : j' = j
    · rw [ej]
      exact fun z => e z.symm
    · exact hq j' (by omega)
theorem sx_pr16 {post : Int32 → Prop} {d : Nat → Int32} {n P : Nat} (h1 : 1 ≤ n) (h5 : n ≤ 5) (hP : P < 8 ^ n) (ht : sw_pr n P → post 1) (hf : ¬ sw_pr n P → post 0) : ∀ k i : Nat, i + k = n → (∀ i' : Nat, i' < i → ∀ j : Nat, j < i' → ¬ sw_st n P (i' : Int) 7 = sw_st n P (j : Int) 7) → wX_prime_16 post (nI P) (nI n) d (k + 1) (nI i) := by
  intro k
  induction k with
  | zero =>
    intro i hi hq
    obtain rfl : i = n := by omega
    exact pk_le i i (fun _ => ht hq) (fun z => absurd z (by omega))
  | succ k ih =>
    intro i hi hq
    refine pk_le n i (fun z => absurd z (by omega)) (fun _ => ?_)
    refine sx_stateN h1 h5 hP (by omega) ?_
    refine ⟨i + 1, sx_pr32 (J16 := wX_prime_16 post (nI P) (nI n) d (k + 1)) h1 h5 hP (by omega) (fun j hj e => hf fun z => z i (by omega) j hj e) (fun hne => ?_) i 0 (by omega) (fun j' hj' => absurd hj' (by omega))⟩
    refine ih (i + 1) (by omega) (fun i' hi' => ?_)
    by_cases ei : i' = i
    · rw [ei]
      exact hne
    · exact hq i' (by omega)
theorem sx_per_l {post : Int32 → Prop} {d : Nat → Int32} {n P i K : Nat} (h1 : 1 ≤ n) (h5 : n ≤ 5) (hP : P < 8 ^ n) (hi : i < n) (hK : K < n) (hit : sw_it n P i (K + 1) = i) (hl : ∀ j, j < K → ¬ sw_it n P i (j + 1) = i) (h : post (nI (sw_bt n P i (K + 1) - i))) : ∀ k j, j + k = K → wX_beatsUntilBackAt_4 post (nI i) (nI P) (nI n) d (k + 1) (nI (sw_bt n P i j)) (nI j) := by
  intro k
  induction k with
  | zero =>
    intro j hj
    obtain rfl : j = K := by omega
    have b1 := sw_bt_le (n := n) (P := P) (i := i) j
    have b2 := sw_bt_le (n := n) (P := P) (i := i) (j + 1)
    refine pk_le n j (fun z => absurd z (by omega)) (fun _ => ?_)
    refine sx_throwAtM h1 h5 (by omega) (sw_bt_mod hi j) ?_
    refine sx_heightIn h5 hP (sw_it_lt hi j) ?_
    refine nm_r (e' := nI (sw_bt n P i (j + 1))) (nI_add _ _) ?_
    refine sx_throwAtM h1 h5 (by omega) (sw_bt_mod hi (j + 1)) ?_
    exact br_t (congrArg nI hit) (ek_v (P := post) (pk_sub b2.1) h)
  | succ k ih =>
    intro j hj
    have b1 := sw_bt_le (n := n) (P := P) (i := i) j
    have b2 := sw_bt_le (n := n) (P := P) (i := i) (j + 1)
    have b3 := sw_it_lt (P := P) hi (j + 1)
    refine pk_le n j (fun z => absurd z (by omega)) (fun _ => ?_)
    refine sx_throwAtM h1 h5 (by omega) (sw_bt_mod hi j) ?_
    refine sx_heightIn h5 hP (sw_it_lt hi j) ?_
    refine nm_r (e' := nI (sw_bt n P i (j + 1))) (nI_add _ _) ?_
    refine sx_throwAtM h1 h5 (by omega) (sw_bt_mod hi (j + 1)) ?_
    refine pk_eq (sw_it n P i (j + 1)) i (fun e => absurd e (hl j (by omega))) (fun _ => ?_)
    exact nm_r (nI_1 j) (ih (j + 1) (by omega))
theorem sx_beats {post : Int32 → Prop} {d : Nat → Int32} {n P i K : Nat} (h1 : 1 ≤ n) (h5 : n ≤ 5) (hP : P < 8 ^ n) (hi : i < n) (hK : K < n) (hit : sw_it n P i (K + 1) = i) (hl : ∀ j, j < K → ¬ sw_it n P i (j + 1) = i) (h : post (nI (sw_bt n P i (K + 1) - i))) : wpX_beatsUntilBackAt post (nI P, nI n, d) (nI i) := by
  unfold wpX_beatsUntilBackAt
  exact ⟨K + 1, sx_per_l h1 h5 hP hi hK hit hl h K 0 (by omega)⟩
theorem sx_tb_l {post : Int32 → Prop} {d : Nat → Int32} {n P i : Nat} (h1 : 1 ≤ n) (h5 : n ≤ 5) (hP : P < 8 ^ n) (hi : i < n) (h : post (nI (sw_tb n P i n))) : ∀ k j, j + k = n → wX_throwsOfBall_7 post (nI P) (nI n) d (k + 1) (nI (sw_tb n P i j)) (nI (sw_it n P i j)) (nI j) := by
  intro k
  induction k with
  | zero =>
    intro j hj
    obtain rfl : j = n := by omega
    exact pk_le j j (fun _ => h) (fun z => absurd z (by omega))
  | succ k ih =>
    intro j hj
    have b3 := sw_it_lt (P := P) hi j
    have hd := sw_d_lt n P (sw_it n P i j)
    refine pk_le n j (fun z => absurd z (by omega)) (fun _ => ?_)
    refine nm_r (e' := nI (sw_tb n P i (j + 1))) ?_ ?_
    · rw [sw_one (by omega)]
      exact sw_or _ _
    refine sx_heightIn h5 hP b3 ?_
    refine nm_r (nI_add _ _) ?_
    refine sx_throwAtM (m' := sw_it n P i (j + 1)) h1 h5 (by omega) rfl ?_
    exact nm_r (nI_1 j) (ih (j + 1) (by omega))
theorem sx_throwsOf {post : Int32 → Prop} {d : Nat → Int32} {n P i : Nat} (h1 : 1 ≤ n) (h5 : n ≤ 5) (hP : P < 8 ^ n) (hi : i < n) (h : post (nI (sw_tb n P i n))) : wpX_throwsOfBall post (nI P, nI n, d) (nI i) := by
  unfold wpX_throwsOfBall
  exact ⟨n + 1, sx_tb_l h1 h5 hP hi h n 0 (by omega)⟩
theorem sx_orb_l {post : Int32 → Prop} {d : Nat → Int32} {n P : Nat} (h1 : 1 ≤ n) (h5 : n ≤ 5) (hP : P < 8 ^ n) (h : post (nI (sw_ox n P n).1)) : ∀ k i, i + k = n → wX_orbits_20 post (nI P) (nI n) d (k + 1) (nI (sw_ox n P i).1) (nI (sw_ox n P i).2) (nI i) := by
  intro k
  induction k with
  | zero =>
    intro i hi
    obtain rfl : i = n := by omega
    exact pk_le i i (fun _ => h) (fun z => absurd z (by omega))
  | succ k ih =>
    intro i hi
    have ho := sw_ox_lt (P := P) h1 i (by omega)
    have h32 := sx_32 h5
    have hd := sw_d_lt n P i
    have z := ih (i + 1) (by omega)
    refine pk_le n i (fun z => absurd z (by omega)) (fun _ => ?_)
    refine sx_heightIn h5 hP (by omega) ?_
    by_cases hc : sw_d n P i ≠ 0 ∧ (sw_ox n P i).2 / 2 ^ i % 2 = 0
    · have eo : sw_ox n P (i + 1) = ((sw_ox n P i).1 + 1, (sw_ox n P i).2 ||| sw_tb n P i n) := if_pos hc
      rw [eo] at z
      refine br_f (nI_nle (Nat.pos_of_ne_zero hc.1) (by omega)) (br_t (sx_b0 (by omega) (by omega) hc.2) ?_)
      refine nm_r (nI_1 _) ?_
      refine sx_throwsOf h1 h5 hP (by omega) ?_
      exact nm_r (sw_or _ _) (nm_r (nI_1 i) z)
    · have eo : sw_ox n P (i + 1) = sw_ox n P i := if_neg hc
      rw [eo] at z
      by_cases h0 : sw_d n P i = 0
      · rw [h0]
        exact br_t (by decide) (nm_r (nI_1 i) z)
      · refine br_f (nI_nle (Nat.pos_of_ne_zero h0) (by omega)) (br_f (sx_b1 (by omega) (by omega) (fun w => hc ⟨h0, w⟩)) ?_)
        exact nm_r (nI_1 i) z
