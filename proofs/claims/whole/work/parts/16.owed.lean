def i_Rel (_ : Nat) (u : SX) (v : SY) : Prop := ∃ (n P : Nat) (d a o m f : Nat → Int32), 1 ≤ n ∧ n ≤ 5 ∧ P < 8 ^ n ∧ sy_A n P a ∧ u = (nI P, nI n, d) ∧ v = (nI n, a, o, m, f)
theorem sr_mk {k n P : Nat} {d a o m f : Nat → Int32} (h1 : 1 ≤ n) (h5 : n ≤ 5) (hP : P < 8 ^ n) (ha : sy_A n P a) : i_Rel k (nI P, nI n, d) (nI n, a, o, m, f) := ⟨n, P, d, a, o, m, f, h1, h5, hP, ha, rfl, rfl⟩
theorem i_up {k : Nat} {u : SX} {v : SY} (h : i_Rel k u v) : i_Rel (k + 3) u v := h
theorem i_vc0 : wpX_init (fun u => wpY_init (fun v => i_Rel 0 u v)) := by
  have hA : sy_A 1 3 (upd (fun _ => 0) 0 3) := by
    intro i hi
    obtain rfl : i = 0 := by omega
    rw [pk_us]
    decide
  unfold wpX_init
  unfold wpY_init
  refine nm_e ?_
  exact ⟨1, 3, _, _, _, _, _, by decide, by decide, by decide, hA, rfl, rfl⟩
theorem i_vc_put {k : Nat} {u : SX} {v : SY} (I : i_Rel k u v) (hk : k + 3 ≤ 1536) (v1 : Int32) : wpX_put (fun r u' => wpY_put (fun r' v' => r' = r ∧ i_Rel (k + 3) u' v') v v1) u v1 := by
  obtain ⟨n, P, d, a, o, m, f, h1, h5, hP, ha, rfl, rfl⟩ := I
  rcases sx_cls v1 8 (by decide) with hb | ⟨j, hj, rfl⟩
  · unfold wpX_put
    dsimp only
    refine sx_isHeight_b hb (br_t rfl ?_)
    unfold wpY_put
    dsimp only
    exact sy_noHeight_b hb (br_f (by decide) ⟨rfl, sr_mk h1 h5 hP ha⟩)
  · refine sx_put h5 hP hj (fun z => ?_) (fun z => ?_)
    · refine sy_put h1 h5 ha hj (fun _ a' ha' => ⟨rfl, sr_mk (by omega) (by omega) ?_ ha'⟩) (fun w => absurd w (by omega))
      rw [Nat.pow_succ]
      omega
    · exact sy_put h1 h5 ha hj (fun w => absurd w (by omega)) (fun _ => ⟨rfl, sr_mk h1 h5 hP ha⟩)
theorem i_vc_drop {k : Nat} {u : SX} {v : SY} (I : i_Rel k u v) (hk : k + 3 ≤ 1536) : wpX_drop (fun r u' => wpY_drop (fun r' v' => r' = r ∧ i_Rel (k + 3) u' v') v) u := by
  obtain ⟨n, P, d, a, o, m, f, h1, h5, hP, ha, rfl, rfl⟩ := I
  refine sx_drop h1 h5 hP (fun z => ?_) (fun z => ?_)
  · refine sy_drop h1 h5 ha (fun _ => ⟨rfl, sr_mk (by omega) (by omega) ?_ (sy_drop_A z ha)⟩) (fun w => absurd w (by omega))
    obtain ⟨g, rfl⟩ : ∃ g, n = g + 1 := ⟨n - 1, by omega⟩
    rw [Nat.pow_succ] at hP
    rw [show g + 1 - 1 = g by omega]
    omega
  · exact sy_drop h1 h5 ha (fun w => absurd w (by omega)) (fun _ => ⟨rfl, sr_mk h1 h5 hP ha⟩)
theorem i_vc_set {k : Nat} {u : SX} {v : SY} (I : i_Rel k u v) (hk : k + 3 ≤ 1536) (v1 : Int32) (v2 : Int32) : wpX_set (fun r u' => wpY_set (fun r' v' => r' = r ∧ i_Rel (k + 3) u' v') v v1 v2) u v1 v2 := by
  obtain ⟨n, P, d, a, o, m, f, h1, h5, hP, ha, rfl, rfl⟩ := I
  rcases sx_cls v1 n (by omega) with hb | ⟨i, hi, rfl⟩
  · unfold wpX_set
    dsimp only
    refine sx_isThrow_b hb (br_t rfl ?_)
    unfold wpY_set
    dsimp only
    exact sy_noThrow_b hb (br_f (by decide) ⟨rfl, sr_mk h1 h5 hP ha⟩)
  · rcases sx_cls v2 8 (by decide) with hb | ⟨j, hj, rfl⟩
    · unfold wpX_set
      dsimp only
      refine sx_isThrow_t h5 hi (br_f (by decide) ?_)
      refine sx_isHeight_b hb (br_t rfl ?_)
      unfold wpY_set
      dsimp only
      refine sy_noThrow_t h5 hi (br_t rfl ?_)
      exact sy_noHeight_b hb (br_f (by decide) ⟨rfl, sr_mk h1 h5 hP ha⟩)
    · refine sx_set h5 hP hi hj ?_
      exact sy_set h5 ha hi hj (fun a' ha' => ⟨rfl, sr_mk h1 h5 (sw_w_lt h5 hi hP hj) ha'⟩)
theorem i_vc_swap {k : Nat} {u : SX} {v : SY} (I : i_Rel k u v) (hk : k + 3 ≤ 1536) (v1 : Int32) : wpX_swap (fun r u' => wpY_swap (fun r' v' => r' = r ∧ i_Rel (k + 3) u' v') v v1) u v1 := by
  obtain ⟨n, P, d, a, o, m, f, h1, h5, hP, ha, rfl, rfl⟩ := I
  rcases sx_cls v1 n (by omega) with hb | ⟨j, hj, rfl⟩
  · unfold wpX_swap
    dsimp only
    refine sx_isThrow_b hb (br_t rfl ?_)
    unfold wpY_swap
    dsimp only
    exact sy_noThrow_b hb (br_f (by decide) ⟨rfl, sr_mk h1 h5 hP ha⟩)
  · refine sx_swap h1 h5 hP hj (fun z => ?_) (fun z c1 c2 W hW => ?_)
    · exact sy_swapA h1 h5 ha hj z ⟨rfl, sr_mk h1 h5 hP ha⟩
    · exact sy_swapC z h5 ha hj c1 c2 hW (fun a' ha' => ⟨rfl, sr_mk h1 h5 hW.1 ha'⟩)
theorem i_vc_turn {k : Nat} {u : SX} {v : SY} (I : i_Rel k u v) (hk : k + 3 ≤ 1536) : wpX_turn (fun r u' => wpY_turn (fun r' v' => r' = r ∧ i_Rel (k + 3) u' v') v) u := by
  obtain ⟨n, P, d, a, o, m, f, h1, h5, hP, ha, rfl, rfl⟩ := I
  refine sx_turn h1 h5 hP ?_
  refine sy_turn h1 h5 ha (fun a' ha' => ⟨rfl, sr_mk h1 h5 ?_ ha'⟩)
  have hw := sw_t_lt h5 h1 hP
  have hd := sw_d_lt n P 0
  obtain ⟨g, rfl⟩ : ∃ g, n = g + 1 := ⟨n - 1, by omega⟩
  rw [show g + 1 - 1 = g by omega] at hw
  rw [Nat.pow_succ]
  omega
theorem i_vc_mirror {k : Nat} {u : SX} {v : SY} (I : i_Rel k u v) (hk : k + 3 ≤ 1536) : wpX_mirror (fun r u' => wpY_mirror (fun r' v' => r' = r ∧ i_Rel (k + 3) u' v') v) u := by
  obtain ⟨n, P, d, a, o, m, f, h1, h5, hP, ha, rfl, rfl⟩ := I
  by_cases hJ : sw_J n P
  · refine sx_mirror h1 h5 hP hJ (fun Q hQ hq => ?_)
    refine sy_mirror h1 h5 hJ ha (fun a' o' hq' => ⟨rfl, sr_mk h1 h5 hQ (fun i hi => ?_)⟩)
    obtain ⟨j, hj, e⟩ := sw_g_surj h1 h5 hJ hi
    rw [← e, hq' j hj, hq j hj]
  · unfold wpX_mirror
    dsimp only
    refine sx_landsApart h1 h5 hP (fun z => absurd z hJ) (fun _ => br_t rfl ?_)
    unfold wpY_mirror
    dsimp only
    exact sy_isJugglable h1 h5 ha (fun z => absurd z hJ) (fun _ => br_t rfl ⟨rfl, sr_mk h1 h5 hP ha⟩)
theorem i_vc_size {k : Nat} {u : SX} {v : SY} (I : i_Rel k u v) (hk : k + 3 ≤ 1536) : wpX_size (fun r => wpY_size (fun r' => r' = r ∧ i_Rel (k + 3) u v) v) u := by
  obtain ⟨n, P, d, a, o, m, f, h1, h5, hP, ha, rfl, rfl⟩ := I
  unfold wpX_size
  unfold wpY_size
  exact ⟨rfl, sr_mk h1 h5 hP ha⟩
theorem i_vc_height {k : Nat} {u : SX} {v : SY} (I : i_Rel k u v) (hk : k + 3 ≤ 1536) (v1 : Int32) : wpX_height (fun r => wpY_height (fun r' => r' = r ∧ i_Rel (k + 3) u v) v v1) u v1 := by
  obtain ⟨n, P, d, a, o, m, f, h1, h5, hP, ha, rfl, rfl⟩ := I
  unfold wpX_height
  dsimp only
  rcases sx_cls v1 n (by omega) with hb | ⟨i, hi, rfl⟩
  · refine sx_isThrow_b hb (br_t rfl ?_)
    unfold wpY_height
    dsimp only
    exact sy_noThrow_b hb (br_f (by decide) ⟨rfl, sr_mk h1 h5 hP ha⟩)
  · refine sx_isThrow_t h5 hi (br_f (by decide) ?_)
    refine sx_heightIn h5 hP hi ?_
    unfold wpY_height
    dsimp only
    exact sy_noThrow_t h5 hi (br_t rfl ⟨sy_in (by omega), sy_at ha h5 hi, sr_mk h1 h5 hP ha⟩)
theorem i_vc_jugglable {k : Nat} {u : SX} {v : SY} (I : i_Rel k u v) (hk : k + 3 ≤ 1536) : wpX_jugglable (fun r => wpY_jugglable (fun r' => r' = r ∧ i_Rel (k + 3) u v) v) u := by
  obtain ⟨n, P, d, a, o, m, f, h1, h5, hP, ha, rfl, rfl⟩ := I
  unfold wpX_jugglable
  dsimp only
  refine sx_landsApart h1 h5 hP (fun z => br_f (by decide) ?_) (fun z => br_t rfl ?_)
  · exact sy_jugglable h1 h5 ha ⟨(sw_jb_t z).symm, sr_mk h1 h5 hP ha⟩
  · exact sy_jugglable h1 h5 ha ⟨(sw_jb_f z).symm, sr_mk h1 h5 hP ha⟩
theorem i_vc_balls {k : Nat} {u : SX} {v : SY} (I : i_Rel k u v) (hk : k + 3 ≤ 1536) : wpX_balls (fun r => wpY_balls (fun r' => r' = r ∧ i_Rel (k + 3) u v) v) u := by
  obtain ⟨n, P, d, a, o, m, f, h1, h5, hP, ha, rfl, rfl⟩ := I
  unfold wpX_balls
  dsimp only
  refine sx_landsApart h1 h5 hP (fun hJ => br_f (by decide) ?_) (fun hJ => br_t rfl ?_)
  · refine sx_ballsOf h1 h5 hP ?_
    exact sy_balls h1 h5 ha (fun _ => ⟨rfl, sr_mk h1 h5 hP ha⟩) (fun z => absurd hJ z)
  · exact sy_balls h1 h5 ha (fun z => absurd z hJ) (fun _ => ⟨rfl, sr_mk h1 h5 hP ha⟩)
theorem i_vc_state {k : Nat} {u : SX} {v : SY} (I : i_Rel k u v) (hk : k + 3 ≤ 1536) (v1 : Int32) : wpX_state (fun r => wpY_state (fun r' => r' = r ∧ i_Rel (k + 3) u v) v v1) u v1 := by
  obtain ⟨n, P, d, a, o, m, f, h1, h5, hP, ha, rfl, rfl⟩ := I
  have r : v1 < -1000 ∨ (¬ v1 < -1000 ∧ ¬ v1 ≤ 1000) ∨ (¬ v1 < -1000 ∧ v1 ≤ 1000) := by
    by_cases z : v1 < -1000
    · exact Or.inl z
    · by_cases z2 : v1 ≤ 1000
      · exact Or.inr (Or.inr ⟨z, z2⟩)
      · exact Or.inr (Or.inl ⟨z, z2⟩)
  unfold wpX_state
  unfold wpY_state
  dsimp only
  rcases r with z | ⟨z, z2⟩ | ⟨z, z2⟩
  · exact br_t z (br_t z ⟨rfl, sr_mk h1 h5 hP ha⟩)
  · exact br_f z (br_f z2 (br_f z (br_f z2 ⟨rfl, sr_mk h1 h5 hP ha⟩)))
  · have ht : -5000 ≤ v1.toInt ∧ v1.toInt ≤ 5000 := by
      rw [Int32.lt_iff_toInt_lt, show (-1000 : Int32).toInt = -1000 by decide] at z
      rw [Int32.le_iff_toInt_le, show (1000 : Int32).toInt = 1000 by decide] at z2
      omega
    refine br_f z (br_t z2 (sx_landsApart h1 h5 hP (fun hJ => br_f (by decide) ?_) (fun hJ => br_t rfl ?_)))
    · refine sx_stateBefore h1 h5 hP ht ?_
      refine br_f z (br_t z2 (sy_isJugglable h1 h5 ha (fun _ => br_f (by decide) ?_) (fun w => absurd hJ w)))
      exact sy_stateBefore h1 h5 ha ht ⟨rfl, sr_mk h1 h5 hP ha⟩
    · exact br_f z (br_t z2 (sy_isJugglable h1 h5 ha (fun w => absurd w hJ) (fun _ => br_t rfl ⟨rfl, sr_mk h1 h5 hP ha⟩)))
theorem i_vc_prime {k : Nat} {u : SX} {v : SY} (I : i_Rel k u v) (hk : k + 3 ≤ 1536) : wpX_prime (fun r => wpY_prime (fun r' => r' = r ∧ i_Rel (k + 3) u v) v) u := by
  obtain ⟨n, P, d, a, o, m, f, h1, h5, hP, ha, rfl, rfl⟩ := I
  unfold wpX_prime
  dsimp only
  refine sx_landsApart h1 h5 hP (fun hJ => br_f (by decide) ⟨n - 1 + 1, ?_⟩) (fun hJ => br_t rfl ?_)
  · refine sx_pr16 h1 h5 hP (fun hp => ?_) (fun hp => ?_) (n - 1) 1 (by omega) (fun i hi j hj => absurd hj (by omega))
    · unfold wpY_prime
      dsimp only
      refine sy_isJugglable h1 h5 ha (fun _ => br_f (by decide) ⟨n + 1, ?_⟩) (fun w => absurd hJ w)
      exact sy_pr12 h1 h5 ha (fun _ => ⟨rfl, sr_mk h1 h5 hP ha⟩) (fun w => absurd hp w) n 0 (by omega) (fun i hi => absurd hi (by omega))
    · unfold wpY_prime
      dsimp only
      refine sy_isJugglable h1 h5 ha (fun _ => br_f (by decide) ⟨n + 1, ?_⟩) (fun w => absurd hJ w)
      exact sy_pr12 h1 h5 ha (fun w => absurd w hp) (fun _ => ⟨rfl, sr_mk h1 h5 hP ha⟩) n 0 (by omega) (fun i hi => absurd hi (by omega))
  · unfold wpY_prime
    dsimp only
    exact sy_isJugglable h1 h5 ha (fun w => absurd w hJ) (fun _ => br_t rfl ⟨rfl, sr_mk h1 h5 hP ha⟩)
theorem i_vc_period {k : Nat} {u : SX} {v : SY} (I : i_Rel k u v) (hk : k + 3 ≤ 1536) (v1 : Int32) : wpX_period (fun r => wpY_period (fun r' => r' = r ∧ i_Rel (k + 3) u v) v v1) u v1 := by
  obtain ⟨n, P, d, a, o, m, f, h1, h5, hP, ha, rfl, rfl⟩ := I
  unfold wpX_period
  dsimp only
  rcases sx_cls v1 n (by omega) with hb | ⟨i, hi, rfl⟩
  · refine sx_isThrow_b hb (br_t rfl ?_)
    unfold wpY_period
    dsimp only
    exact sy_noThrow_b hb (br_f (by decide) ⟨rfl, sr_mk h1 h5 hP ha⟩)
  · have hd := sw_d_lt n P i
    refine sx_isThrow_t h5 hi (br_f (by decide) ?_)
    refine sx_heightIn h5 hP hi ?_
    by_cases h0 : sw_d n P i = 0
    · rw [h0]
      refine br_t rfl ?_
      unfold wpY_period
      dsimp only
      refine sy_noThrow_t h5 hi (br_t rfl ⟨sy_in (by omega), br_t ?_ ⟨rfl, sr_mk h1 h5 hP ha⟩⟩)
      rw [sy_at ha h5 hi, h0]
      rfl
    · have hn0 : ¬ nI (sw_d n P i) = 0 := nI_ne0 (Nat.pos_of_ne_zero h0) (by omega)
      have hn0' : ¬ a (nI i).toNatClampNeg = 0 := by
        rw [sy_at ha h5 hi]
        exact hn0
      refine br_f hn0 (sx_landsApart h1 h5 hP (fun hJ => br_f (by decide) ?_) (fun hJ => br_t rfl ?_))
      · obtain ⟨K, hK, hit, hl⟩ := sw_ret h1 h5 hP hJ hi
        refine sx_beats h1 h5 hP hi hK hit hl ?_
        unfold wpY_period
        dsimp only
        refine sy_noThrow_t h5 hi (br_t rfl ⟨sy_in (by omega), br_f hn0' ?_⟩)
        refine sy_isJugglable h1 h5 ha (fun _ => br_f (by decide) ⟨sy_in (by omega), ?_⟩) (fun w => absurd hJ w)
        refine nm_r (e' := nI (sw_bt n P i (0 + 1))) (by rw [sy_at ha h5 hi]; exact nI_add _ _) ⟨K + 1, ?_⟩
        exact sy_per_l h1 h5 ha hi hK hit hl ⟨rfl, sr_mk h1 h5 hP ha⟩ K 0 (by omega)
      · unfold wpY_period
        dsimp only
        refine sy_noThrow_t h5 hi (br_t rfl ⟨sy_in (by omega), br_f hn0' ?_⟩)
        exact sy_isJugglable h1 h5 ha (fun w => absurd w hJ) (fun _ => br_t rfl ⟨rfl, sr_mk h1 h5 hP ha⟩)
theorem i_vc_orbits {k : Nat} {u : SX} {v : SY} (I : i_Rel k u v) (hk : k + 3 ≤ 1536) : wpX_orbits (fun r => wpY_orbits (fun r' => r' = r ∧ i_Rel (k + 3) u v) v) u := by
  obtain ⟨n, P, d, a, o, m, f, h1, h5, hP, ha, rfl, rfl⟩ := I
  unfold wpX_orbits
  dsimp only
  refine sx_landsApart h1 h5 hP (fun hJ => br_f (by decide) ⟨n + 1, ?_⟩) (fun hJ => br_t rfl ?_)
  · refine sx_orb_l h1 h5 hP ?_ n 0 (by omega)
    unfold wpY_orbits
    dsimp only
    refine sy_isJugglable h1 h5 ha (fun _ => br_f (by decide) ⟨n + 1, ?_⟩) (fun w => absurd hJ w)
    exact sy_orb_l h1 h5 hP hJ ha ⟨rfl, sr_mk h1 h5 hP ha⟩ n 0 (by omega)
  · unfold wpY_orbits
    dsimp only
    exact sy_isJugglable h1 h5 ha (fun w => absurd w hJ) (fun _ => br_t rfl ⟨rfl, sr_mk h1 h5 hP ha⟩)
theorem i_vc_count {k : Nat} {u : SX} {v : SY} (I : i_Rel k u v) (hk : k + 3 ≤ 1536) (v1 : Int32) : wpX_count (fun r => wpY_count (fun r' v' => r' = r ∧ i_Rel (k + 3) u v') v v1) u v1 := by
  obtain ⟨n, P, d, a, o, m, f, h1, h5, hP, ha, rfl, rfl⟩ := I
  unfold wpX_count
  dsimp only
  rcases sx_cls v1 8 (by decide) with hb | ⟨b, hb, rfl⟩
  · refine sx_isBall_b hb (br_t rfl ?_)
    unfold wpY_count
    dsimp only
    exact sy_noBalls_b hb (br_f (by decide) ⟨rfl, sr_mk h1 h5 hP ha⟩)
  · refine sx_isBall_t hb (br_f (by decide) ?_)
    refine sx_rowsEnd h5 ?_
    refine sx_countBelow h1 h5 hb (Nat.le_refl _) ?_
    exact sy_count h1 h5 hb (fun o' => ⟨rfl, sr_mk h1 h5 hP ha⟩)
theorem i_vc_rank {k : Nat} {u : SX} {v : SY} (I : i_Rel k u v) (hk : k + 3 ≤ 1536) : wpX_rank (fun r => wpY_rank (fun r' v' => r' = r ∧ i_Rel (k + 3) u v') v) u := by
  obtain ⟨n, P, d, a, o, m, f, h1, h5, hP, ha, rfl, rfl⟩ := I
  unfold wpX_rank
  dsimp only
  refine sx_landsApart h1 h5 hP (fun hJ => br_f (by decide) ?_) (fun hJ => br_t rfl ?_)
  · have hb : sw_mb (sw_st n P 0 7) 7 < 8 := by
      have := sw_mb_le (sw_st n P 0 7) 7
      omega
    refine sx_ballsOf h1 h5 hP ?_
    refine sx_countBelow h1 h5 hb (by omega) ?_
    exact sy_rank h1 h5 hP ha hJ (fun o' => ⟨rfl, sr_mk h1 h5 hP ha⟩)
  · unfold wpY_rank
    dsimp only
    exact sy_isJugglable h1 h5 ha (fun w => absurd w hJ) (fun _ => br_t rfl ⟨rfl, sr_mk h1 h5 hP ha⟩)
theorem i_vc_load {k : Nat} {u : SX} {v : SY} (I : i_Rel k u v) (hk : k + 3 ≤ 1536) (v1 : Int32) (v2 : Int32) : wpX_load (fun r u' => wpY_load (fun r' v' => r' = r ∧ i_Rel (k + 3) u' v') v v1 v2) u v1 v2 := by
  obtain ⟨n, P, d, a, o, m, f, h1, h5, hP, ha, rfl, rfl⟩ := I
  rcases sx_cls v1 8 (by decide) with hb | ⟨b, hb, rfl⟩
  · unfold wpX_load
    dsimp only
    refine sx_isBall_b hb (br_t rfl ?_)
    unfold wpY_load
    dsimp only
    exact sy_noBalls_b hb (br_f (by decide) ⟨rfl, sr_mk h1 h5 hP ha⟩)
  · refine sx_load h1 h5 hb (fun R hR gR eR => ?_) (fun hn => ?_)
    · refine sy_load h1 h5 hb (fun R' a' o' hR' gR' eR' ha' => ?_) (fun hn => absurd eR (hn R hR gR))
      have e := (nI_eq (sw_C31 h5 (by omega)) (sw_C31 h5 (by omega))).mp (eR.trans eR'.symm)
      obtain rfl : R = R' := sw_C_inj gR gR' e
      exact ⟨rfl, sr_mk h1 h5 hR ha'⟩
    · exact sy_load h1 h5 hb (fun R' a' o' hR' gR' eR' ha' => absurd eR' (hn R' hR' gR')) (fun _ o' => ⟨rfl, sr_mk h1 h5 hP ha⟩)
theorem i_vc_steps {k : Nat} {u : SX} {v : SY} (I : i_Rel k u v) (hk : k + 3 ≤ 1536) (v1 : Int32) (v2 : Int32) : wpX_steps (fun r u' => wpY_steps (fun r' v' => r' = r ∧ i_Rel (k + 3) u' v') v v1 v2) u v1 v2 := by
  obtain ⟨n, P, d, a, o, m, f, h1, h5, hP, ha, rfl, rfl⟩ := I
  rcases sx_cls v1 128 (by decide) with hb | ⟨s, hs, rfl⟩
  · unfold wpX_steps
    dsimp only
    refine sx_isSet_b hb (br_t rfl ?_)
    exact sy_steps_b (Or.inl hb) ⟨rfl, sr_mk h1 h5 hP ha⟩
  · rcases sx_cls v2 128 (by decide) with hb | ⟨t, ht, rfl⟩
    · unfold wpX_steps
      dsimp only
      refine sx_isSet_t hs (br_f (by decide) ?_)
      refine sx_isSet_b hb (br_t rfl ?_)
      exact sy_steps_b (Or.inr ⟨⟨s, hs, rfl⟩, hb⟩) ⟨rfl, sr_mk h1 h5 hP ha⟩
    · refine sx_steps hs ht (fun j d' hj hd => ?_) (fun hn d' => ?_)
      · refine sy_steps hs ht (fun j' m' f' hj' hd' => ?_) (fun hn => absurd hd.1 (hn j))
        have e : j' = j := by
          rcases Nat.lt_trichotomy j' j with w | w | w
          · exact absurd hd'.1 (hd.2 j' w)
          · exact w
          · exact absurd hd.1 (hd'.2 j w)
        rw [e]
        exact ⟨rfl, sr_mk h1 h5 hP ha⟩
      · exact sy_steps hs ht (fun j' m' f' hj' hd' => absurd hd'.1 (hn j' hj')) (fun _ m' f' => ⟨rfl, sr_mk h1 h5 hP ha⟩)
