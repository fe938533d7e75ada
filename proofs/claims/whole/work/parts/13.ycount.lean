/-! the reference: counting and loading -/
theorem sy_sum_l {post : Int32 → Prop} {a o m f : Nat → Int32} {n R : Nat} (h5 : n ≤ 5) (ho : sy_A n R o) (h : post (nI (sw_S n R n))) : ∀ k i, i + k = n → wY_sum_4 post (nI n) a o m f (k + 1) (nI (sw_S n R i)) (nI i) := by
  intro k
  induction k with
  | zero =>
    intro i hi
    obtain rfl : i = n := by omega
    exact pk_le i i (fun _ => h) (fun z => absurd z (by omega))
  | succ k ih =>
    intro i hi
    refine pk_le n i (fun z => absurd z (by omega)) (fun _ => ?_)
    refine ⟨sy_in (by omega), nm_r (e' := nI (sw_S n R (i + 1))) ?_ (nm_r (nI_1 i) (ih (i + 1) (by omega)))⟩
    rw [sy_at ho h5 (by omega)]
    exact nI_add _ _
theorem sy_sum {post : Int32 → Prop} {a o m f : Nat → Int32} {n R : Nat} (h5 : n ≤ 5) (ho : sy_A n R o) (h : post (nI (sw_S n R n))) : wpY_sum post (nI n, a, o, m, f) := by
  unfold wpY_sum
  exact ⟨n + 1, sy_sum_l h5 ho h n 0 (by omega)⟩
theorem sy_bg_l {post : SY → Prop} {x : Int32} {a m f : Nat → Int32} (h : ∀ o', (∀ j, j < 5 → o' j = -1) → post (x, a, o', m, f)) : ∀ k i o', i + k = 5 → (∀ j, j < i → o' j = -1) → wY_begin_2 post x (k + 1) (nI i) a o' m f := by
  intro k
  induction k with
  | zero =>
    intro i o' hi hq
    obtain rfl : i = 5 := by omega
    exact pk_le 5 5 (fun _ => h o' hq) (fun z => absurd z (by omega))
  | succ k ih =>
    intro i o' hi hq
    refine pk_le 5 i (fun z => absurd z (by omega)) (fun _ => ?_)
    refine ⟨sy_in (by omega), nm_r (e' := upd o' i (-1)) (by rw [nI_clamp (by omega)]) (nm_r (nI_1 i) (ih (i + 1) _ (by omega) (fun j hj => ?_)))⟩
    by_cases e : j = i
    · rw [e, pk_us]
    · rw [pk_un e]
      exact hq j (by omega)
theorem sy_begin {post : SY → Prop} {x : Int32} {a o m f : Nat → Int32} (h : ∀ o', (∀ j, j < 5 → o' j = -1) → post (x, a, o', m, f)) : wpY_begin post (x, a, o, m, f) := by
  unfold wpY_begin
  exact ⟨6, sy_bg_l h 5 0 o rfl (fun j hj => absurd hj (by omega))⟩
theorem sw_C31 {n b x : Nat} (h5 : n ≤ 5) (hx : x ≤ 8 ^ n) : sw_C n b x < 2 ^ 31 := by
  have a := sw_C_le n b x
  have b := sw_8le h5
  omega
theorem sw_bn {n b : Nat} (h5 : n ≤ 5) (hb : b < 8) : b * n < 2 ^ 31 := Nat.lt_of_le_of_lt (Nat.mul_le_mul (show b ≤ 7 by omega) h5) (by decide)
theorem sw_S31 {n R : Nat} (h5 : n ≤ 5) : sw_S n R n < 2 ^ 31 := by
  have := sw_S_le n R n
  omega
theorem sw_next_C {n b R R' : Nat} (h : R < R') (hq : ∀ Q, R < Q → Q < R' → ¬ sw_J n Q) : sw_C n b R' = sw_C n b (R + 1) := sw_C_skip' (by omega) (fun Q q1 q2 => hq Q (by omega) q2)
theorem sy_c42 {post : Int32 → SY → Prop} {J22 : Int32 → Int32 → Int32 → (Nat → Int32) → (Nat → Int32) → (Nat → Int32) → (Nat → Int32) → Prop} {a o m f : Nat → Int32} {n b R c : Nat} (h1 : 1 ≤ n) (h5 : n ≤ 5) (hR : R < 8 ^ n) (hJ : sw_J n R) (ho : sy_A n R o) (hc : sw_C n b (R + 1) = c) (H1 : ∀ R' o', R < R' → R' < 8 ^ n → sw_J n R' → sy_A n R' o' → J22 (nI (sw_C n b R')) 1 (nI n) a o' m f) (H0 : ∀ o', J22 (nI (sw_C n b (8 ^ n))) 0 (nI n) a o' m f) : wY_count_42 post J22 (nI b) (nI c) (nI n) a o m f := by
  subst hc
  unfold wY_count_42
  refine sy_next h1 h5 hR hJ ho (fun R' o' r1 r2 r3 r4 r5 => ?_) (fun o' r => ?_)
  · have z := H1 R' o' r1 r2 r3 r5
    rw [sw_next_C r1 r4] at z
    exact z
  · have z := H0 o'
    rw [sw_next_C hR r] at z
    exact z
theorem sy_c22 {post : Int32 → SY → Prop} {a m f : Nat → Int32} {n b : Nat} (h1 : 1 ≤ n) (h5 : n ≤ 5) (hb : b < 8) (H : ∀ o', post (nI (sw_C n b (8 ^ n))) (nI n, a, o', m, f)) : ∀ fuel R o, R < 8 ^ n → sw_J n R → sy_A n R o → 8 ^ n - R < fuel → wY_count_22 post (nI b) fuel (nI (sw_C n b R)) 1 (nI n) a o m f := by
  intro fuel
  induction fuel with
  | zero =>
    intro R o _ _ _ h
    exact absurd h (by omega)
  | succ fuel ih =>
    intro R o hR hJ ho hm
    refine br_f (by decide) (sy_sum h5 ho ?_)
    have H1 : ∀ R' o', R < R' → R' < 8 ^ n → sw_J n R' → sy_A n R' o' → wY_count_22 post (nI b) fuel (nI (sw_C n b R')) 1 (nI n) a o' m f := fun R' o' r1 r2 r3 r5 => ih R' o' r2 r3 r5 (by omega)
    have H0 : ∀ o', wY_count_22 post (nI b) fuel (nI (sw_C n b (8 ^ n))) 0 (nI n) a o' m f := by
      intro o'
      obtain ⟨g, rfl⟩ : ∃ g, fuel = g + 1 := ⟨fuel - 1, by omega⟩
      exact br_t rfl (H o')
    refine pk_eq (sw_S n R n) (b * n) (fun e => ?_) (fun e => ?_) rfl (pk_mul b n) (sw_S31 h5) (sw_bn h5 hb)
    · exact nm_r (nI_1 _) (sy_c42 (J22 := wY_count_22 post (nI b) fuel) h1 h5 hR hJ ho (sw_C_t ⟨e, hJ⟩) H1 H0)
    · exact sy_c42 (J22 := wY_count_22 post (nI b) fuel) h1 h5 hR hJ ho (sw_C_f (fun w => e w.1)) H1 H0
theorem sy_count {post : Int32 → SY → Prop} {a o m f : Nat → Int32} {n b : Nat} (h1 : 1 ≤ n) (h5 : n ≤ 5) (hb : b < 8) (H : ∀ o', post (nI (sw_C n b (8 ^ n))) (nI n, a, o', m, f)) : wpY_count post (nI n, a, o, m, f) (nI b) := by
  unfold wpY_count
  dsimp only
  refine sy_noBalls_t hb (br_t rfl ?_)
  refine sy_begin (fun o1 ho1 => ?_)
  refine sy_first h1 h5 ho1 (fun R o' r1 r2 r3 r4 => ?_) (fun o' r => ?_)
  · have z := sy_c22 (post := post) (a := a) (m := m) (f := f) h1 h5 hb H (8 ^ n - R + 1) R o' r1 r2 r4 (by omega)
    rw [sw_C_skip' (x := 0) (by omega) (fun Q _ q => r3 Q q)] at z
    exact ⟨_, z⟩
  · have z := H o'
    rw [sw_C_skip' (x := 0) (Nat.zero_le _) (fun Q _ q => r Q q)] at z
    exact ⟨1, br_t rfl z⟩
/-! rank -/
theorem sy_own_l {post : Int32 → Prop} {a o m f : Nat → Int32} {n P R : Nat} (h5 : n ≤ 5) (hP : P < 8 ^ n) (hR : R < 8 ^ n) (ha : sy_A n P a) (ho : sy_A n R o) (ht : R = P → post 1) (hf : ¬ R = P → post 0) : ∀ k i, i + k = n → (∀ j, j < i → sw_d n R j = sw_d n P j) → wY_isOwn_2 post (nI n) a o m f (k + 1) (nI i) := by
  intro k
  induction k with
  | zero =>
    intro i hi hq
    obtain rfl : i = n := by omega
    exact pk_le i i (fun _ => ht (sw_ext i R P hR hP hq)) (fun z => absurd z (by omega))
  | succ k ih =>
    intro i hi hq
    have hd1 := sw_d_lt n R i
    have hd2 := sw_d_lt n P i
    refine pk_le n i (fun z => absurd z (by omega)) (fun _ => ⟨sy_in (by omega), sy_in (by omega), ?_⟩)
    refine pk_eq (sw_d n R i) (sw_d n P i) (fun e => ?_) (fun e => hf (fun z => e (by rw [z]))) (sy_at ho h5 (by omega)) (sy_at ha h5 (by omega))
    refine nm_r (nI_1 i) (ih (i + 1) (by omega) (fun j hj => ?_))
    by_cases ej : j = i
    · rw [ej]
      exact e
    · exact hq j (by omega)
theorem sy_isOwn {post : Int32 → Prop} {a o m f : Nat → Int32} {n P R : Nat} (h5 : n ≤ 5) (hP : P < 8 ^ n) (hR : R < 8 ^ n) (ha : sy_A n P a) (ho : sy_A n R o) (ht : R = P → post 1) (hf : ¬ R = P → post 0) : wpY_isOwn post (nI n, a, o, m, f) := by
  unfold wpY_isOwn
  exact ⟨n + 1, sy_own_l h5 hP hR ha ho ht hf n 0 (by omega) (fun j hj => absurd hj (by omega))⟩
theorem sy_r54 {post : Int32 → SY → Prop} {J27 : Int32 → Int32 → Int32 → (Nat → Int32) → (Nat → Int32) → (Nat → Int32) → (Nat → Int32) → Prop} {a o m f : Nat → Int32} {n b R P c : Nat} (h1 : 1 ≤ n) (h5 : n ≤ 5) (hR : R < 8 ^ n) (hJ : sw_J n R) (ho : sy_A n R o) (hP : P < 8 ^ n) (hJP : sw_J n P) (hRP : R < P) (hc : sw_C n b (R + 1) = c) (H1 : ∀ R' o', R < R' → R' ≤ P → sw_J n R' → sy_A n R' o' → J27 (nI (sw_C n b R')) 1 (nI n) a o' m f) : wY_rank_54 post J27 (nI b) (nI c) (nI n) a o m f := by
  subst hc
  unfold wY_rank_54
  refine sy_next h1 h5 hR hJ ho (fun R' o' r1 r2 r3 r4 r5 => ?_) (fun o' r => absurd hJP (r P hRP hP))
  have hle : R' ≤ P := by
    rcases Nat.lt_or_ge P R' with w | w
    · exact absurd hJP (r4 P hRP w)
    · exact w
  have z := H1 R' o' r1 hle r3 r5
  rw [sw_next_C r1 r4] at z
  exact z
theorem sy_r27 {post : Int32 → SY → Prop} {a m f : Nat → Int32} {n b P : Nat} (h1 : 1 ≤ n) (h5 : n ≤ 5) (hb : b < 8) (hP : P < 8 ^ n) (hJP : sw_J n P) (ha : sy_A n P a) (H : ∀ o', post (nI (sw_C n b P)) (nI n, a, o', m, f)) : ∀ fuel R o, R ≤ P → sw_J n R → sy_A n R o → P - R < fuel → wY_rank_27 post (nI b) fuel (nI (sw_C n b R)) 1 (nI n) a o m f := by
  intro fuel
  induction fuel with
  | zero =>
    intro R o _ _ _ h
    exact absurd h (by omega)
  | succ fuel ih =>
    intro R o hR hJ ho hm
    refine br_f (by decide) (sy_isOwn h5 hP (by omega) ha ho (fun e => br_f (by decide) ?_) (fun e => br_t rfl ?_))
    · rw [e]
      exact H o
    refine sy_sum h5 ho ?_
    have H1 : ∀ R' o', R < R' → R' ≤ P → sw_J n R' → sy_A n R' o' → wY_rank_27 post (nI b) fuel (nI (sw_C n b R')) 1 (nI n) a o' m f := fun R' o' r1 r2 r3 r5 => ih R' o' r2 r3 r5 (by omega)
    refine pk_eq (sw_S n R n) (b * n) (fun e => ?_) (fun e => ?_) rfl (pk_mul b n) (sw_S31 h5) (sw_bn h5 hb)
    · exact nm_r (nI_1 _) (sy_r54 (J27 := wY_rank_27 post (nI b) fuel) h1 h5 (by omega) hJ ho hP hJP (by omega) (sw_C_t ⟨e, hJ⟩) H1)
    · exact sy_r54 (J27 := wY_rank_27 post (nI b) fuel) h1 h5 (by omega) hJ ho hP hJP (by omega) (sw_C_f (fun w => e w.1)) H1
theorem sy_rank {post : Int32 → SY → Prop} {a o m f : Nat → Int32} {n P : Nat} (h1 : 1 ≤ n) (h5 : n ≤ 5) (hP : P < 8 ^ n) (ha : sy_A n P a) (hJP : sw_J n P) (H : ∀ o', post (nI (sw_C n (sw_mb (sw_st n P 0 7) 7) P)) (nI n, a, o', m, f)) : wpY_rank post (nI n, a, o, m, f) := by
  have hb : sw_mb (sw_st n P 0 7) 7 < 8 := by
    have := sw_mb_le (sw_st n P 0 7) 7
    omega
  unfold wpY_rank
  dsimp only
  refine sy_isJugglable h1 h5 ha (fun _ => br_f (by decide) ?_) (fun z => absurd hJP z)
  refine sy_balls h1 h5 ha (fun _ => ?_) (fun z => absurd hJP z)
  refine sy_begin (fun o1 ho1 => ?_)
  refine sy_first h1 h5 ho1 (fun R o' r1 r2 r3 r4 => ?_) (fun o' r => absurd hJP (r P hP))
  have hle : R ≤ P := by
    rcases Nat.lt_or_ge P R with w | w
    · exact absurd hJP (r3 P w)
    · exact w
  have z := sy_r27 (post := post) (a := a) (m := m) (f := f) h1 h5 hb hP hJP ha H (P - R + 1) R o' hle r2 r4 (by omega)
  rw [sw_C_skip' (x := 0) (by omega) (fun Q _ q => r3 Q q)] at z
  exact ⟨_, z⟩
/-! load -/
theorem sy_l49 {post : Int32 → SY → Prop} {o m f : Nat → Int32} {n : Nat} (h5 : n ≤ 5) (h : ∀ a', (∀ j, j < n → a' j = o j) → post 0 (nI n, a', o, m, f)) : ∀ k i a', i + k = n → (∀ j, j < i → a' j = o j) → wY_load_49 post (nI n) (k + 1) (nI i) a' o m f := by
  intro k
  induction k with
  | zero =>
    intro i a' hi hq
    obtain rfl : i = n := by omega
    exact pk_le i i (fun _ => h a' hq) (fun z => absurd z (by omega))
  | succ k ih =>
    intro i a' hi hq
    refine pk_le n i (fun z => absurd z (by omega)) (fun _ => ?_)
    refine ⟨sy_in (by omega), sy_in (by omega), nm_r (e' := upd a' i (o i)) (by rw [nI_clamp (by omega)]) (nm_r (nI_1 i) (ih (i + 1) _ (by omega) (fun j hj => ?_)))⟩
    by_cases e : j = i
    · rw [e, pk_us]
    · rw [pk_un e]
      exact hq j (by omega)
theorem sy_l83 {post : Int32 → SY → Prop} {J23 : Int32 → Int32 → Int32 → (Nat → Int32) → (Nat → Int32) → (Nat → Int32) → (Nat → Int32) → Prop} {kk : Int32} {a o m f : Nat → Int32} {n b R c : Nat} (h1 : 1 ≤ n) (h5 : n ≤ 5) (hR : R < 8 ^ n) (hJ : sw_J n R) (ho : sy_A n R o) (hc : sw_C n b (R + 1) = c) (H1 : ∀ R' o', R < R' → R' < 8 ^ n → sw_J n R' → (∀ Q, R < Q → Q < R' → ¬ sw_J n Q) → sy_A n R' o' → J23 (nI (sw_C n b R')) 1 (nI n) a o' m f) (H0 : ∀ o' c', (∀ Q, R < Q → Q < 8 ^ n → ¬ sw_J n Q) → J23 c' 0 (nI n) a o' m f) : wY_load_83 post J23 (nI b) kk (nI c) (nI n) a o m f := by
  subst hc
  unfold wY_load_83
  refine sy_next h1 h5 hR hJ ho (fun R' o' r1 r2 r3 r4 r5 => ?_) (fun o' r => H0 o' _ r)
  have z := H1 R' o' r1 r2 r3 r4 r5
  rw [sw_next_C r1 r4] at z
  exact z
theorem sy_l23 {post : Int32 → SY → Prop} {kk : Int32} {a m f : Nat → Int32} {n b : Nat} (h1 : 1 ≤ n) (h5 : n ≤ 5) (hb : b < 8) (hF : ∀ R a' o', R < 8 ^ n → sw_S n R n = b * n ∧ sw_J n R → nI (sw_C n b R) = kk → sy_A n R a' → post 0 (nI n, a', o', m, f)) (hN : (∀ R, R < 8 ^ n → sw_S n R n = b * n ∧ sw_J n R → ¬ nI (sw_C n b R) = kk) → ∀ o', post (-4) (nI n, a, o', m, f)) : ∀ fuel R o, R < 8 ^ n → sw_J n R → sy_A n R o → (∀ Q, Q < R → sw_S n Q n = b * n ∧ sw_J n Q → ¬ nI (sw_C n b Q) = kk) → 8 ^ n - R < fuel → wY_load_23 post (nI b) kk fuel (nI (sw_C n b R)) 1 (nI n) a o m f := by
  intro fuel
  induction fuel with
  | zero =>
    intro R o _ _ _ _ h
    exact absurd h (by omega)
  | succ fuel ih =>
    intro R o hR hJ ho hq hm
    refine br_f (by decide) (sy_sum h5 ho ?_)
    have H1 : (sw_S n R n = b * n ∧ sw_J n R → ¬ nI (sw_C n b R) = kk) → ∀ R' o', R < R' → R' < 8 ^ n → sw_J n R' → (∀ Q, R < Q → Q < R' → ¬ sw_J n Q) → sy_A n R' o' → wY_load_23 post (nI b) kk fuel (nI (sw_C n b R')) 1 (nI n) a o' m f := by
      intro hR' R' o' r1 r2 r3 r4 r5
      refine ih R' o' r2 r3 r5 (fun Q q1 q2 => ?_) (by omega)
      rcases Nat.lt_trichotomy Q R with w | w | w
      · exact hq Q w q2
      · rw [w] at q2 ⊢
        exact hR' q2
      · exact absurd q2.2 (r4 Q w q1)
    have H0 : (sw_S n R n = b * n ∧ sw_J n R → ¬ nI (sw_C n b R) = kk) → ∀ o' c', (∀ Q, R < Q → Q < 8 ^ n → ¬ sw_J n Q) → wY_load_23 post (nI b) kk fuel c' 0 (nI n) a o' m f := by
      intro hR' o' c' r
      obtain ⟨g, rfl⟩ : ∃ g, fuel = g + 1 := ⟨fuel - 1, by omega⟩
      refine br_t rfl (hN (fun Q q1 q2 => ?_) o')
      rcases Nat.lt_trichotomy Q R with w | w | w
      · exact hq Q w q2
      · rw [w] at q2 ⊢
        exact hR' q2
      · exact absurd q2.2 (r Q w q1)
    refine pk_eq (sw_S n R n) (b * n) (fun e => ?_) (fun e => ?_) rfl (pk_mul b n) (sw_S31 h5) (sw_bn h5 hb)
    · refine br_c (fun ek => ⟨n + 1, ?_⟩) (fun ek => ?_)
      · exact sy_l49 h5 (fun a' ha' => hF R a' o hR ⟨e, hJ⟩ ek (fun j hj => by rw [ha' j hj]; exact ho j hj)) n 0 a (by omega) (fun j hj => absurd hj (by omega))
      · exact nm_r (nI_1 _) (sy_l83 (J23 := wY_load_23 post (nI b) kk fuel) h1 h5 hR hJ ho (sw_C_t ⟨e, hJ⟩) (H1 (fun _ => ek)) (H0 (fun _ => ek)))
    · exact sy_l83 (J23 := wY_load_23 post (nI b) kk fuel) h1 h5 hR hJ ho (sw_C_f (fun w => e w.1)) (H1 (fun w => absurd w.1 e)) (H0 (fun w => absurd w.1 e))
theorem sy_load {post : Int32 → SY → Prop} {kk : Int32} {a o m f : Nat → Int32} {n b : Nat} (h1 : 1 ≤ n) (h5 : n ≤ 5) (hb : b < 8) (hF : ∀ R a' o', R < 8 ^ n → sw_S n R n = b * n ∧ sw_J n R → nI (sw_C n b R) = kk → sy_A n R a' → post 0 (nI n, a', o', m, f)) (hN : (∀ R, R < 8 ^ n → sw_S n R n = b * n ∧ sw_J n R → ¬ nI (sw_C n b R) = kk) → ∀ o', post (-4) (nI n, a, o', m, f)) : wpY_load post (nI n, a, o, m, f) (nI b) kk := by
  unfold wpY_load
  dsimp only
  refine sy_noBalls_t hb (br_t rfl ?_)
  refine sy_begin (fun o1 ho1 => ?_)
  refine sy_first h1 h5 ho1 (fun R o' r1 r2 r3 r4 => ?_) (fun o' r => ?_)
  · have z := sy_l23 (post := post) (a := a) (m := m) (f := f) (kk := kk) h1 h5 hb hF hN (8 ^ n - R + 1) R o' r1 r2 r4 (fun Q q1 q2 => absurd q2.2 (r3 Q q1)) (by omega)
    rw [sw_C_skip' (x := 0) (by omega) (fun Q _ q => r3 Q q)] at z
    exact ⟨_, z⟩
  · exact ⟨1, br_t rfl (hN (fun R q1 q2 => absurd q2.2 (r R q1)) o')⟩
