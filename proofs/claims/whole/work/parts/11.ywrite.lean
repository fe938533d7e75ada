/-! the reference: what writes the row -/
theorem sy_put {post : Int32 → SY → Prop} {a o m f : Nat → Int32} {n P j : Nat} (h1 : 1 ≤ n) (h5 : n ≤ 5) (ha : sy_A n P a) (hj : j < 8) (h4 : n < 5 → ∀ a', sy_A (n + 1) (P * 8 + j) a' → post (nI (n + 1)) (nI (n + 1), a', o, m, f)) (hf : n = 5 → post (-2) (nI n, a, o, m, f)) : wpY_put post (nI n, a, o, m, f) (nI j) := by
  unfold wpY_put
  dsimp only
  refine sy_noHeight_t hj (br_t rfl ?_)
  refine pk_eq n 5 (fun z => hf z) (fun z => ⟨sy_in (by omega), ?_⟩)
  refine nm_r (e' := upd a n (nI j)) (by rw [nI_clamp (by omega)]) (nm_r (nI_1 n) (h4 (by omega) _ (fun i hi => ?_)))
  by_cases e : i = n
  · rw [e, pk_us, sw_d_last hj]
  · rw [pk_un e, sw_d_pre hj (by omega)]
    exact ha i (by omega)
theorem sy_drop {post : Int32 → SY → Prop} {a o m f : Nat → Int32} {n P : Nat} (h1 : 1 ≤ n) (h5 : n ≤ 5) (ha : sy_A n P a) (h2 : 1 < n → post (nI (P % 8)) (nI (n - 1), a, o, m, f)) (hf : n = 1 → post (-4) (nI n, a, o, m, f)) : wpY_drop post (nI n, a, o, m, f) := by
  unfold wpY_drop
  refine pk_eq n 1 (fun z => hf z) (fun z => ?_)
  refine nm_r (e' := nI (n - 1)) (pk_sub (a := n) (b := 1) h1) ⟨sy_in (by omega), ?_⟩
  refine ek_v (P := fun r => post r _) ?_ (h2 (by omega))
  rw [sy_at ha h5 (show n - 1 < n by omega)]
  unfold sw_d
  rw [show n - 1 - (n - 1) = 0 by omega, Nat.pow_zero, Nat.div_one]
theorem sy_drop_A {a : Nat → Int32} {n P : Nat} (h2 : 1 < n) (ha : sy_A n P a) : sy_A (n - 1) (P / 8) a := by
  obtain ⟨m, rfl⟩ : ∃ m, n = m + 1 := ⟨n - 1, by omega⟩
  intro i hi
  have z := ha i (by omega)
  rw [@sw_split P, sw_d_pre (by omega) (show i < m by omega)] at z
  exact z
theorem sy_set {post : Int32 → SY → Prop} {a o m f : Nat → Int32} {n P i j : Nat} (h5 : n ≤ 5) (ha : sy_A n P a) (hi : i < n) (hj : j < 8) (h : ∀ a', sy_A n (sw_w n P i j) a' → post (nI (sw_d n P i)) (nI n, a', o, m, f)) : wpY_set post (nI n, a, o, m, f) (nI i) (nI j) := by
  unfold wpY_set
  dsimp only
  refine sy_noThrow_t h5 hi (br_t rfl ?_)
  refine sy_noHeight_t hj (br_t rfl ⟨sy_in (by omega), nm_r (sy_at ha h5 hi) ⟨sy_in (by omega), ?_⟩⟩)
  refine nm_r (e' := upd a i (nI j)) (by rw [nI_clamp (by omega)]) (h _ (fun x hx => ?_))
  by_cases e : x = i
  · rw [e, pk_us, sw_w_d h5 hi hj]
  · rw [pk_un e, sw_w_n h5 hi hx hj e]
    exact ha x hx
theorem sy_swapA {post : Int32 → SY → Prop} {a o m f : Nat → Int32} {n P j : Nat} (h1 : 1 ≤ n) (h5 : n ≤ 5) (ha : sy_A n P a) (hj : j < n) (hA : n = 1 ∨ sw_d n P ((j + 1) % n) = 7 ∨ sw_d n P j = 0) (h : post (-4) (nI n, a, o, m, f)) : wpY_swap post (nI n, a, o, m, f) (nI j) := by
  have hd := sw_d_lt n P ((j + 1) % n)
  have hd2 := sw_d_lt n P j
  have hq : (j + 1) % n < n := Nat.mod_lt _ h1
  unfold wpY_swap
  dsimp only
  refine sy_noThrow_t h5 hj (br_t rfl ⟨sy_n0 h1 h5, ?_⟩)
  refine nm_r (e' := nI ((j + 1) % n)) (by rw [nI_1, pk_rem (by omega) (by omega) (by omega)]) ⟨sy_in (by omega), ?_⟩
  refine nm_r (e' := nI (sw_d n P ((j + 1) % n) + 1)) (by rw [sy_at ha h5 hq, nI_1]) ⟨sy_in (by omega), ?_⟩
  refine nm_r (e' := nI (sw_d n P j) - 1) (by rw [sy_at ha h5 hj]) ?_
  refine pk_eq n 1 (fun _ => h) (fun z => ?_)
  refine pk_lt 7 (sw_d n P ((j + 1) % n) + 1) (fun _ => h) (fun z2 => ?_)
  have c2 : sw_d n P j = 0 := by omega
  rw [c2]
  exact br_f (by decide) h
theorem sy_swapC {post : Int32 → SY → Prop} {a o m f : Nat → Int32} {n P j W : Nat} (h1 : 1 < n) (h5 : n ≤ 5) (ha : sy_A n P a) (hj : j < n) (c1 : sw_d n P ((j + 1) % n) < 7) (c2 : 0 < sw_d n P j) (hW : sw_sd n P j ((j + 1) % n) W) (h : ∀ a', sy_A n W a' → post (sw_jb n W) (nI n, a', o, m, f)) : wpY_swap post (nI n, a, o, m, f) (nI j) := by
  have hd := sw_d_lt n P ((j + 1) % n)
  have hd2 := sw_d_lt n P j
  have hq : (j + 1) % n < n := Nat.mod_lt _ (by omega)
  have hA : sy_A n W (upd (upd a j (nI (sw_d n P ((j + 1) % n) + 1))) ((j + 1) % n) (nI (sw_d n P j - 1))) := by
    intro i hi
    rw [hW.2 i hi]
    by_cases z : i = (j + 1) % n
    · rw [if_pos z, z, pk_us]
    · rw [if_neg z, pk_un z]
      by_cases z2 : i = j
      · rw [if_pos z2, z2, pk_us]
      · rw [if_neg z2, pk_un z2]
        exact ha i hi
  unfold wpY_swap
  dsimp only
  refine sy_noThrow_t h5 hj (br_t rfl ⟨sy_n0 (by omega) h5, ?_⟩)
  refine nm_r (e' := nI ((j + 1) % n)) (by rw [nI_1, pk_rem (by omega) (by omega) (by omega)]) ⟨sy_in (by omega), ?_⟩
  refine nm_r (e' := nI (sw_d n P ((j + 1) % n) + 1)) (by rw [sy_at ha h5 hq, nI_1]) ⟨sy_in (by omega), ?_⟩
  refine nm_r (e' := nI (sw_d n P j - 1)) (by rw [sy_at ha h5 hj]; exact pk_sub (a := sw_d n P j) (b := 1) c2) ?_
  refine pk_eq n 1 (fun z => absurd z (by omega)) (fun z => ?_)
  refine pk_lt 7 (sw_d n P ((j + 1) % n) + 1) (fun z => absurd z (by omega)) (fun z2 => ?_)
  refine br_t (nI_pos' (by omega)) ⟨sy_in (by omega), ?_⟩
  refine nm_r (e' := upd a j (nI (sw_d n P ((j + 1) % n) + 1))) (by rw [nI_clamp (by omega)]) ⟨sy_in (by omega), ?_⟩
  refine nm_r (e' := upd (upd a j (nI (sw_d n P ((j + 1) % n) + 1))) ((j + 1) % n) (nI (sw_d n P j - 1))) (by rw [nI_clamp (show (j + 1) % n < 2 ^ 31 by omega)]) ?_
  exact sy_jugglable (by omega) h5 hA (h _ hA)
theorem sy_turn_l {post : Int32 → SY → Prop} {o m f : Nat → Int32} {n P : Nat} (h1 : 1 ≤ n) (h5 : n ≤ 5) (h : ∀ a', (∀ j, j < n - 1 → a' j = nI (sw_d n P (j + 1))) → a' (n - 1) = nI (sw_d n P 0) → post (nI (sw_d n P 0)) (nI n, a', o, m, f)) : ∀ k i a', i + k = n - 1 → (∀ j, j < i → a' j = nI (sw_d n P (j + 1))) → (∀ j, i ≤ j → j < n → a' j = nI (sw_d n P j)) → wY_turn_9 post (nI (sw_d n P 0)) (nI n) (k + 1) (nI i) a' o m f := by
  have en : nI n - 1 = nI (n - 1) := pk_sub (a := n) (b := 1) h1
  intro k
  induction k with
  | zero =>
    intro i a' hi hq hr
    refine pk_le (n - 1) i (fun _ => ?_) (fun z => absurd z (by omega)) en rfl
    refine ⟨by rw [en]; exact sy_in (by omega), nm_r (e' := upd a' (n - 1) (nI (sw_d n P 0))) (by rw [en, nI_clamp (by omega)]) (h _ (fun j hj => ?_) pk_us)⟩
    rw [pk_un (by omega)]
    exact hq j (by omega)
  | succ k ih =>
    intro i a' hi hq hr
    refine pk_le (n - 1) i (fun z => absurd z (by omega)) (fun _ => ?_) en rfl
    refine ⟨by rw [nI_1]; exact sy_in (by omega), sy_in (by omega), nm_r (e' := upd a' i (nI (sw_d n P (i + 1)))) ?_ (nm_r (nI_1 i) (ih (i + 1) _ (by omega) (fun j hj => ?_) (fun j hj hn => ?_)))⟩
    · rw [nI_1, nI_clamp (by omega), nI_clamp (by omega), hr (i + 1) (by omega) (by omega)]
    · by_cases e : j = i
      · rw [e, pk_us]
      · rw [pk_un e]
        exact hq j (by omega)
    · rw [pk_un (by omega)]
      exact hr j (by omega) hn
theorem sy_turn {post : Int32 → SY → Prop} {a o m f : Nat → Int32} {n P : Nat} (h1 : 1 ≤ n) (h5 : n ≤ 5) (ha : sy_A n P a) (h : ∀ a', sy_A n (sw_w n P 0 0 * 8 + sw_d n P 0) a' → post (nI (sw_d n P 0)) (nI n, a', o, m, f)) : wpY_turn post (nI n, a, o, m, f) := by
  unfold wpY_turn
  refine nm_r (ha 0 h1) ⟨n - 1 + 1, sy_turn_l (P := P) h1 h5 (fun a' hq hl => h a' (fun i hi => ?_)) (n - 1) 0 a (by omega) (fun j hj => absurd hj (by omega)) (fun j _ hj => ha j hj)⟩
  by_cases e : i = n - 1
  · rw [e, hl, sw_t_l h1 (sw_d_lt n P 0)]
  · rw [sw_t_d h5 (sw_d_lt n P 0) (by omega)]
    exact hq i (by omega)
theorem sy_m64 {post : Int32 → SY → Prop} {o m f : Nat → Int32} {n : Nat} (h5 : n ≤ 5) (h : ∀ a', (∀ j, j < n → a' j = o j) → post 0 (nI n, a', o, m, f)) : ∀ k i a', i + k = n → (∀ j, j < i → a' j = o j) → wY_mirror_64 post (nI n) (k + 1) (nI i) a' o m f := by
  intro k
  induction k with
  | zero =>
    intro i a' hi hq
    obtain rfl : i = n := by omega
    exact pk_le i i (fun _ => h a' hq) (fun z => absurd z (by omega))
  | succ k ih =>
    intro i a' hi hq
    refine pk_le n i (fun z => absurd z (by omega)) (fun _ => ?_)
    refine ⟨sy_in (by omega), sy_in (by omega), nm_r (e' := upd a' i (o i)) (by rw [nI_clamp (by omega)]) (nm_r (nI_1 i) (ih (i + 1) _ (by omega) (fun j hj => ?_)))⟩
    by_cases e : j = i
    · rw [e, pk_us]
    · rw [pk_un e]
      exact hq j (by omega)
theorem sy_m12 {post : Int32 → SY → Prop} {a m f : Nat → Int32} {n P : Nat} (h1 : 1 ≤ n) (h5 : n ≤ 5) (hJ : sw_J n P) (ha : sy_A n P a) (h : ∀ a' o', (∀ j, j < n → a' (sw_g n P j) = nI (sw_d n P j)) → post 0 (nI n, a', o', m, f)) : ∀ k i o', i + k = n → (∀ j, j < i → o' (sw_g n P j) = nI (sw_d n P j)) → wY_mirror_12 post (nI n) (k + 1) (nI i) a o' m f := by
  intro k
  induction k with
  | zero =>
    intro i o' hi hq
    obtain rfl : i = n := by omega
    refine pk_le i i (fun _ => ?_) (fun z => absurd z (by omega))
    refine ⟨i + 1, sy_m64 h5 (fun a' hc => h a' o' (fun j hj => ?_)) i 0 a (by omega) (fun j hj => absurd hj (by omega))⟩
    rw [hc _ (sw_g_lt h1)]
    exact hq j hj
  | succ k ih =>
    intro i o' hi hq
    have hl := sw_l_lt P i h1
    have hg := sw_g_lt (P := P) (j := i) h1
    have eg : nI n - nI (sw_l n P i) - (nI n - nI (sw_l n P i)) / nI n * nI n = nI (sw_g n P i) := by
      rw [pk_sub (by omega), pk_rem (by omega) (by omega) (by omega)]
      rfl
    refine pk_le n i (fun z => absurd z (by omega)) (fun _ => ?_)
    refine ⟨sy_in (by omega), sy_n0 h1 h5, nm_r (sy_rm ha h5 (by omega)) ⟨sy_n0 h1 h5, sy_in (by omega), by rw [eg]; exact sy_in (by omega), ?_⟩⟩
    refine nm_r (e' := upd o' (sw_g n P i) (nI (sw_d n P i))) (by rw [eg, nI_clamp (by omega), sy_at ha h5 (by omega)]) (nm_r (nI_1 i) (ih (i + 1) _ (by omega) (fun j hj => ?_)))
    by_cases e : j = i
    · rw [e, pk_us]
    · rw [pk_un (fun z => e (sw_g_inj h1 h5 hJ (by omega) (by omega) z))]
      exact hq j (by omega)
theorem sy_mirror {post : Int32 → SY → Prop} {a o m f : Nat → Int32} {n P : Nat} (h1 : 1 ≤ n) (h5 : n ≤ 5) (hJ : sw_J n P) (ha : sy_A n P a) (h : ∀ a' o', (∀ j, j < n → a' (sw_g n P j) = nI (sw_d n P j)) → post 0 (nI n, a', o', m, f)) : wpY_mirror post (nI n, a, o, m, f) := by
  unfold wpY_mirror
  dsimp only
  refine sy_isJugglable h1 h5 ha (fun _ => br_f (by decide) ?_) (fun z => absurd hJ z)
  exact ⟨n + 1, sy_m12 h1 h5 hJ ha h n 0 o (by omega) (fun j hj => absurd hj (by omega))⟩
