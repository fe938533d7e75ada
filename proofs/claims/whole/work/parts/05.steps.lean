/-! steps between sets of numbers 0 to 6, as sums of powers -/
def sw_E (s t : Nat) : Prop := (s % 2 = 0 ∧ t = s / 2) ∨ (s % 2 = 1 ∧ ∃ h, 1 ≤ h ∧ h ≤ 7 ∧ s / 2 ^ h % 2 = 0 ∧ t = (s ||| 2 ^ h) / 2)
def sw_R (a : Nat) : Nat → Nat → Prop
  | 0, t => t = a
  | k + 1, t => ∃ s, sw_R a k s ∧ sw_E s t
theorem sw_E_lt {s t : Nat} (hs : s < 128) (h : sw_E s t) : t < 128 := by
  rcases h with ⟨_, rfl⟩ | ⟨_, h, h1, h7, _, rfl⟩
  · omega
  · have : s ||| 2 ^ h < 2 ^ 8 := sw_or_lt (by omega) (by omega)
    omega
theorem sw_R_lt {a : Nat} (ha : a < 128) : ∀ (k t : Nat), sw_R a k t → t < 128
  | 0, t, h => by
    have h' : t = a := h
    omega
  | k + 1, t, h => by
    obtain ⟨s, hs, e⟩ := h
    exact sw_E_lt (sw_R_lt ha k s hs) e
def sw_dist (a t j : Nat) : Prop := sw_R a j t ∧ ∀ i, i < j → ¬ sw_R a i t
theorem sw_nx : ∀ s, s < 128 → ∀ h, h < 7 → (s ||| 2 ^ (h + 1)) / 2 = s / 2 ||| 2 ^ h := by decide +kernel
/-- X's array after the rounds below k -/
def sw_LV (a k : Nat) (d : Nat → Int32) : Prop := ∀ t, t < 128 → (∀ j, j ≤ k → sw_dist a t j → d t = nI j) ∧ ((∀ j, j ≤ k → ¬ sw_R a j t) → d t = -1)
theorem sw_least {a t k : Nat} (h : sw_R a k t) : ∃ j, j ≤ k ∧ sw_dist a t j := by
  obtain ⟨j, hj, hl⟩ := pk_least (fun j => sw_R a j t) ⟨k, h⟩
  refine ⟨j, ?_, hj, hl⟩
  rcases Nat.lt_or_ge k j with z | z
  · exact absurd h (hl k z)
  · exact z
theorem sw_m1 {j : Nat} (h : j < 2 ^ 31) : ¬ nI j = -1 := by
  intro e
  have z := nI_pos h
  rw [e] at z
  exact z (by decide)
theorem sw_LV0 {a : Nat} {d : Nat → Int32} (h : ∀ t, t < 128 → d t = if t = a then 0 else -1) : sw_LV a 0 d := by
  intro t ht
  constructor
  · intro j hj hd
    obtain rfl : j = 0 := by omega
    have e : t = a := hd.1
    rw [h t ht, if_pos e, nI_0]
  · intro hn
    have e : ¬ t = a := hn 0 (Nat.le_refl _)
    rw [h t ht, if_neg e]
/-- one round: all that stands at k reaches its neighbours -/
def sw_Rd (k s : Nat) (d0 d : Nat → Int32) : Prop := ∀ t, t < 128 → ((d0 t = -1 ∧ ∃ r, r < s ∧ d0 r = nI k ∧ sw_E r t) → d t = nI (k + 1)) ∧ (¬ (d0 t = -1 ∧ ∃ r, r < s ∧ d0 r = nI k ∧ sw_E r t) → d t = d0 t)
theorem sw_LVs {a k : Nat} {d0 d : Nat → Int32} (ha : a < 128) (hk : k < 1000) (h : sw_LV a k d0) (hr : sw_Rd k 128 d0 d) : sw_LV a (k + 1) d := by
  intro t ht
  have at_k : ∀ s, s < 128 → d0 s = nI k → sw_R a k s := by
    intro s hs e
    by_cases z : ∀ j, j ≤ k → ¬ sw_R a j s
    · rw [(h s hs).2 z] at e
      exact absurd e.symm (sw_m1 (by omega))
    · have : ∃ j, j ≤ k ∧ sw_R a j s := by
        apply Classical.byContradiction
        intro w
        exact z (fun j hj hR => w ⟨j, hj, hR⟩)
      obtain ⟨j, hj, hR⟩ := this
      obtain ⟨i, hi, hd⟩ := sw_least hR
      rw [(h s hs).1 i (by omega) hd] at e
      have e' := (nI_eq (by omega) (by omega)).mp e
      rw [← e']
      exact hd.1
  constructor
  · intro j hj hd
    by_cases e : j = k + 1
    · subst e
      obtain ⟨s, hs, hE⟩ := hd.1
      have hs8 := sw_R_lt ha k s hs
      refine (hr t ht).1 ⟨(h t ht).2 (fun i hi => hd.2 i (by omega)), s, hs8, ?_, hE⟩
      refine (h s hs8).1 k (Nat.le_refl _) ⟨hs, fun i hi hR => ?_⟩
      exact hd.2 (i + 1) (by omega) ⟨s, hR, hE⟩
    · have z := (h t ht).1 j (by omega) hd
      rw [(hr t ht).2 ?_]
      · exact z
      · intro w
        rw [z] at w
        exact sw_m1 (by omega) w.1
  · intro hn
    have z := (h t ht).2 (fun j hj => hn j (by omega))
    rw [(hr t ht).2 ?_]
    · exact z
    · intro ⟨_, r, hr8, er, hE⟩
      exact hn (k + 1) (Nat.le_refl _) ⟨r, at_k r hr8 er, hE⟩
/-! cells that are set, counted -/
def sw_cn (f : Nat → Int32) : Nat → Nat
  | 0 => 0
  | k + 1 => sw_cn f k + (if f k = -1 then 0 else 1)
theorem sw_cn_le (f : Nat → Int32) : ∀ k, sw_cn f k ≤ k
  | 0 => Nat.le_refl _
  | k + 1 => by
    have h := sw_cn_le f k
    show sw_cn f k + (if f k = -1 then 0 else 1) ≤ _
    split <;> omega
theorem sw_cn_lt {f : Nat → Int32} {t : Nat} (e : f t = -1) : ∀ k, t < k → sw_cn f k < k
  | k + 1, h => by
    show sw_cn f k + (if f k = -1 then 0 else 1) < _
    by_cases z : t = k
    · subst z
      have := sw_cn_le f t
      rw [if_pos e]
      omega
    · have := sw_cn_lt e k (by omega)
      split <;> omega
theorem sw_cn_o {f : Nat → Int32} {t : Nat} {x : Int32} : ∀ k, k ≤ t → sw_cn (upd f t x) k = sw_cn f k
  | 0, _ => rfl
  | k + 1, h => by
    show sw_cn (upd f t x) k + (if upd f t x k = -1 then 0 else 1) = sw_cn f k + (if f k = -1 then 0 else 1)
    rw [sw_cn_o k (by omega), pk_un (by omega)]
theorem sw_cn_u {f : Nat → Int32} {t : Nat} {x : Int32} (e : f t = -1) (hx : ¬ x = -1) : ∀ k, t < k → sw_cn (upd f t x) k = sw_cn f k + 1
  | k + 1, h => by
    show sw_cn (upd f t x) k + (if upd f t x k = -1 then 0 else 1) = sw_cn f k + (if f k = -1 then 0 else 1) + 1
    by_cases z : t = k
    · subst z
      rw [sw_cn_o t (Nat.le_refl _), pk_us, if_neg hx, if_pos e]
    · rw [sw_cn_u e hx k (by omega), pk_un (by omega)]
      omega
theorem sw_cn_0 : ∀ k, sw_cn (fun _ => -1) k = 0
  | 0 => rfl
  | k + 1 => by
    show sw_cn (fun _ => -1) k + (if (-1 : Int32) = -1 then 0 else 1) = 0
    rw [sw_cn_0 k, if_pos rfl]
theorem sw_cn_x {f g : Nat → Int32} : ∀ k, (∀ j, j < k → f j = g j) → sw_cn f k = sw_cn g k
  | 0, _ => rfl
  | k + 1, h => by
    show sw_cn f k + (if f k = -1 then 0 else 1) = sw_cn g k + (if g k = -1 then 0 else 1)
    rw [sw_cn_x k (fun j hj => h j (by omega)), h k (by omega)]
/-- the queue: q holds many sets, v their distances as they were found; the ones below p have been left, of p's neighbours those with D -/
def sw_Q (a p many : Nat) (q v : Nat → Nat) (D : Nat → Prop) (m f : Nat → Int32) : Prop :=
  (p < many ∧ many ≤ 128 ∧ sw_cn f 128 = many ∧ q 0 = a ∧ v 0 = 0) ∧
  (∀ j, j < many → q j < 128 ∧ m j = nI (q j) ∧ f (q j) = nI (v j) ∧ v j ≤ j ∧ sw_R a (v j) (q j)) ∧
  (∀ i j, i ≤ j → j < many → v i ≤ v j) ∧
  (∀ j, j < many → v j ≤ v p + 1) ∧
  (∀ t, t < 128 → f t = -1 ∨ ∃ j, j < many ∧ q j = t) ∧
  (∀ j t, j < p → sw_E (q j) t → ∃ i, i < many ∧ q i = t ∧ v i ≤ v j + 1) ∧
  (∀ t, D t → ∃ i, i < many ∧ q i = t ∧ v i ≤ v p + 1)
/-- a neighbour that is known already -/
theorem sw_Q_old {a p many t : Nat} {q v : Nat → Nat} {D : Nat → Prop} {m f : Nat → Int32} (h : sw_Q a p many q v D m f) (ht : t < 128) (hf : ¬ f t = -1) : sw_Q a p many q v (fun x => D x ∨ x = t) m f := by
  obtain ⟨h1, h2, h3, h4, h5, h6, h7⟩ := h
  refine ⟨h1, h2, h3, h4, h5, h6, fun x hx => ?_⟩
  rcases hx with hx | rfl
  · exact h7 x hx
  · rcases h5 x ht with z | ⟨j, hj, e⟩
    · exact absurd z hf
    · exact ⟨j, hj, e, h4 j hj⟩
/-- a new neighbour -/
theorem sw_Q_new {a p many t : Nat} {q v : Nat → Nat} {D : Nat → Prop} {m f : Nat → Int32} (h : sw_Q a p many q v D m f) (ht : t < 128) (hf : f t = -1) (hE : sw_E (q p) t) :
    many < 128 ∧ sw_Q a p (many + 1) (fun j => if j = many then t else q j) (fun j => if j = many then v p + 1 else v j) (fun x => D x ∨ x = t) (upd m many (nI t)) (upd f t (nI (v p + 1))) := by
  obtain ⟨⟨h0, h0', h1, hq0, hv0⟩, h2, h3, h4, h5, h6, h7⟩ := h
  have hm : many < 128 := by
    have := sw_cn_lt hf 128 ht
    omega
  have hvp := h2 p h0
  have hp1 : ¬ p = many := by omega
  have old : ∀ i, i < many → (if i = many then t else q i) = q i := fun i hi => if_neg (by omega)
  have oldv : ∀ i, i < many → (if i = many then v p + 1 else v i) = v i := fun i hi => if_neg (by omega)
  refine ⟨hm, ⟨by omega, by omega, ?_, ?_, ?_⟩, ?_, ?_, ?_, ?_, ?_, ?_⟩
  · rw [sw_cn_u hf (sw_m1 (by have := hvp.2.2.2.1; omega)) 128 ht, h1]
  · dsimp only
    rw [old 0 (by omega)]
    exact hq0
  · dsimp only
    rw [oldv 0 (by omega)]
    exact hv0
  · intro j hj
    dsimp only
    by_cases e : j = many
    · subst e
      rw [if_pos rfl, if_pos rfl, pk_us, pk_us]
      exact ⟨ht, rfl, rfl, by have := hvp.2.2.2.1; omega, q p, hvp.2.2.2.2, hE⟩
    · rw [if_neg e, if_neg e, pk_un e]
      obtain ⟨a1, a2, a3, a4, a5⟩ := h2 j (by omega)
      refine ⟨a1, a2, ?_, a4, a5⟩
      rw [pk_un ?_]
      · exact a3
      · intro w
        rw [w, hf] at a3
        exact sw_m1 (by omega) a3.symm
  · intro i j hij hj
    dsimp only
    by_cases e : j = many
    · rw [if_pos e]
      by_cases e' : i = many
      · rw [if_pos e']
        omega
      · rw [if_neg e']
        exact h4 i (by omega)
    · rw [if_neg e, if_neg (by omega)]
      exact h3 i j hij (by omega)
  · intro j hj
    dsimp only
    rw [oldv p h0]
    by_cases e : j = many
    · rw [if_pos e]
      omega
    · rw [if_neg e]
      exact h4 j (by omega)
  · intro x hx
    by_cases e : x = t
    · exact Or.inr ⟨many, by omega, (if_pos rfl).trans e.symm⟩
    · rw [pk_un e]
      rcases h5 x hx with z | ⟨j, hj, ej⟩
      · exact Or.inl z
      · exact Or.inr ⟨j, by omega, (old j hj).trans ej⟩
  · intro j x hj hEx
    dsimp only at hEx
    rw [old j (by omega)] at hEx
    obtain ⟨i, hi, ei, hv⟩ := h6 j x hj hEx
    exact ⟨i, by omega, (old i hi).trans ei, by dsimp only; rw [oldv i hi, oldv j (by omega)]; exact hv⟩
  · intro x hx
    dsimp only
    rw [oldv p h0]
    rcases hx with hx | rfl
    · obtain ⟨i, hi, ei, hv⟩ := h7 x hx
      exact ⟨i, by omega, (old i hi).trans ei, by rw [oldv i hi]; exact hv⟩
    · exact ⟨many, by omega, by rw [if_pos rfl], by rw [if_pos rfl]; omega⟩
/-- all of p's neighbours are met: the next one, or the end -/
theorem sw_Q_next {a p many : Nat} {q v : Nat → Nat} {D : Nat → Prop} {m f : Nat → Int32} (h : sw_Q a p many q v D m f) (hD : ∀ t, sw_E (q p) t → D t) (hp : p + 1 < many) : sw_Q a (p + 1) many q v (fun _ => False) m f := by
  obtain ⟨⟨h0, h0', h1, hq0, hv0⟩, h2, h3, h4, h5, h6, h7⟩ := h
  refine ⟨⟨hp, h0', h1, hq0, hv0⟩, h2, h3, fun j hj => ?_, h5, fun j t hj hE => ?_, fun t ht => ht.elim⟩
  · have a1 := h4 j hj
    have a2 := h3 p (p + 1) (by omega) hp
    omega
  · by_cases e : j = p
    · subst e
      exact h7 t (hD t hE)
    · exact h6 j t (by omega) hE
theorem sw_Q_end {a p many : Nat} {q v : Nat → Nat} {D : Nat → Prop} {m f : Nat → Int32} (h : sw_Q a p many q v D m f) (hD : ∀ t, sw_E (q p) t → D t) (hp : p + 1 = many) : ∀ k t, sw_R a k t → ∃ j, j < many ∧ q j = t ∧ v j ≤ k := by
  obtain ⟨⟨h0, h0', h1, hq0, hv0⟩, h2, h3, h4, h5, h6, h7⟩ := h
  intro k
  induction k with
  | zero =>
    intro t ht
    have ht' : t = a := ht
    exact ⟨0, by omega, by rw [hq0, ht'], by omega⟩
  | succ k ih =>
    intro t ht
    obtain ⟨s, hs, hE⟩ := ht
    obtain ⟨j, hj, ej, hv⟩ := ih s hs
    rw [← ej] at hE
    by_cases e : j = p
    · subst e
      obtain ⟨i, hi, ei, hvi⟩ := h7 t (hD t hE)
      exact ⟨i, hi, ei, by omega⟩
    · obtain ⟨i, hi, ei, hvi⟩ := h6 j t (by omega) hE
      exact ⟨i, hi, ei, by omega⟩
/-- what the array says at the end: the distance, or that there is none -/
theorem sw_Q_ans {a p many b : Nat} {q v : Nat → Nat} {D : Nat → Prop} {m f : Nat → Int32} (h : sw_Q a p many q v D m f) (hD : ∀ t, sw_E (q p) t → D t) (hp : p + 1 = many) (hb : b < 128) :
    (∃ j, j < 128 ∧ sw_dist a b j ∧ f b = nI j) ∨ ((∀ j, ¬ sw_R a j b) ∧ f b = -1) := by
  have hE := sw_Q_end h hD hp
  obtain ⟨⟨h0, h0', h1, hq0, hv0⟩, h2, h3, h4, h5, h6, h7⟩ := h
  rcases h5 b hb with z | ⟨j, hj, ej⟩
  · refine Or.inr ⟨fun k hk => ?_, z⟩
    obtain ⟨j, hj, ej, _⟩ := hE k b hk
    have a3 := (h2 j hj).2.2.1
    rw [ej, z] at a3
    exact sw_m1 (by have := (h2 j hj).2.2.2.1; omega) a3.symm
  · obtain ⟨a1, a2, a3, a4, a5⟩ := h2 j hj
    rw [ej] at a3 a5
    refine Or.inl ⟨v j, by omega, ⟨a5, fun i hi hR => ?_⟩, a3⟩
    obtain ⟨j', hj', ej', hv'⟩ := hE i b hR
    have a3' := (h2 j' hj').2.2.1
    have a4' := (h2 j' hj').2.2.2.1
    rw [ej', a3] at a3'
    have := (nI_eq (by omega) (by omega)).mp a3'
    omega
