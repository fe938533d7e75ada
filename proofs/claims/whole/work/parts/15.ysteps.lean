/-! the reference's queue -/
theorem sw_Q_w {a p many : Nat} {q v : Nat → Nat} {D D' : Nat → Prop} {m f : Nat → Int32} (h : sw_Q a p many q v D m f) (hD : ∀ t, D' t → D t) : sw_Q a p many q v D' m f := by
  obtain ⟨h1, h2, h3, h4, h5, h6, h7⟩ := h
  exact ⟨h1, h2, h3, h4, h5, h6, fun t ht => h7 t (hD t ht)⟩
def sy_D (s h t : Nat) : Prop := (s % 2 = 0 ∧ 1 < h ∧ t = s / 2) ∨ (s % 2 = 1 ∧ sx_L s h t)
theorem sy_D_E {s t : Nat} (h : sw_E s t) : sy_D s 8 t := by
  rcases h with ⟨a, b⟩ | ⟨ho, g, a, b, c, e⟩
  · exact Or.inl ⟨a, by decide, b⟩
  · exact Or.inr ⟨ho, g, a, by omega, c, e⟩
theorem sy_D_1 {s t : Nat} (h : sy_D s 1 t) : False := by
  rcases h with ⟨_, b, _⟩ | ⟨_, b⟩
  · omega
  · exact sx_L_0 b
theorem sy_D_ev {s h t : Nat} (he : s % 2 = 0) (w : sy_D s (h + 1) t) : sy_D s h t ∨ t = s / 2 := by
  rcases w with ⟨_, _, c⟩ | ⟨b, _⟩
  · exact Or.inr c
  · omega
theorem sy_D_od {s h t : Nat} (h1 : 1 ≤ h) (ho : s % 2 = 1) (hb : s / 2 ^ h % 2 = 0) (w : sy_D s (h + 1) t) : sy_D s h t ∨ t = (s ||| 2 ^ h) / 2 := by
  rcases w with ⟨b, _⟩ | ⟨_, b⟩
  · omega
  · rcases (sx_L_s h1 hb).mpr b with c | c
    · exact Or.inl (Or.inr ⟨ho, c⟩)
    · exact Or.inr c
theorem sy_D_no {s h t : Nat} (ho : s % 2 = 1) (hb : ¬ s / 2 ^ h % 2 = 0) (w : sy_D s (h + 1) t) : sy_D s h t := by
  rcases w with ⟨b, _⟩ | ⟨_, b⟩
  · omega
  · exact Or.inr ⟨ho, (sx_L_n hb).mpr b⟩
theorem sy_f0 {a p many t : Nat} {q v : Nat → Nat} {D : Nat → Prop} {m f : Nat → Int32} (h : sw_Q a p many q v D m f) (ht : t < 128) : (f t = -1 ∧ ¬ 0 ≤ f t) ∨ (¬ f t = -1 ∧ 0 ≤ f t) := by
  obtain ⟨h1, h2, h3, h4, h5, h6, h7⟩ := h
  by_cases e : f t = -1
  · refine Or.inl ⟨e, ?_⟩
    rw [e]
    decide
  · refine Or.inr ⟨e, ?_⟩
    rcases h5 t ht with z | ⟨j, hj, ej⟩
    · exact absurd z e
    · obtain ⟨a1, a2, a3, a4, a5⟩ := h2 j hj
      rw [ej] at a3
      rw [a3]
      exact nI_pos' (by omega)
theorem sy_Q0 {a : Nat} {m f : Nat → Int32} (ha : a < 128) (hf : ∀ t, t < 128 → f t = -1) : sw_Q a 0 1 (fun _ => a) (fun _ => 0) (fun _ => False) (upd m 0 (nI a)) (upd f a 0) := by
  have c0 : sw_cn f 128 = 0 := by
    rw [sw_cn_x (g := fun _ => -1) 128 (fun j hj => hf j hj)]
    exact sw_cn_0 128
  have c1 := sw_cn_u (x := 0) (hf a ha) (by decide) 128 ha
  rw [c0] at c1
  refine ⟨⟨by decide, by decide, c1, rfl, rfl⟩, fun j hj => ?_, fun i j _ _ => Nat.le_refl _, fun j hj => Nat.zero_le _, fun t ht => ?_, fun j t hj => absurd hj (by omega), fun t ht => ht.elim⟩
  · obtain rfl : j = 0 := by omega
    dsimp only
    exact ⟨ha, pk_us, by rw [pk_us]; exact nI_0.symm, Nat.le_refl _, rfl⟩
  · by_cases e : t = a
    · exact Or.inr ⟨0, by decide, e.symm⟩
    · rw [pk_un e]
      exact Or.inl (hf t ht)
theorem sy_s147 {post : Int32 → SY → Prop} {J63 J81 : Int32 → Int32 → (Nat → Int32) → (Nat → Int32) → (Nat → Int32) → (Nat → Int32) → Prop} {x2 x4 fn : Int32} {A o m f : Nat → Int32} {a p many h T s : Nat} {q v : Nat → Nat} {D : Nat → Prop} (Q : sw_Q a p many q v D m f) (hs : q p = s) (hT : T < 128) (hE : sw_E s T) (H : ∀ many' q' v' m' f', q' p = s → sw_Q a p many' q' v' (fun t => D t ∨ t = T) m' f' → J81 (nI many') (nI (h + 1)) A o m' f') : wY_steps_147 post J63 J81 x2 (nI many) x4 (nI s) (nI h) (nI T) fn A o m f := by
  have ecT : (nI T).toNatClampNeg = T := nI_clamp (by omega)
  have hp := Q.1.1
  obtain ⟨b1, b2, b3, b4, b5⟩ := Q.2.1 p hp
  rw [hs] at b1 b3
  unfold wY_steps_147
  refine ⟨vp_in_nI hT (by decide), ?_⟩
  rw [ecT]
  rcases sy_f0 Q hT with ⟨e, e0⟩ | ⟨e, e0⟩
  · obtain ⟨hm, Q'⟩ := sw_Q_new Q hT e (by rw [hs]; exact hE)
    refine br_f e0 ⟨vp_in_nI b1 (by decide), vp_in_nI hT (by decide), nm_r (e' := upd f T (nI (v p + 1))) ?_ ⟨vp_in_nI hm (by decide), nm_r (e' := upd m many (nI T)) (by rw [nI_clamp (by omega)]) (nm_r (nI_1 many) (nm_r (nI_1 h) (H _ _ _ _ _ ?_ Q')))⟩⟩
    · rw [nI_clamp (by omega), b3, nI_1]
    · show (if p = many then T else q p) = s
      rw [if_neg (by omega)]
      exact hs
  · exact br_t e0 (nm_r (nI_1 h) (H many q v m f hs (sw_Q_old Q hT e)))
theorem sy_s81 {post : Int32 → SY → Prop} {J63 : Int32 → Int32 → (Nat → Int32) → (Nat → Int32) → (Nat → Int32) → (Nat → Int32) → Prop} {x2 fn : Int32} {A o : Nat → Int32} {a p s : Nat} (hs8 : s < 128) (HJ : ∀ many q v m f, q p = s → sw_Q a p many q v (sw_E s) m f → J63 (nI many) (nI (p + 1)) A o m f) : ∀ k h many q v m f, h + k = 8 → 1 ≤ h → q p = s → sw_Q a p many q v (sy_D s h) m f → wY_steps_81 post J63 x2 (nI p) (nI s) fn (k + 1) (nI many) (nI h) A o m f := by
  intro k
  induction k with
  | zero =>
    intro h many q v m f hk h1 hs Q
    obtain rfl : h = 8 := by omega
    exact pk_lt 7 8 (fun _ => nm_r (nI_1 p) (HJ many q v m f hs (sw_Q_w Q (fun t w => sy_D_E w)))) (fun z => absurd z (by omega))
  | succ k ih =>
    intro h many q v m f hk h1 hs Q
    have e1 := sx_and1 (show s < 2 ^ 31 by omega)
    refine pk_lt 7 h (fun z => absurd z (by omega)) (fun _ => nm_r (e' := nI (s / 2)) (sx_half (by omega)) ?_)
    by_cases ho : s % 2 = 1
    · refine br_t (by rw [e1, ho]; rfl) ?_
      by_cases hb : s / 2 ^ h % 2 = 0
      · refine br_t (sx_b0 (by omega) (by omega) hb) ?_
        have h8 := sx_or8 hs8 (show h ≤ 7 by omega)
        have hT : (s ||| 2 ^ h) / 2 < 128 := by omega
        obtain ⟨g, rfl⟩ : ∃ g, h = g + 1 := ⟨h - 1, by omega⟩
        refine br_f (by decide) (nm_r (e' := nI ((s ||| 2 ^ (g + 1)) / 2)) ?_ (br_f (by decide) ?_))
        · rw [nI_pred, sw_one (by omega), sw_or, sw_nx s hs8 g (by omega)]
        · refine sy_s147 (D := sy_D s (g + 1)) Q hs hT (Or.inr ⟨ho, g + 1, by omega, by omega, hb, rfl⟩) (fun many' q' v' m' f' e Q' => ?_)
          exact ih (g + 1 + 1) many' q' v' m' f' (by omega) (by omega) e (sw_Q_w Q' (fun t w => sy_D_od h1 ho hb w))
      · refine br_f (sx_b1 (by omega) (by omega) hb) ?_
        refine br_t rfl (br_t rfl (br_f (by rw [e1, ho]; decide) ?_))
        exact nm_r (nI_1 h) (ih (h + 1) many q v m f (by omega) (by omega) hs (sw_Q_w Q (fun t w => sy_D_no ho hb w)))
    · have he : s % 2 = 0 := by omega
      refine br_f (by rw [e1, he]; decide) ?_
      refine br_t rfl (br_t rfl (br_t (by rw [e1, he]; rfl) ?_))
      refine sy_s147 (D := sy_D s h) Q hs (by omega) (Or.inl ⟨he, rfl⟩) (fun many' q' v' m' f' e Q' => ?_)
      exact ih (h + 1) many' q' v' m' f' (by omega) (by omega) e (sw_Q_w Q' (fun t w => sy_D_ev he w))
theorem sy_s63 {post : Int32 → SY → Prop} {fn : Int32} {A o : Nat → Int32} {a b : Nat} (hb : b < 128) (hF : ∀ j m' f', j < 128 → sw_dist a b j → post (nI j) (fn, A, o, m', f')) (hN : (∀ j, ¬ sw_R a j b) → ∀ m' f', post (-4) (fn, A, o, m', f')) : ∀ fuel p many q v m f, sw_Q a p many q v (fun _ => False) m f → 128 - p < fuel → wY_steps_63 post (nI b) fn fuel (nI many) (nI p) A o m f := by
  intro fuel
  induction fuel with
  | zero =>
    intro p many q v m f _ hm
    exact absurd hm (by omega)
  | succ fuel ih =>
    intro p many q v m f Q hm
    have hp := Q.1.1
    have hm8 := Q.1.2.1
    obtain ⟨b1, b2, b3, b4, b5⟩ := Q.2.1 p hp
    refine pk_le many p (fun z => absurd z (by omega)) (fun _ => ⟨vp_in_nI (show p < 128 by omega) (by decide), ?_⟩)
    refine nm_r (e' := nI (q p)) (by rw [nI_clamp (by omega)]; exact b2) ⟨8, ?_⟩
    refine sy_s81 (J63 := wY_steps_63 post (nI b) fn fuel) b1 (fun many' q' v' m' f' hs Q' => ?_) 7 1 many q v m f rfl (by decide) rfl (sw_Q_w Q (fun t w => sy_D_1 w))
    have hp' := Q'.1.1
    rw [← hs] at Q'
    by_cases z : p + 1 < many'
    · exact ih (p + 1) many' q' v' m' f' (sw_Q_next Q' (fun t w => w) z) (by omega)
    · have z' : p + 1 = many' := by omega
      have ec : (nI b).toNatClampNeg = b := nI_clamp (by omega)
      obtain ⟨g, rfl⟩ : ∃ g, fuel = g + 1 := ⟨fuel - 1, by omega⟩
      have hm8' := Q'.1.2.1
      refine pk_le many' (p + 1) (fun _ => ⟨vp_in_nI hb (by decide), ?_⟩) (fun w => absurd w (by omega))
      rw [ec]
      rcases sw_Q_ans Q' (fun t w => w) z' hb with ⟨j, hj, hd, ef⟩ | ⟨hn, ef⟩
      · rw [ef]
        exact br_t (nI_pos' (by omega)) ⟨vp_in_nI hb (by decide), hF j m' f' hj hd⟩
      · rw [ef]
        exact br_f (by decide) (hN hn m' f')
theorem sy_s24 {post : Int32 → SY → Prop} {fn : Int32} {A o m : Nat → Int32} {a b : Nat} (ha : a < 128) (hb : b < 128) (hF : ∀ j m' f', j < 128 → sw_dist a b j → post (nI j) (fn, A, o, m', f')) (hN : (∀ j, ¬ sw_R a j b) → ∀ m' f', post (-4) (fn, A, o, m', f')) : ∀ k i f, i + k = 128 → (∀ t, t < i → f t = -1) → wY_steps_24 post (nI a) (nI b) fn (k + 1) (nI i) A o m f := by
  intro k
  induction k with
  | zero =>
    intro i f hi hq
    obtain rfl : i = 128 := by omega
    refine pk_le 128 128 (fun _ => nm_e ⟨vp_in_nI ha (by decide), nm_r (e' := upd f a 0) (by rw [nI_clamp (by omega)]) ⟨129, ?_⟩⟩) (fun z => absurd z (by omega))
    exact sy_s63 hb hF hN 129 0 1 _ _ _ _ (sy_Q0 ha hq) (by decide)
  | succ k ih =>
    intro i f hi hq
    refine pk_le 128 i (fun z => absurd z (by omega)) (fun _ => ⟨vp_in_nI (by omega) (by decide), ?_⟩)
    refine nm_r (e' := upd f i (-1)) (by rw [nI_clamp (by omega)]) (nm_r (nI_1 i) (ih (i + 1) _ (by omega) (fun t ht => ?_)))
    by_cases e : t = i
    · rw [e, pk_us]
    · rw [pk_un e]
      exact hq t (by omega)
theorem sy_steps {post : Int32 → SY → Prop} {fn : Int32} {A o m f : Nat → Int32} {a b : Nat} (ha : a < 128) (hb : b < 128) (hF : ∀ j m' f', j < 128 → sw_dist a b j → post (nI j) (fn, A, o, m', f')) (hN : (∀ j, ¬ sw_R a j b) → ∀ m' f', post (-4) (fn, A, o, m', f')) : wpY_steps post (fn, A, o, m, f) (nI a) (nI b) := by
  unfold wpY_steps
  refine br_f (nI_pos (by omega)) (pk_lt 127 a (fun z => absurd z (by omega)) (fun _ => ?_))
  refine br_f (nI_pos (by omega)) (pk_le b 127 (fun _ => ?_) (fun z => absurd z (by omega)))
  exact ⟨129, sy_s24 ha hb hF hN 128 0 f rfl (fun t ht => absurd ht (by omega))⟩
theorem sy_steps_b {post : Int32 → SY → Prop} {fn : Int32} {A o m f : Nat → Int32} {x y : Int32} (hb : sx_bad 128 x ∨ ((∃ a : Nat, a < 128 ∧ x = nI a) ∧ sx_bad 128 y)) (h : post (-1) (fn, A, o, m, f)) : wpY_steps post (fn, A, o, m, f) x y := by
  unfold wpY_steps
  rcases hb with (z | ⟨z, z2, _⟩) | ⟨⟨a, ha, rfl⟩, z | ⟨z, z2, _⟩⟩
  · exact br_t z h
  · exact br_f z (br_t (sx_bad_s (m := 127) (by decide) z2).1 h)
  · exact br_f (nI_pos (by omega)) (pk_lt 127 a (fun w => absurd w (by omega)) (fun _ => br_t z h))
  · exact br_f (nI_pos (by omega)) (pk_lt 127 a (fun w => absurd w (by omega)) (fun _ => br_f z (br_f (sx_bad_s (m := 127) (by decide) z2).2 h)))
