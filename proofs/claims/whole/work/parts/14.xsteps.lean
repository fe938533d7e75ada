/-! the component's rounds -/
theorem sx_and1 {s : Nat} (hs : s < 2 ^ 31) : nI s &&& 1 = nI (s % 2) := pk_andN (by omega) 1 (by decide)
theorem sx_half {s : Nat} (hs : s < 2 ^ 31) : nI s >>> ((1 : Int32) &&& 31) = nI (s / 2) := pk_shrN hs _ 1 (by decide)
theorem sx_reach {post : SX → Prop} {pat thr v : Int32} {d : Nat → Int32} {t : Nat} (ht : t < 128) (h1 : d t = -1 → post (pat, thr, upd d t v)) (h0 : ¬ d t = -1 → post (pat, thr, d)) : wpX_reach post (pat, thr, d) (nI t) v := by
  have ec : (nI t).toNatClampNeg = t := nI_clamp (by omega)
  unfold wpX_reach
  dsimp only
  refine sx_isSet_t ht (br_f (by decide) ⟨vp_in_nI ht (by decide), ?_⟩)
  rw [ec]
  exact br_c (fun e => ⟨vp_in_nI ht (by decide), nm_e (h1 e)⟩) (fun e => h0 e)
/-- the cells with D that were free hold v now, the rest is as it was -/
def sx_G (D : Nat → Prop) (v : Int32) (d dh : Nat → Int32) : Prop := ∀ t, t < 128 → ((d t = -1 ∧ D t) → dh t = v) ∧ (¬ (d t = -1 ∧ D t) → dh t = d t)
theorem sx_G_new {D : Nat → Prop} {v : Int32} {d dh : Nat → Int32} {T : Nat} (G : sx_G D v d dh) (hT : T < 128) (e : dh T = -1) : sx_G (fun t => D t ∨ t = T) v d (upd dh T v) := by
  intro t ht
  obtain ⟨g1, g2⟩ := G t ht
  by_cases z : t = T
  · subst z
    rw [pk_us]
    refine ⟨fun _ => rfl, fun w => ?_⟩
    have w1 : ¬ (d t = -1 ∧ D t) := fun y => w ⟨y.1, Or.inl y.2⟩
    have w2 := g2 w1
    rw [e] at w2
    exact absurd ⟨w2.symm, Or.inr rfl⟩ w
  · rw [pk_un z]
    refine ⟨fun w => g1 ⟨w.1, ?_⟩, fun w => g2 (fun y => w ⟨y.1, Or.inl y.2⟩)⟩
    rcases w.2 with y | y
    · exact y
    · exact absurd y z
theorem sx_G_old {D : Nat → Prop} {v : Int32} {d dh : Nat → Int32} {T : Nat} (G : sx_G D v d dh) (e : ¬ dh T = -1) : sx_G (fun t => D t ∨ t = T) v d dh := by
  intro t ht
  obtain ⟨g1, g2⟩ := G t ht
  refine ⟨fun w => ?_, fun w => g2 (fun y => w ⟨y.1, Or.inl y.2⟩)⟩
  by_cases c : D t
  · exact g1 ⟨w.1, c⟩
  · rcases w.2 with y | y
    · exact absurd y c
    · have w2 := g2 (fun y => c y.2)
      rw [y] at w2 w
      exact absurd (w2.trans w.1) e
theorem sx_G_iff {D D' : Nat → Prop} {v : Int32} {d dh : Nat → Int32} (G : sx_G D v d dh) (h : ∀ t, D t ↔ D' t) : sx_G D' v d dh := by
  intro t ht
  obtain ⟨g1, g2⟩ := G t ht
  exact ⟨fun w => g1 ⟨w.1, (h t).mpr w.2⟩, fun w => g2 (fun y => w ⟨y.1, (h t).mp y.2⟩)⟩
def sx_L (s h t : Nat) : Prop := ∃ g, 1 ≤ g ∧ g < h ∧ s / 2 ^ g % 2 = 0 ∧ t = (s ||| 2 ^ g) / 2
theorem sx_L_s {s h t : Nat} (h1 : 1 ≤ h) (hb : s / 2 ^ h % 2 = 0) : (sx_L s h t ∨ t = (s ||| 2 ^ h) / 2) ↔ sx_L s (h + 1) t := by
  constructor
  · intro w
    rcases w with ⟨g, a, b, c, e⟩ | e
    · exact ⟨g, a, by omega, c, e⟩
    · exact ⟨h, h1, by omega, hb, e⟩
  · intro ⟨g, a, b, c, e⟩
    by_cases z : g = h
    · rw [z] at e
      exact Or.inr e
    · exact Or.inl ⟨g, a, by omega, c, e⟩
theorem sx_L_n {s h t : Nat} (hb : ¬ s / 2 ^ h % 2 = 0) : sx_L s h t ↔ sx_L s (h + 1) t := by
  constructor
  · intro ⟨g, a, b, c, e⟩
    exact ⟨g, a, by omega, c, e⟩
  · intro ⟨g, a, b, c, e⟩
    by_cases z : g = h
    · rw [z] at c
      exact absurd c hb
    · exact ⟨g, a, by omega, c, e⟩
theorem sx_L_0 {s t : Nat} : ¬ sx_L s 1 t := by
  intro ⟨g, a, b, _, _⟩
  omega
theorem sx_L_E {s t : Nat} (ho : s % 2 = 1) : sx_L s 8 t ↔ sw_E s t := by
  constructor
  · intro ⟨g, a, b, c, e⟩
    exact Or.inr ⟨ho, g, a, by omega, c, e⟩
  · intro w
    rcases w with ⟨z, _⟩ | ⟨_, g, a, b, c, e⟩
    · omega
    · exact ⟨g, a, by omega, c, e⟩
theorem sx_or8 {s h : Nat} (hs : s < 128) (hh : h ≤ 7) : s ||| 2 ^ h < 256 := sw_or_lt (n := 8) (by omega) (by omega)
theorem sx_s17 {post : SX → Prop} {pat thr v : Int32} {d0 : Nat → Int32} {D : Nat → Prop} {s : Nat} (hs : s < 128) (ho : s % 2 = 1) (H : ∀ d', sx_G (fun t => D t ∨ sw_E s t) v d0 d' → post (pat, thr, d')) : ∀ k h d, h + k = 8 → 1 ≤ h → sx_G (fun t => D t ∨ sx_L s h t) v d0 d → wX_stepFrom_17 post (nI s) v (k + 1) (nI h) pat thr d := by
  intro k
  induction k with
  | zero =>
    intro h d hk h1 G
    obtain rfl : h = 8 := by omega
    refine pk_lt 7 8 (fun _ => H d (sx_G_iff G (fun t => ?_))) (fun z => absurd z (by omega))
    rw [sx_L_E ho]
  | succ k ih =>
    intro h d hk h1 G
    refine pk_lt 7 h (fun z => absurd z (by omega)) (fun _ => ?_)
    by_cases hb : s / 2 ^ h % 2 = 0
    · refine br_t (sx_b0 (by omega) (by omega) hb) ?_
      have h8 := sx_or8 hs (show h ≤ 7 by omega)
      have hT : (s ||| 2 ^ h) / 2 < 128 := by omega
      have eT : (nI s ||| (1 : Int32) <<< (nI h &&& 31)) >>> ((1 : Int32) &&& 31) = nI ((s ||| 2 ^ h) / 2) := by
        rw [sw_one (by omega), sw_or, sx_half (by omega)]
      rw [eT]
      have fin : ∀ d', sx_G (fun t => (D t ∨ sx_L s h t) ∨ t = (s ||| 2 ^ h) / 2) v d0 d' → sx_G (fun t => D t ∨ sx_L s (h + 1) t) v d0 d' := by
        intro d' G'
        refine sx_G_iff G' (fun t => ?_)
        rw [← sx_L_s h1 hb, or_assoc]
      refine sx_reach hT (fun e => ?_) (fun e => ?_)
      · exact nm_r (nI_1 h) (ih (h + 1) _ (by omega) (by omega) (fin _ (sx_G_new G hT e)))
      · exact nm_r (nI_1 h) (ih (h + 1) _ (by omega) (by omega) (fin _ (sx_G_old G e)))
    · refine br_f (sx_b1 (by omega) (by omega) hb) ?_
      refine nm_r (nI_1 h) (ih (h + 1) _ (by omega) (by omega) (sx_G_iff G (fun t => ?_)))
      rw [sx_L_n hb]
theorem sx_stepFrom {post : SX → Prop} {pat thr v : Int32} {d0 d : Nat → Int32} {D : Nat → Prop} {s : Nat} (hs : s < 128) (G : sx_G D v d0 d) (H : ∀ d', sx_G (fun t => D t ∨ sw_E s t) v d0 d' → post (pat, thr, d')) : wpX_stepFrom post (pat, thr, d) (nI s) v := by
  unfold wpX_stepFrom
  dsimp only
  have e1 := sx_and1 (show s < 2 ^ 31 by omega)
  by_cases ho : s % 2 = 0
  · refine br_t (by rw [e1, ho]; rfl) ?_
    rw [sx_half (by omega)]
    have fin : ∀ d', sx_G (fun t => D t ∨ t = s / 2) v d0 d' → post (pat, thr, d') := by
      intro d' G'
      refine H d' (sx_G_iff G' (fun t => ?_))
      constructor
      · intro w
        rcases w with w | w
        · exact Or.inl w
        · exact Or.inr (Or.inl ⟨ho, w⟩)
      · intro w
        rcases w with w | ⟨_, w⟩ | ⟨w, _⟩
        · exact Or.inl w
        · exact Or.inr w
        · omega
    exact sx_reach (by omega) (fun e => fin _ (sx_G_new G (by omega) e)) (fun e => fin _ (sx_G_old G e))
  · have ho' : s % 2 = 1 := by omega
    refine br_f (by rw [e1, ho']; decide) ⟨8, ?_⟩
    refine sx_s17 hs ho' H 7 1 d rfl (by decide) (sx_G_iff G (fun t => ?_))
    constructor
    · exact Or.inl
    · intro w
      rcases w with w | w
      · exact w
      · exact absurd w sx_L_0
theorem sx_sfa {post : SX → Prop} {pat thr : Int32} {d0 : Nat → Int32} {k : Nat} (hk : k < 1000) (H : ∀ d', sw_Rd k 128 d0 d' → post (pat, thr, d')) : ∀ j s d, s + j = 128 → sw_Rd k s d0 d → wX_stepFromAllAt_2 post (nI k) (j + 1) (nI s) pat thr d := by
  intro j
  induction j with
  | zero =>
    intro s d hs G
    obtain rfl : s = 128 := by omega
    exact pk_le 128 128 (fun _ => H d G) (fun z => absurd z (by omega))
  | succ j ih =>
    intro s d hs G
    have ec : (nI s).toNatClampNeg = s := nI_clamp (by omega)
    have hs8 : s < 128 := by omega
    refine pk_le 128 s (fun z => absurd z (by omega)) (fun _ => ⟨vp_in_nI hs8 (by decide), ?_⟩)
    rw [ec, nI_1 k]
    obtain ⟨g1, g2⟩ := G s hs8
    refine br_c (fun e => ?_) (fun e => ?_)
    · have e0 : d0 s = nI k := by
        by_cases c : d0 s = -1 ∧ ∃ r, r < s ∧ d0 r = nI k ∧ sw_E r s
        · have z := g1 c
          rw [e] at z
          have := (nI_eq (by omega) (by omega)).mp z
          omega
        · rw [← g2 c]
          exact e
      have G0 : sx_G (fun t => ∃ r, r < s ∧ d0 r = nI k ∧ sw_E r t) (nI (k + 1)) d0 d := G
      refine sx_stepFrom hs8 G0 (fun d' G' => ?_)
      refine nm_r (nI_1 s) (ih (s + 1) d' (by omega) ?_)
      refine sx_G_iff G' (fun t => ?_)
      constructor
      · intro w
        rcases w with ⟨r, a, b, c⟩ | w
        · exact ⟨r, by omega, b, c⟩
        · exact ⟨s, by omega, e0, w⟩
      · intro ⟨r, a, b, c⟩
        by_cases z : r = s
        · rw [z] at c
          exact Or.inr c
        · exact Or.inl ⟨r, by omega, b, c⟩
    · have e0 : ¬ d0 s = nI k := by
        intro w
        refine e ?_
        rw [g2 (fun c => ?_)]
        · exact w
        · rw [w] at c
          exact sw_m1 (by omega) c.1
      refine nm_r (nI_1 s) (ih (s + 1) d (by omega) ?_)
      have G0 : sx_G (fun t => ∃ r, r < s ∧ d0 r = nI k ∧ sw_E r t) (nI (k + 1)) d0 d := G
      refine sx_G_iff G0 (fun t => ?_)
      constructor
      · intro ⟨r, a, b, c⟩
        exact ⟨r, by omega, b, c⟩
      · intro ⟨r, a, b, c⟩
        by_cases z : r = s
        · rw [z] at b
          exact absurd b e0
        · exact ⟨r, by omega, b, c⟩
theorem sx_stepFromAllAt {post : SX → Prop} {pat thr : Int32} {d : Nat → Int32} {k : Nat} (hk : k < 1000) (H : ∀ d', sw_Rd k 128 d d' → post (pat, thr, d')) : wpX_stepFromAllAt post (pat, thr, d) (nI k) := by
  unfold wpX_stepFromAllAt
  refine ⟨129, sx_sfa hk H 128 0 d rfl (fun t ht => ⟨fun w => ?_, fun _ => rfl⟩)⟩
  obtain ⟨_, r, hr, _⟩ := w
  omega
theorem sx_fd {post : SX → Prop} {pat thr : Int32} (H : ∀ d', (∀ t, t < 128 → d' t = -1) → post (pat, thr, d')) : ∀ j s d, s + j = 128 → (∀ t, t < s → d t = -1) → wX_forgetDistances_2 post pat thr (j + 1) (nI s) d := by
  intro j
  induction j with
  | zero =>
    intro s d hs G
    obtain rfl : s = 128 := by omega
    exact pk_le 128 128 (fun _ => H d G) (fun z => absurd z (by omega))
  | succ j ih =>
    intro s d hs G
    have ec : (nI s).toNatClampNeg = s := nI_clamp (by omega)
    refine pk_le 128 s (fun z => absurd z (by omega)) (fun _ => ⟨vp_in_nI (by omega) (by decide), ?_⟩)
    refine nm_r (e' := upd d s (-1)) (by rw [ec]) (nm_r (nI_1 s) (ih (s + 1) _ (by omega) (fun t ht => ?_)))
    by_cases e : t = s
    · rw [e, pk_us]
    · rw [pk_un e]
      exact G t (by omega)
theorem sx_forget {post : SX → Prop} {pat thr : Int32} {d : Nat → Int32} (H : ∀ d', (∀ t, t < 128 → d' t = -1) → post (pat, thr, d')) : wpX_forgetDistances post (pat, thr, d) := by
  unfold wpX_forgetDistances
  exact ⟨129, sx_fd H 128 0 d rfl (fun t ht => absurd ht (by omega))⟩
theorem sx_s31 {post : Int32 → SX → Prop} {pat thr : Int32} {a b : Nat} (ha : a < 128) (hb : b < 128) (hF : ∀ j d', j < 128 → sw_dist a b j → post (nI j) (pat, thr, d')) (hN : (∀ j, j < 128 → ¬ sw_R a j b) → ∀ d', post (-4) (pat, thr, d')) : ∀ j k d, k + j = 128 → sw_LV a k d → (∀ i, i < k → ¬ sw_R a i b) → wX_steps_31 post (nI b) (j + 1) (nI k) pat thr d := by
  intro j
  induction j with
  | zero =>
    intro k d hk L hq
    obtain rfl : k = 128 := by omega
    exact pk_le 128 128 (fun _ => hN hq d) (fun z => absurd z (by omega))
  | succ j ih =>
    intro k d hk L hq
    have ec : (nI b).toNatClampNeg = b := nI_clamp (by omega)
    refine pk_le 128 k (fun z => absurd z (by omega)) (fun _ => ⟨vp_in_nI hb (by decide), ?_⟩)
    rw [ec]
    obtain ⟨l1, l2⟩ := L b hb
    refine br_c (fun e => ?_) (fun e => ⟨vp_in_nI hb (by decide), ?_⟩)
    · refine sx_stepFromAllAt (by omega) (fun d' R' => ?_)
      refine nm_r (nI_1 k) (ih (k + 1) d' (by omega) (sw_LVs ha (by omega) L R') (fun i hi hR => ?_))
      obtain ⟨j', hj', hd⟩ := sw_least hR
      have z := l1 j' (by omega) hd
      rw [e] at z
      exact sw_m1 (by omega) z.symm
    · have w : ∃ i, i ≤ k ∧ sw_R a i b := Classical.byContradiction (fun y => e (l2 (fun i hi hR => y ⟨i, hi, hR⟩)))
      obtain ⟨i, hi, hR⟩ := w
      obtain ⟨j', hj', hd⟩ := sw_least hR
      rw [l1 j' (by omega) hd]
      exact hF j' d (by omega) hd
theorem sx_steps {post : Int32 → SX → Prop} {pat thr : Int32} {d : Nat → Int32} {a b : Nat} (ha : a < 128) (hb : b < 128) (hF : ∀ j d', j < 128 → sw_dist a b j → post (nI j) (pat, thr, d')) (hN : (∀ j, j < 128 → ¬ sw_R a j b) → ∀ d', post (-4) (pat, thr, d')) : wpX_steps post (pat, thr, d) (nI a) (nI b) := by
  have ec : (nI a).toNatClampNeg = a := nI_clamp (by omega)
  unfold wpX_steps
  dsimp only
  refine sx_isSet_t ha (br_f (by decide) ?_)
  refine sx_isSet_t hb (br_f (by decide) ?_)
  refine sx_forget (fun d' hd' => ?_)
  refine ⟨vp_in_nI ha (by decide), nm_r (e' := upd d' a 0) (by rw [ec]) ⟨129, ?_⟩⟩
  refine sx_s31 ha hb hF hN 128 0 _ rfl (sw_LV0 (fun t ht => ?_)) (fun i hi => absurd hi (by omega))
  by_cases e : t = a
  · rw [if_pos e, e, pk_us]
  · rw [if_neg e, pk_un e]
    exact hd' t ht
