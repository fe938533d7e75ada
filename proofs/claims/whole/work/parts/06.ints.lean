/-! Int32 against naturals: masks, bits, the remainder of a beat -/
theorem sw_or (a b : Nat) : nI a ||| nI b = nI (a ||| b) := by
  apply Int32.toBitVec_inj.1
  show BitVec.ofNat 32 a ||| BitVec.ofNat 32 b = BitVec.ofNat 32 (a ||| b)
  apply BitVec.eq_of_getLsbD_eq
  intro i hi
  simp [hi]
theorem sw_and (a b : Nat) : nI a &&& nI b = nI (a &&& b) := by
  apply Int32.toBitVec_inj.1
  show BitVec.ofNat 32 a &&& BitVec.ofNat 32 b = BitVec.ofNat 32 (a &&& b)
  apply BitVec.eq_of_getLsbD_eq
  intro i hi
  simp [hi]
theorem sw_xor (a b : Nat) : nI a ^^^ nI b = nI (a ^^^ b) := by
  apply Int32.toBitVec_inj.1
  show BitVec.ofNat 32 a ^^^ BitVec.ofNat 32 b = BitVec.ofNat 32 (a ^^^ b)
  apply BitVec.eq_of_getLsbD_eq
  intro i hi
  simp [hi]
theorem sw_sl : ∀ n, n < 32 → ((nI n &&& 31).toBitVec.smod 32).toNat = n := by decide +kernel
theorem sw_shr {M b : Nat} (hM : M < 2 ^ 31) (hb : b < 32) : nI M >>> (nI b &&& 31) = nI (M / 2 ^ b) := pk_shrN hM _ b (sw_sl b hb)
theorem sw_bit {M b : Nat} (hM : M < 2 ^ 31) (hb : b < 32) : (nI M >>> (nI b &&& 31)) &&& 1 = nI (M / 2 ^ b % 2) := by
  have h2 : M / 2 ^ b ≤ M := Nat.div_le_self _ _
  rw [sw_shr hM hb, pk_andN (by omega) 1 (by decide)]
theorem sw_shl {h b : Nat} (hb : b < 32) (hh : h * 2 ^ b < 2 ^ 32) : nI h <<< (nI b &&& 31) = nI (h * 2 ^ b) := pk_shlN _ b (sw_sl b hb) hh
theorem sw_one {b : Nat} (hb : b < 31) : (1 : Int32) <<< (nI b &&& 31) = nI (2 ^ b) := by
  have h : 1 * 2 ^ b < 2 ^ 32 := by
    rw [Nat.one_mul]
    exact Nat.pow_lt_pow_right (by decide) (by omega)
  have := sw_shl (h := 1) (b := b) (by omega) h
  rw [Nat.one_mul] at this
  exact this
/-- a height read out of a row -/
theorem sw_get {n P i : Nat} (hn : n ≤ 5) (hP : P < 8 ^ n) : (nI P >>> (nI (3 * (n - 1 - i)) &&& 31)) &&& 7 = nI (sw_d n P i) := by
  have h8 := sw_8le hn
  have h2 : P / 2 ^ (3 * (n - 1 - i)) ≤ P := Nat.div_le_self _ _
  rw [sw_shr (by omega) (by omega), pk_andN (by omega) 3 (by decide)]
  unfold sw_d
  rw [sw_8]
theorem sw_p12 : ∀ e, e < 5 → 7 * 2 ^ (3 * e) < 2 ^ 31 := by decide
theorem sw_p13 {e h : Nat} (he : e < 5) (hh : h < 8) : h * 2 ^ (3 * e) < 2 ^ 31 := Nat.lt_of_le_of_lt (Nat.mul_le_mul_right _ (by omega)) (sw_p12 e he)
/-- a height put into a row -/
theorem sw_put {n P i h : Nat} (hn : n ≤ 5) (h1 : 0 < n) (hh : h < 8) : (nI P &&& ((7 : Int32) <<< (nI (3 * (n - 1 - i)) &&& 31) ^^^ (-1))) ||| nI h <<< (nI (3 * (n - 1 - i)) &&& 31) = nI (sw_w n P i h) := by
  have a := sw_p12 (n - 1 - i) (by omega)
  have b := sw_p13 (e := n - 1 - i) (h := h) (by omega) hh
  have e7 : (7 : Int32) <<< (nI (3 * (n - 1 - i)) &&& 31) = nI (7 * 2 ^ (3 * (n - 1 - i))) := sw_shl (h := 7) (by omega) (by omega)
  rw [e7, sw_shl (by omega) (by omega), show (-1 : Int32) = nI 4294967295 by decide, sw_xor, sw_and, sw_or]
  rfl
/-! the remainder -/
theorem sw_tm {x : Int} {n : Nat} (h1 : 1 ≤ n) (h5 : n ≤ 5) : (x.tmod n < 0 → x.tmod n + n = x % n) ∧ (¬ x.tmod n < 0 → x.tmod n = x % n) := by
  by_cases hx : 0 ≤ x
  · rw [Int.tmod_eq_emod_of_nonneg hx]
    have : n = 1 ∨ n = 2 ∨ n = 3 ∨ n = 4 ∨ n = 5 := by omega
    rcases this with rfl | rfl | rfl | rfl | rfl <;> constructor <;> intro h <;> omega
  · obtain ⟨y, rfl⟩ : ∃ y : Int, x = -y := ⟨-x, by omega⟩
    rw [Int.neg_tmod, Int.tmod_eq_emod_of_nonneg (by omega)]
    have : n = 1 ∨ n = 2 ∨ n = 3 ∨ n = 4 ∨ n = 5 := by omega
    rcases this with rfl | rfl | rfl | rfl | rfl <;> constructor <;> intro h <;> omega
theorem sw_em {x : Int} {n : Nat} (h1 : 1 ≤ n) (h5 : n ≤ 5) : 0 ≤ x % (n : Int) ∧ x % (n : Int) < n := ⟨Int.emod_nonneg _ (by omega), Int.emod_lt_of_pos _ (by omega)⟩
theorem sw_toInt {x : Int32} {m : Nat} (hm : m < 2 ^ 31) (h : x.toInt = m) : x = nI m := Int32.toInt_inj.mp (by rw [h, nI_toInt hm])
theorem sw_lt0 {x : Int32} : x < 0 ↔ x.toInt < 0 := by
  rw [Int32.lt_iff_toInt_lt]
  rfl
theorem sw_rn {x : Int32} {n : Nat} (h1 : 1 ≤ n) (h5 : n ≤ 5) : (x - x / nI n * nI n < 0 → x - x / nI n * nI n + nI n = nI (x.toInt % (n : Int)).toNat) ∧ (¬ x - x / nI n * nI n < 0 → x - x / nI n * nI n = nI (x.toInt % (n : Int)).toNat) := by
  have e := rem_toInt x (nI n)
  rw [nI_toInt (show n < 2 ^ 31 by omega)] at e
  have t := sw_tm (x := x.toInt) h1 h5
  have b := sw_em (x := x.toInt) h1 h5
  generalize x - x / nI n * nI n = r at *
  rw [sw_lt0, e]
  refine ⟨fun h => ?_, fun h => ?_⟩
  · have t1 := t.1 h
    apply sw_toInt (by omega)
    rw [Int32.toInt_add, e, nI_toInt (show n < 2 ^ 31 by omega), t1, Int.bmod_eq_of_le (by omega) (by omega)]
    omega
  · have t2 := t.2 h
    apply sw_toInt (by omega)
    rw [e, t2]
    omega
/-- the other program's: twice the remainder -/
theorem sw_rr {x : Int32} {n : Nat} (h1 : 1 ≤ n) (h5 : n ≤ 5) : (x - x / nI n * nI n + nI n) - (x - x / nI n * nI n + nI n) / nI n * nI n = nI (x.toInt % (n : Int)).toNat := by
  have e := rem_toInt x (nI n)
  rw [nI_toInt (show n < 2 ^ 31 by omega)] at e
  have t := sw_tm (x := x.toInt) h1 h5
  have b := sw_em (x := x.toInt) h1 h5
  by_cases h : x.toInt.tmod n < 0
  · have t1 := t.1 h
    have e2 : x - x / nI n * nI n + nI n = nI (x.toInt % (n : Int)).toNat := by
      apply sw_toInt (by omega)
      rw [Int32.toInt_add, e, nI_toInt (show n < 2 ^ 31 by omega), t1, Int.bmod_eq_of_le (by omega) (by omega)]
      omega
    rw [e2, pk_rem (by omega) (by omega) (by omega), Nat.mod_eq_of_lt (by omega)]
  · have t2 := t.2 h
    have e2 : x - x / nI n * nI n = nI (x.toInt % (n : Int)).toNat := by
      apply sw_toInt (by omega)
      rw [e, t2]
      omega
    rw [e2, nI_add, pk_rem (by omega) (by omega) (by omega), Nat.add_mod_right, Nat.mod_eq_of_lt (by omega)]
theorem sw_nat {a n : Nat} (hn : 0 < n) : ((a : Int) % (n : Int)).toNat = a % n := by
  rw [← Int.natCast_emod]
  rfl
