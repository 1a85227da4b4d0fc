/-! ===== bits ===== -/
theorem bI (n : Nat) : (nI n).toBitVec = BitVec.ofNat 32 n := by
  unfold nI
  exact Int32.toBitVec_ofNat'
theorem bAND (a b : Nat) : nI a &&& nI b = nI (a &&& b) := by
  apply Int32.toBitVec_inj.mp
  rw [Int32.toBitVec_and, bI, bI, bI]
  apply BitVec.eq_of_getLsbD_eq
  intro i hi
  simp [BitVec.getLsbD_and, BitVec.getLsbD_ofNat, Nat.testBit_and, hi]
theorem bOR (a b : Nat) : nI a ||| nI b = nI (a ||| b) := by
  apply Int32.toBitVec_inj.mp
  rw [Int32.toBitVec_or, bI, bI, bI]
  apply BitVec.eq_of_getLsbD_eq
  intro i hi
  simp [BitVec.getLsbD_or, BitVec.getLsbD_ofNat, Nat.testBit_or, hi]
theorem bXOR (a b : Nat) : nI a ^^^ nI b = nI (a ^^^ b) := by
  apply Int32.toBitVec_inj.mp
  rw [Int32.toBitVec_xor, bI, bI, bI]
  apply BitVec.eq_of_getLsbD_eq
  intro i hi
  simp [BitVec.getLsbD_xor, BitVec.getLsbD_ofNat, Nat.testBit_xor, hi]
theorem m1_nI : (-1 : Int32) = nI 4294967295 := by decide +kernel
theorem bSm : ∀ n, n < 32 → ((nI n &&& 31).toBitVec.smod 32).toNat = n := by decide +kernel
theorem bSHR {m d : Nat} (hm : m < 2147483648) (hd : d < 32) : nI m >>> (nI d &&& 31) = nI (m >>> d) := by
  rw [pk_shrN hm _ d (bSm d hd), Nat.shiftRight_eq_div_pow]
theorem bSHL {m d : Nat} (hd : d < 32) (h : m * 2 ^ d < 4294967296) : nI m <<< (nI d &&& 31) = nI (m * 2 ^ d) := pk_shlN _ d (bSm d hd) h
theorem bPOW {d : Nat} (hd : d < 32) : (1 : Int32) <<< (nI d &&& 31) = nI (2 ^ d) := by
  have h2 : 2 ^ d < 4294967296 := by
    have : 2 ^ d < 2 ^ 32 := Nat.pow_lt_pow_right (by omega) hd
    simpa using this
  have := bSHL (m := 1) hd (by simpa using h2)
  simpa [lit_nI] using this
theorem bAND1 (m : Nat) : nI m &&& (1 : Int32) = nI (m % 2) := by
  rw [lit_nI, bAND, Nat.and_one_is_mod]
theorem bTST {m d : Nat} (hm : m < 2147483648) (hd : d < 32) : (((nI m >>> (nI d &&& 31)) &&& (1 : Int32)) = (1 : Int32)) = (m.testBit d = true) := by
  have h1 : m >>> d % 2 < 2147483648 := by omega
  rw [bSHR hm hd, bAND1, show (1 : Int32) = nI 1 from rfl, cEQ h1 (by decide), Nat.testBit, Nat.and_comm, Nat.and_one_is_mod]
  apply propext
  constructor
  · intro h; simp [h]
  · intro h
    have := Nat.mod_lt (m >>> d) (by omega : 0 < 2)
    rcases (by omega : m >>> d % 2 = 0 ∨ m >>> d % 2 = 1) with h1 | h1
    · simp [h1] at h
    · exact h1
/-- a set out of a test -/
def mk (p : Nat → Bool) : Nat → Nat
  | 0 => 0
  | n + 1 => mk p n ||| (if p n then 2 ^ n else 0)
theorem mk_testBit (p : Nat → Bool) (n i : Nat) : (mk p n).testBit i = (decide (i < n) && p i) := by
  induction n with
  | zero => simp [mk]
  | succ n ih =>
    rw [mk, Nat.testBit_or, ih]
    by_cases hp : p n = true
    · rw [if_pos hp, Nat.testBit_two_pow]
      by_cases h : i = n
      · subst h; simp [hp]
      · have h1 : ¬ n = i := fun z => h z.symm
        have h2 : (decide (i < n + 1)) = decide (i < n) := by
          apply decide_eq_decide.mpr; omega
        simp [h1, h2]
    · rw [if_neg hp, Nat.zero_testBit, Bool.or_false]
      by_cases h : i = n
      · subst h; simp [hp]
      · have h2 : (decide (i < n + 1)) = decide (i < n) := by
          apply decide_eq_decide.mpr; omega
        simp [h2]
theorem mk_lt (p : Nat → Bool) (n : Nat) : mk p n < 2 ^ n := by
  apply Nat.lt_pow_two_of_testBit
  intro i hi
  rw [mk_testBit]
  simp; omega
theorem mk_congr {p q : Nat → Bool} {n : Nat} (h : ∀ i, i < n → p i = q i) : mk p n = mk q n := by
  apply Nat.eq_of_testBit_eq
  intro i
  rw [mk_testBit, mk_testBit]
  by_cases hi : i < n
  · rw [h i hi]
  · simp [hi]
theorem mk_of {m n : Nat} (h : m < 2 ^ n) : mk m.testBit n = m := by
  apply Nat.eq_of_testBit_eq
  intro i
  rw [mk_testBit]
  by_cases hi : i < n
  · simp [hi]
  · have : m.testBit i = false := Nat.testBit_lt_two_pow (Nat.lt_of_lt_of_le h (Nat.pow_le_pow_right (by omega) (by omega)))
    simp [hi, this]
theorem p2le {a b : Nat} (h : a ≤ b) : 2 ^ a ≤ 2 ^ b := Nat.pow_le_pow_right (by omega) h
theorem or_lt2 {a b n : Nat} (ha : a < 2 ^ n) (hb : b < 2 ^ n) : a ||| b < 2 ^ n := Nat.or_lt_two_pow ha hb
/-- and not -/
def ndf (a b : Nat) : Nat := a &&& (a ^^^ (a &&& b))
theorem ndf_testBit (a b i : Nat) : (ndf a b).testBit i = (a.testBit i && !b.testBit i) := by
  unfold ndf
  rw [Nat.testBit_and, Nat.testBit_xor, Nat.testBit_and]
  cases a.testBit i <;> cases b.testBit i <;> rfl
theorem ndf_le (a b : Nat) : ndf a b ≤ a := Nat.and_le_left
theorem bNOT {a b : Nat} (ha : a < 4294967296) : nI a &&& (nI b ^^^ (-1 : Int32)) = nI (ndf a b) := by
  rw [m1_nI, bXOR, bAND]
  congr 1
  apply Nat.eq_of_testBit_eq
  intro i
  rw [ndf_testBit, Nat.testBit_and, Nat.testBit_xor]
  by_cases hi : i < 32
  · have : (4294967295 : Nat).testBit i = true := by
      have := Nat.testBit_two_pow_sub_one 32 i
      simpa [hi] using this
    rw [this]
    cases b.testBit i <;> simp
  · have : a.testBit i = false := Nat.testBit_lt_two_pow (Nat.lt_of_lt_of_le (by simpa using ha) (p2le (by omega : 32 ≤ i)))
    simp [this]
