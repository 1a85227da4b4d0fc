/-! ===== sets of doors: damage, guilt; fractions told ===== -/
section SETS
variable {σ τ ρ : aS} {u u' u0 : xM} {o o1 : Nat}
theorem nI_all (a : Int32) : ∃ m, m < 4294967296 ∧ a = nI m := ⟨a.toBitVec.toNat, a.toBitVec.isLt, Int32.toBitVec_inj.mp (by rw [bI, BitVec.ofNat_toNat, BitVec.setWidth_eq])⟩
theorem nE0 {x : Nat} (h : x < 4294967296) : (nI x = 0) = (x = 0) := by
  apply propext
  constructor
  · intro e
    have e2 := congrArg (fun z => z.toBitVec.toNat) e
    simp only [bI, BitVec.toNat_ofNat] at e2
    rw [Nat.mod_eq_of_lt h] at e2
    exact e2
  · intro e
    rw [e]; rfl
theorem ndf_iff {a b : Nat} : (ndf a b = 0) = ∀ i, a.testBit i = true → b.testBit i = true := by
  apply propext
  constructor
  · intro h i hi
    have := ndf_testBit a b i
    rw [h, Nat.zero_testBit, hi] at this
    simpa using this.symm
  · intro h
    apply Nat.eq_of_testBit_eq
    intro i
    rw [ndf_testBit, Nat.zero_testBit]
    cases c : a.testBit i with
    | false => rfl
    | true => rw [h i c]; rfl
theorem ndf_set {m n : Nat} : (ndf m (2 ^ n - 1) = 0) = (m < 2 ^ n) := by
  rw [ndf_iff]
  apply propext
  constructor
  · intro h
    apply Nat.lt_pow_two_of_testBit
    intro i hi
    cases c : m.testBit i with
    | false => rfl
    | true =>
      have := h i c
      rw [p2m1_testBit, decide_eq_true_eq] at this
      omega
  · intro h i hi
    rw [p2m1_testBit, decide_eq_true_eq]
    by_cases c : i < n
    · exact c
    · rw [Nat.testBit_lt_two_pow (Nat.lt_of_lt_of_le h (p2le (by omega)))] at hi
      exact absurd hi (by decide)
theorem sub_le {a b : Nat} (h : ndf a b = 0) : a ≤ b := by
  have e : a &&& b = a := by
    apply Nat.eq_of_testBit_eq
    intro i
    rw [Nat.testBit_and]
    cases c : a.testBit i with
    | false => rfl
    | true => rw [ndf_iff.mp h i c]; rfl
  rw [← e]
  exact Nat.and_le_right
theorem k_setT {m : Nat} {Q : Bool → xM → Prop} (L : LR 83 σ u) (ok : okS σ) (hm : m < 2 ^ σ 1 0) (hq : Q true u) : p_X10_isSetOfDoors (nI m) u Q := by
  have := ok.p10
  have e : ndf m (2 ^ σ 1 0 - 1) = 0 := ndf_set.mpr hm
  unfold p_X10_isSetOfDoors
  refine k_all L ok ?_
  rw [bNOT (by omega), e]
  exact ⟨fun c => absurd rfl c, fun _ => hq⟩
theorem k_setF {a : Int32} {Q : Bool → xM → Prop} (L : LR 83 σ u) (ok : okS σ) (hm : ∀ m, m < 2 ^ σ 1 0 → a ≠ nI m) (hq : Q false u) : p_X10_isSetOfDoors a u Q := by
  obtain ⟨m, h1, rfl⟩ := nI_all a
  unfold p_X10_isSetOfDoors
  refine k_all L ok ?_
  rw [bNOT h1, nE0 (Nat.lt_of_le_of_lt (ndf_le _ _) h1), ndf_set]
  exact ⟨fun _ => hq, fun c => absurd rfl (hm m c)⟩
theorem pw64 : ∀ n, n < 11 → (((1 : Int64) <<< ((nI n).toInt64 &&& 63)) - (1 : Int64)).toInt = ((2 ^ n - 1 : Nat) : Int) := by decide +kernel
theorem r_setT {m : Nat} {Q : Bool → xM → Prop} (R : RS σ u) (ok : okS σ) (hm : m < 2 ^ σ 1 0) (hq : Q true u) : p_X11_isSet (nI m) u Q := by
  have := ok.p10
  have h10 := ok.d
  unfold p_X11_isSet
  rw [(r_at l_1 (by decide)).2, R.1.r1]
  exact ⟨(r_at l_1 (by decide)).1, r_fromT (lo := 0) (hi := 2 ^ σ 1 0 - 1) (by decide) (pw64 _ (by omega)) (by omega) (by omega) (by omega) hq⟩
theorem r_setF {a : Int32} {Q : Bool → xM → Prop} (R : RS σ u) (ok : okS σ) (hm : ∀ m, m < 2 ^ σ 1 0 → a ≠ nI m) (hq : Q false u) : p_X11_isSet a u Q := by
  have := ok.p10
  have h10 := ok.d
  have h0 := Nat.two_pow_pos (σ 1 0)
  unfold p_X11_isSet
  rw [(r_at l_1 (by decide)).2, R.1.r1]
  exact ⟨(r_at l_1 (by decide)).1, r_fromF (lo := 0) (hi := 2 ^ σ 1 0 - 1) (by decide) (pw64 _ (by omega)) (fun n _ h2 => hm n (by omega)) (by omega) hq⟩
theorem K_damage (I : INV u) (a : Int32) : p_X10_damage a u (fun r u1 => p_X11_damage a u1 (fun r' u2 => r = r' ∧ INV u2)) := by
  obtain ⟨σ, S, L, ok, R⟩ := I.sp
  have h3 := okS.hour S
  have hp : σ 23 0 = 4095 := S.2.2.2.2.1
  rcases below (a := a) (2 ^ σ 1 0) with ⟨j, hj, rfl⟩ | hj
  · refine pj (pc := p_X10_damage (nI j) u) (pr := p_X11_damage (nI j)) I ok R (nI (allW (hrsB (some j) 12 σ))) 0 (fun Q hq => ?_) (fun u1 c1 R Q hq => ?_)
    · unfold p_X10_damage
      exact k_setT L ok hj ⟨fun z => absurd z (by decide), fun _ => k_damageBy L ok hp h3 hj (fun u2 _ c2 => k_fine hq c2)⟩
    · unfold p_X11_damage
      exact r_setT R ok hj ⟨fun z => absurd z (by decide), fun _ => r_damageOf R ok h3 hj (fun u2 q2 => r_gives hq q2)⟩
  · refine pj (pc := p_X10_damage a u) (pr := p_X11_damage a) I ok R (-1) 1 (fun Q hq => ?_) (fun u1 c1 R Q hq => ?_)
    · unfold p_X10_damage
      exact k_setF L ok hj ⟨fun _ => k_none hq cq.rf, fun z => absurd z (by decide)⟩
    · unfold p_X11_damage
      exact r_setF R ok hj ⟨fun _ => r_refuse hq rq.rf, fun z => absurd z (by decide)⟩
/-! long numbers -/
def LI (z : Int) : Int64 := Int64.ofInt z
theorem LI_toInt {z : Int} (h1 : -9223372036854775808 ≤ z) (h2 : z < 9223372036854775808) : (LI z).toInt = z := Int64.toInt_ofInt_of_le (by omega) (by omega)
theorem LI_of (x : Int64) : x = LI x.toInt := (Int64.ofInt_toInt x).symm
theorem LI_add (a b : Int) : LI a + LI b = LI (a + b) := (Int64.ofInt_add a b).symm
theorem LI_sub (a b : Int) : LI a - LI b = LI (a - b) := (Int64.ofInt_sub a b).symm
theorem LI_mul (a b : Int) : LI a * LI b = LI (a * b) := (Int64.ofInt_mul a b).symm
theorem LI_neg (a : Int) : -LI a = LI (-a) := (Int64.ofInt_neg a).symm
theorem LI_lt {a b : Int} (h1 : -9223372036854775808 ≤ a) (h2 : a < 9223372036854775808) (h3 : -9223372036854775808 ≤ b) (h4 : b < 9223372036854775808) : (LI a < LI b) = (a < b) := by
  rw [Int64.lt_iff_toInt_lt, LI_toInt h1 h2, LI_toInt h3 h4]
theorem LI_le {a b : Int} (h1 : -9223372036854775808 ≤ a) (h2 : a < 9223372036854775808) (h3 : -9223372036854775808 ≤ b) (h4 : b < 9223372036854775808) : (LI a ≤ LI b) = (a ≤ b) := by
  rw [Int64.le_iff_toInt_le, LI_toInt h1 h2, LI_toInt h3 h4]
theorem LI_eq {a b : Int} (h1 : -9223372036854775808 ≤ a) (h2 : a < 9223372036854775808) (h3 : -9223372036854775808 ≤ b) (h4 : b < 9223372036854775808) : (LI a = LI b) = (a = b) := by
  rw [← Int64.toInt_inj, LI_toInt h1 h2, LI_toInt h3 h4]
theorem L_0 : (0 : Int64) = LI 0 := by decide +kernel
theorem L_1 : (1 : Int64) = LI 1 := by decide +kernel
theorem iI_L {z : Int} (h1 : -2147483648 ≤ z) (h2 : z < 2147483648) : (iI z).toInt64 = LI z := by
  rw [← Int64.toInt_inj, Int32.toInt_toInt64, iI_toInt h1 h2, LI_toInt (by omega) (by omega)]
theorem nI_L {n : Nat} (h : n < 2147483648) : (nI n).toInt64 = LI n := by
  rw [nI_iI, iI_L (by omega) (by omega)]
theorem LI_rem {a b : Nat} (ha : a < 9223372036854775808) (hb : b < 9223372036854775808) : LI a - LI a / LI b * LI b = LI ((a % b : Nat) : Int) := by
  have e : LI a / LI b = LI ((a / b : Nat) : Int) := by
    have h := Int64.ofInt_tdiv (a := (a : Int)) (b := (b : Int)) (by rw [show Int64.minValue.toInt = -9223372036854775808 by decide]; omega) (by rw [show Int64.maxValue.toInt = 9223372036854775807 by decide]; omega) (by rw [show Int64.minValue.toInt = -9223372036854775808 by decide]; omega) (by rw [show Int64.maxValue.toInt = 9223372036854775807 by decide]; omega)
    unfold LI
    rw [← h]
    rfl
  rw [e, LI_mul, LI_sub]
  congr 1
  have h := Nat.div_add_mod a b
  rw [Nat.mul_comm] at h
  have h2 : ((a / b : Nat) : Int) * (b : Int) = ((a / b * b : Nat) : Int) := by simp
  rw [h2]
  omega
/-! fractions -/
theorem gcd_st (a b : Nat) : Nat.gcd b (a % b) = Nat.gcd a b := by
  rw [Nat.gcd_comm b (a % b), ← Nat.gcd_rec, Nat.gcd_comm]
theorem k_commonDivisor {a b : Nat} {Q : Int64 → xM → Prop} (ha : a < 9223372036854775808) (hb : b ≤ 900) (hq : Q (LI (Nat.gcd a b : Nat)) u) : p_X10_commonDivisor (LI a) (LI b) u Q := by
  unfold p_X10_commonDivisor
  refine xloop (fun m i (s : Int64 × Int64) => p_X10_commonDivisor_L9 Q m s.1 s.2 (nI i) u) (fun i s => ∃ x y : Nat, s.1 = LI x ∧ s.2 = LI y ∧ x < 9223372036854775808 ∧ y + i ≤ 900 ∧ Nat.gcd x y = Nat.gcd a b) 1000 0 (LI a, LI b) (Nat.zero_le _) ⟨a, b, rfl, rfl, ha, by omega, rfl⟩ ?_ ?_
  · intro m s hs
    obtain ⟨x, y, _, _, _, h, _⟩ := hs
    omega
  · intro m i s _ hi hs k
    obtain ⟨x, y, e1, e2, h1, h2, h3⟩ := hs
    unfold p_X10_commonDivisor_L9
    rw [e1, e2, lg_cmp_eq, L_0, LI_eq (by omega) (by omega) (by omega) (by omega)]
    refine ⟨fun c => absurd c (by rw [l_1000, cLE (by omega) (by omega)]; omega), fun _ => ⟨fun c => ?_, fun c => ⟨c, fun x4 h4 x5 h5 => ?_⟩⟩⟩
    · have c : y = 0 := by omega
      subst c
      rw [Nat.gcd_zero_right] at h3
      rw [h3]
      exact hq
    · rw [l_1, cA] at h5
      subst h5
      rw [LI_rem (by omega) (by omega)] at h4
      have hlt : x % y < y := Nat.mod_lt _ (by omega)
      exact k (LI y, x4) ⟨y, x % y, rfl, h4, by omega, by omega, by rw [gcd_st, h3]⟩
def tT (A : Int) (B : Nat) : Int64 := LI A / LI (Nat.gcd A.natAbs B : Nat)
def tB (A : Int) (B : Nat) : Int64 := LI B / LI (Nat.gcd A.natAbs B : Nat)
theorem LI_abs {A : Int} : (if 0 ≤ A then LI A else -LI A) = LI (A.natAbs : Int) := by
  split
  · congr 1; omega
  · rw [LI_neg]; congr 1; omega
theorem k_tell {A : Int} {B : Nat} {Q : xM → Prop} (h1 : -4611686018427387904 ≤ A) (h2 : A ≤ 4611686018427387904) (b1 : 1 ≤ B) (b2 : B ≤ 900) (hq : Q (sl (sl u 0 15 (tT A B)) 0 16 (tB A B))) : p_X10_tellFraction (LI A) (LI B) u Q := by
  have g0 : 0 < Nat.gcd A.natAbs B := Nat.gcd_pos_of_pos_right _ b1
  have g1 : Nat.gcd A.natAbs B ≤ B := Nat.gcd_le_right _ b1
  have main : p_X10_tellFraction_L12 Q (LI A) (LI B) (LI (A.natAbs : Int)) u := by
    unfold p_X10_tellFraction_L12
    refine k_commonDivisor (by omega) b2 ?_
    rw [lg_cmp_ge, L_1, LI_le (by omega) (by omega) (by omega) (by omega)]
    refine ⟨fun _ => ?_, fun c => absurd (by omega) c⟩
    unfold p_X10_tellFraction_L28
    have z : ¬ LI (Nat.gcd A.natAbs B : Nat) = 0 := by
      rw [L_0, LI_eq (by omega) (by omega) (by omega) (by omega)]
      omega
    refine ⟨z, fun u2 e2 => ⟨z, fun u4 e4 => ?_⟩⟩
    subst e2
    subst e4
    exact hq
  unfold p_X10_tellFraction
  rw [lg_cmp_ge, L_0, LI_le (by omega) (by omega) (by omega) (by omega)]
  refine ⟨fun c => ?_, fun c => ?_⟩
  · have e : LI (A.natAbs : Int) = LI A := by congr 1; omega
    rw [e] at main
    exact main
  · have e : LI (A.natAbs : Int) = -LI A := by rw [LI_neg]; congr 1; omega
    rw [e] at main
    exact main
theorem r_tell {A : Int} {B : Nat} {Q : Bool → xM → Prop} (h1 : -4611686018427387904 ≤ A) (h2 : A ≤ 4611686018427387904) (b1 : 1 ≤ B) (b2 : B ≤ 900) (hq : Q true (si (sl (sl u 272 3 (tT A B)) 272 4 (tB A B)) 272 2 0)) : p_X11_tellsBy (LI A) (LI B) u Q := by
  have g0 : 0 < Nat.gcd A.natAbs B := Nat.gcd_pos_of_pos_right _ b1
  have g1 : Nat.gcd A.natAbs B ≤ B := Nat.gcd_le_right _ b1
  unfold p_X11_tellsBy
  intro x1 e1
  have e1 : x1 = LI (A.natAbs : Int) := by
    have el : (LI 0 < LI A) = (0 < A) := LI_lt (by omega) (by omega) (by omega) (by omega)
    rw [e1, L_0]
    by_cases c : 0 < A
    · rw [if_pos (by rw [el]; exact c)]; congr 1; omega
    · rw [if_neg (by rw [el]; exact c), LI_neg]; congr 1; omega
  subst e1
  refine xloop (fun m _ (s : Int64 × Int64) => p_X11_tellsBy_L9 Q m (LI A) (LI B) s.1 s.2 u) (fun i s => ∃ x y : Nat, s.1 = LI x ∧ s.2 = LI y ∧ x < 9223372036854775808 ∧ y + i ≤ 900 ∧ Nat.gcd x y = Nat.gcd A.natAbs B) 1000 0 (LI (A.natAbs : Int), LI B) (Nat.zero_le _) ⟨A.natAbs, B, rfl, rfl, by omega, by omega, rfl⟩ ?_ ?_
  · intro m s hs
    obtain ⟨x, y, _, _, _, h, _⟩ := hs
    omega
  · intro m i s _ hi hs k
    obtain ⟨x, y, e1, e2, h1, h2, h3⟩ := hs
    unfold p_X11_tellsBy_L9
    rw [e1, e2, lg_cmp_eq, L_0, LI_eq (by omega) (by omega) (by omega) (by omega), LI_eq (by omega) (by omega) (by omega) (by omega)]
    refine ⟨fun c => ?_, fun c => ⟨c, fun x4 h4 => ?_⟩⟩
    · have c : y = 0 := by omega
      subst c
      rw [Nat.gcd_zero_right] at h3
      rw [h3]
      refine ⟨by omega, fun u3 e3 => ⟨by omega, fun u5 e5 u6 e6 => ⟨fun z => absurd rfl z, fun _ => ?_⟩⟩⟩
      subst e3
      subst e5
      subst e6
      exact hq
    · rw [LI_rem (by omega) (by omega)] at h4
      have hlt : x % y < y := Nat.mod_lt _ (by omega)
      exact k (LI y, x4) ⟨y, x % y, rfl, h4, by omega, by omega, by rw [gcd_st, h3]⟩
theorem INV.upT (h : INV u) (hi : ∀ k i, cellJ k i → gi u' k i = gi u k i) (hl : ∀ k i, cellM k i → ¬ (k = 0 ∨ k = 272) → gl u' k i = gl u k i) (hs : gi u' 0 14 = gi u' 272 2) (ht : gl u' 0 15 = gl u' 272 3) (hb : gl u' 0 16 = gl u' 272 4) (hsl : ∃ σ, SLT σ 83 58 0 0 u') : INV u' := by
  refine ⟨hs, ht, hb, ?_, ?_, ?_, fun t ht4 => ?_, ?_, ?_, ?_, ?_, ?_⟩
  · rw [hi _ _ (by unfold cellJ; omega), hi _ _ (by unfold cellJ; omega)]; exact h.fk
  · rw [hi _ _ (by unfold cellJ; omega), hi _ _ (by unfold cellJ; omega)]; exact h.fp
  · obtain ⟨n, h1, h2, h3, h4⟩ := h.tap
    refine ⟨n, h1, ?_, ?_, fun i hn => ?_⟩
    · rw [hi _ _ (by unfold cellJ; omega)]; exact h2
    · rw [hi _ _ (by unfold cellJ; omega)]; exact h3
    · rw [hi 4 i (by unfold cellJ; omega), hi 278 i (by unfold cellJ; omega)]; exact h4 i hn
  · obtain ⟨s, h1, h2, h3, h4⟩ := h.tra t ht4
    refine ⟨s, h1, ?_, ?_, ?_⟩
    · rw [hi _ _ (by unfold cellJ; omega)]; exact h2
    · rw [hi _ _ (by unfold cellJ; omega)]; exact h3
    · rw [hi _ _ (by unfold cellJ; omega), hi _ _ (by unfold cellJ; omega)]
      rcases h4 with h4 | ⟨m, m1, m2, m3, m4⟩
      · exact Or.inl h4
      · refine Or.inr ⟨m, m1, m2, m3, fun i hm => ?_⟩
        rw [hl _ _ (by unfold cellM; omega) (by omega), hl _ _ (by unfold cellM; omega) (by omega)]
        exact m4 i hm
  · rcases h.lvd with ⟨h1, h2⟩ | ⟨h1, h2, h3⟩
    · refine Or.inl ⟨?_, ?_⟩
      · rw [hi _ _ (by unfold cellJ; omega)]; exact h1
      · rw [hi _ _ (by unfold cellJ; omega)]; exact h2
    · refine Or.inr ⟨?_, ?_, fun i h5 => ?_⟩
      · rw [hi _ _ (by unfold cellJ; omega)]; exact h1
      · rw [hi _ _ (by unfold cellJ; omega)]; exact h2
      · rw [hi _ _ (by unfold cellJ; omega), hi 289 _ (by unfold cellJ; omega)]; exact h3 i h5
  · obtain ⟨h1, h2, h3⟩ := h.wrd
    refine ⟨?_, ?_, fun i hn => ?_⟩
    · rw [hi _ _ (by unfold cellJ; omega)]; exact h1
    · rw [hi _ _ (by unfold cellJ; omega)]; exact h2
    · rw [hl _ _ (by unfold cellM; omega) (by omega), hl _ _ (by unfold cellM; omega) (by omega)]; exact h3 i hn
  · obtain ⟨h1, h2, h3⟩ := h.md
    refine ⟨?_, ?_, ?_⟩
    · rw [hi _ _ (by unfold cellJ; omega)]; exact h1
    · rw [hi _ _ (by unfold cellJ; omega)]; exact h2
    · rw [hi _ _ (by unfold cellJ; omega)]; exact h3
  · obtain ⟨n, h1, h2, h3, h4⟩ := h.mks
    refine ⟨n, h1, ?_, ?_, fun j hj => ?_⟩
    · rw [hi _ _ (by unfold cellJ; omega)]; exact h2
    · rw [hi _ _ (by unfold cellJ; omega)]; exact h3
    · obtain ⟨σ, hσ⟩ := h4 j hj
      exact ⟨σ, hσ.cg (fun k i a1 a2 => hi k i (by unfold cellJ; omega)) (fun k i a1 a2 => hi k i (by unfold cellJ; omega)) (fun i a1 a2 => hi 273 i (by unfold cellJ; omega)) (fun k i a1 => hl k i (by unfold cellM; omega) (by omega)) (fun i a1 a2 => hl 274 i (by unfold cellM; omega) (by omega))⟩
  · exact hsl

theorem cJI {k i : Nat} (h : cellJ k i) : cellI k i := by
  unfold cellJ at h
  unfold cellI
  rcases h with h | h | h | h | h | h | h | h | h | h | h | h | h <;> omega
theorem cML {k i : Nat} (h : cellM k i) : cellL k i := by
  unfold cellM at h
  unfold cellL
  rcases h with h | h | h | h | h | h | h | h <;> omega
/-- a question that tells a fraction -/
theorem pjT {pc : (Bool → xM → Prop) → Prop} {pr : xM → (Bool → xM → Prop) → Prop} (I : INV u) (ok : okS σ) (hR : RS σ u) (t b : Int64) (hc : ∀ Q, (∀ u', cq u u' → Q true (si (sl (sl u' 0 15 t) 0 16 b) 0 14 0)) → pc Q) (hr : ∀ u1, RS σ u1 → ∀ Q, (∀ u', rq u1 u' → Q true (si (sl (sl u' 272 3 t) 272 4 b) 272 2 0)) → pr u1 Q) : pc (fun r u1 => pr u1 (fun r' u2 => r = r' ∧ INV u2)) := by
  refine hc _ (fun u1 c1 => hr _ ?_ _ (fun u2 c2 => ⟨rfl, ?_⟩))
  · have h := hR.cq ok c1
    exact ⟨h.1.cg ok.r ok.d ok.e (fun i _ _ => by rw [gi_si, if_neg (by omega), gi_sl, gi_sl]), h.2.1.cg (by rw [gi_si, if_neg (by omega), gi_sl, gi_sl]) (by rw [gi_si, if_neg (by omega), gi_sl, gi_sl]), Eq.trans (by rw [gi_si, if_neg (by omega), gi_sl, gi_sl]) h.2.2⟩
  · have ei : ∀ k i, cellI k i → gi (si (sl (sl u2 272 3 t) 272 4 b) 272 2 0) k i = gi u k i := fun k i hk => by
      unfold cellI at hk
      have a1 : ¬ (k = 272 ∧ i = 2) := by omega
      have a2 : ¬ (k = 0 ∧ i = 14) := by omega
      have a3 := c2.1 k i (by omega)
      have a4 := c1.1 k i (by omega)
      clear hk
      rw [gi_si, if_neg a1, gi_sl, gi_sl, a3, gi_si, if_neg a2, gi_sl, gi_sl, a4]
    have el : ∀ k i, cellL k i → ¬ (k = 0 ∨ k = 272) → gl (si (sl (sl u2 272 3 t) 272 4 b) 272 2 0) k i = gl u k i := fun k i hk hn => by
      unfold cellL at hk
      have k1 : k ≠ 0 := by omega
      have k2 : k ≠ 272 := by omega
      have a3 := c2.2 k i (by omega)
      have a4 := c1.2 k i (by omega)
      clear hk
      rw [gl_si, gl_sl, if_neg (fun z => k2 z.1), gl_sl, if_neg (fun z => k2 z.1), a3, gl_si, gl_sl, if_neg (fun z => k1 z.1), gl_sl, if_neg (fun z => k1 z.1), a4]
    refine I.upT (fun k i hk => ei k i (cJI hk)) (fun k i hk hn => el k i (cML hk) hn) ?_ ?_ ?_ ?_
    · rw [gi_at, gi_si, if_neg (by omega), gi_sl, gi_sl, c2.1 0 14 (by omega), gi_at]
    · rw [gl_si, gl_sl, if_neg (by omega), gl_sl, if_neg (by omega), c2.2 0 15 (by omega), gl_si, gl_sl, if_neg (by omega), gl_sl, if_pos ⟨rfl, rfl⟩, gl_si, gl_sl, if_neg (by omega), gl_sl, if_pos ⟨rfl, rfl⟩]
    · rw [gl_si, gl_sl, if_neg (by omega), gl_sl, if_neg (by omega), c2.2 0 16 (by omega), gl_si, gl_sl, if_pos ⟨rfl, rfl⟩, gl_si, gl_sl, if_pos ⟨rfl, rfl⟩]
    · obtain ⟨ρ, hρ⟩ := I.sl
      exact ⟨ρ, hρ.cg (fun k i a1 a2 => ei k i (by unfold cellI; omega)) (fun k i a1 a2 => ei k i (by unfold cellI; omega)) (fun i a1 a2 => ei 273 i (by unfold cellI; omega)) (fun k i a1 => el k i (by unfold cellL; omega) (by omega)) (fun i a1 a2 => el 274 i (by unfold cellL; omega) (by omega))⟩
/-! guilt -/
theorem sumN_split {f g h : Nat → Nat} (e : ∀ i, f i = g i + h i) (n : Nat) : sumN f n = sumN g n + sumN h n := by
  induction n with
  | zero => rfl
  | succ n ih =>
    have e1 : ∀ w : Nat → Nat, sumN w (n + 1) = sumN w n + w n := fun _ => rfl
    rw [e1, e1, e1, ih, e]
    omega
theorem pop_split {m a : Nat} (h : ndf a m = 0) : pop m = pop a + pop (ndf m a) := by
  unfold pop
  refine sumN_split (fun i => ?_) 12
  have h1 := ndf_iff.mp h i
  unfold bitN
  rw [ndf_testBit]
  cases c : a.testBit i with
  | false => simp
  | true => rw [h1 c]; simp
theorem pop_p2 : ∀ d, d < 12 → pop (2 ^ d) = 1 := by decide +kernel
theorem p2_sub {m d : Nat} (h : m.testBit d = true) : ndf (2 ^ d) m = 0 := ndf_iff.mpr (fun i hi => by
  rw [Nat.testBit_two_pow, decide_eq_true_eq] at hi
  rw [← hi]; exact h)
def fac : Nat → Nat
  | 0 => 1
  | n + 1 => fac n * (n + 1)
theorem fac_all : ∀ k, k < 6 → 1 ≤ fac k ∧ fac k ≤ 120 ∧ x_ord k = nI (fac k) := by decide +kernel
theorem r_orders {k : Nat} {Q : Int64 → xM → Prop} (hk : k ≤ 5) (hq : Q (LI (fac k)) u) : p_X11_orders (nI k) u Q := by
  unfold p_X11_orders
  refine xloop (fun m i (s : Int64) => p_X11_orders_L4 Q m (nI k) s (nI i) u) (fun i s => s = LI (fac (i - 1))) (max 2 (k + 1)) 2 (1 : Int64) (by omega) (by decide +kernel) ?_ ?_
  · intro m s hs
    unfold p_X11_orders_L4
    have e : fac (max 2 (k + 1) - 1) = fac k := by
      by_cases c : k = 0
      · subst c; decide
      · congr 1; omega
    rw [hs, e]
    exact ⟨fun _ => hq, fun c => absurd (by rw [cLT (by omega) (by omega)]; omega) c⟩
  · intro m i s h2 hi hs kk
    unfold p_X11_orders_L4
    refine ⟨fun c => absurd c (by rw [cLT (by omega) (by omega)]; omega), fun _ x2 e2 x3 e3 => ?_⟩
    rw [l_1, cA] at e3
    subst e3
    refine kk x2 ?_
    rw [e2, hs, nI_L (by omega), LI_mul]
    congr 1
    obtain ⟨j, rfl⟩ : ∃ j, i = j + 1 := ⟨i - 1, by omega⟩
    rw [Nat.add_sub_cancel, Nat.add_sub_cancel]
    show (_ : Int) = ((fac j * (j + 1) : Nat) : Int)
    rw [Int.natCast_mul]
theorem k_ordersOf {m : Nat} {Q : Int32 → xM → Prop} (hm : m < 4096) (h5 : pop m ≤ 5) (hq : Q (nI (fac (pop m))) u) : p_X6_ordersOf (nI m) u Q := by
  unfold p_X6_ordersOf
  refine k_bitCount hm ?_
  rw [show (Int32.ofNat 6) = nI 6 from rfl, cCL (by omega), (fac_all _ (by omega)).2.2]
  exact ⟨fun c => absurd c (by rw [cLE (by omega) (by omega)]; omega), fun _ => ⟨cIN (by omega) (by decide), hq⟩⟩
def sumI (t : Nat → Int) : Nat → Int
  | 0 => 0
  | n + 1 => sumI t n + t n
theorem sumI_b {t : Nat → Int} (h : ∀ i, (t i).natAbs ≤ 1100000000) (n : Nat) : (sumI t n).natAbs ≤ 1100000000 * n := by
  induction n with
  | zero => show (0 : Int).natAbs ≤ 1100000000 * 0; decide
  | succ n ih =>
    have e : sumI t (n + 1) = sumI t n + t n := rfl
    have := h n
    rw [e]
    omega
theorem sumI_r {t : Nat → Int} (h : ∀ i, (t i).natAbs ≤ 1100000000) {n : Nat} (hn : n ≤ 1024) : -4611686018427387904 ≤ sumI t n ∧ sumI t n ≤ 4611686018427387904 := by
  have := sumI_b h n
  omega
theorem sumI_ext {t : Nat → Int} {a : Nat} (h : ∀ i, a ≤ i → t i = 0) (n : Nat) : sumI t (a + n) = sumI t a := by
  induction n with
  | zero => rfl
  | succ n ih =>
    have e : sumI t (a + n + 1) = sumI t (a + n) + t (a + n) := rfl
    rw [← Nat.add_assoc, e, ih, h _ (by omega)]
    omega
/-- what a set ahead of the door brings -/
def tG (W : Nat → Nat) (d oth S : Nat) : Int := if ndf S oth = 0 then (fac (pop S) : Int) * (fac (pop (ndf oth S)) : Int) * ((W (S ||| 2 ^ d) : Int) - (W S : Int)) else 0
theorem tG_b {W : Nat → Nat} {d oth : Nat} (hW : ∀ S, W S ≤ 69993) (h5 : pop oth ≤ 5) (S : Nat) : (tG W d oth S).natAbs ≤ 1100000000 := by
  unfold tG
  split
  · rename_i h
    have hs := pop_split h
    have f1 := fac_all (pop S) (by omega)
    have f2 := fac_all (pop (ndf oth S)) (by omega)
    have w1 := hW S
    have w2 := hW (S ||| 2 ^ d)
    rw [Int.natAbs_mul, Int.natAbs_mul, Int.natAbs_natCast, Int.natAbs_natCast]
    have a1 := Nat.mul_le_mul (Nat.mul_le_mul f1.2.1 f2.2.1) (show ((W (S ||| 2 ^ d) : Int) - (W S : Int)).natAbs ≤ 69993 by omega)
    exact Nat.le_trans a1 (by decide)
  · decide
theorem oth_iff {m d S : Nat} : (ndf S (ndf m (2 ^ d)) = 0) = (ndf S m = 0 ∧ S.testBit d = false) := by
  rw [ndf_iff, ndf_iff]
  apply propext
  constructor
  · intro h
    refine ⟨fun i hi => ?_, ?_⟩
    · have := h i hi
      rw [ndf_testBit] at this
      cases c : m.testBit i with
      | true => rfl
      | false => rw [c] at this; exact absurd this (by simp)
    · cases c : S.testBit d with
      | false => rfl
      | true =>
        have := h d c
        rw [ndf_testBit, Nat.testBit_two_pow_self] at this
        simp at this
  · rintro ⟨h1, h2⟩ i hi
    rw [ndf_testBit, h1 i hi, Nat.testBit_two_pow]
    by_cases e : d = i
    · subst e
      rw [h2] at hi
      exact absurd hi (by decide)
    · simp [e]
theorem k_share {d m : Nat} {Q : Int64 → xM → Prop} {W : Nat → Nat} (hW : ∀ S, allW (hrsB (some S) 12 σ) = W S) (L : LR 83 σ u) (ok : okS σ) (hp : σ 23 0 = 4095) (h3 : σ 3 0 ≤ 9999) (hd : d < σ 1 0) (hm : m < 2 ^ σ 1 0) (h5 : pop (ndf m (2 ^ d)) ≤ 5) (hq : ∀ u', LR 83 σ u' → cq u u' → Q (LI (sumI (tG W d (ndf m (2 ^ d))) (ndf m (2 ^ d) + 1))) u') : p_X6_shareOfOrders 83 (nI d) (nI m) u Q := by
  have h10 := ok.d
  have p10 := ok.p10
  have hoth := ndf_le m (2 ^ d)
  have hWb : ∀ S, W S ≤ 69993 := fun S => by
    rw [← hW S]
    exact allW_le (hrsB_ok (md := some S) ok 12 (by omega))
  unfold p_X6_shareOfOrders
  intro x1 e1
  rw [bPOW (by omega), bNOT (by omega)] at e1
  subst e1
  generalize ho : ndf m (2 ^ d) = oth at *
  refine xloop (fun k i (s : Int64 × xM) => p_X6_shareOfOrders_L15 83 Q k (nI d) (nI oth) s.1 (nI i) s.2) (fun i s => s.1 = LI (sumI (tG W d oth) i) ∧ LR 83 σ s.2 ∧ cq u s.2) (oth + 1) 0 (0, u) (Nat.zero_le _) ⟨L_0, L, cq.rf⟩ ?_ ?_
  · intro k s hs
    unfold p_X6_shareOfOrders_L15
    rw [hs.1]
    exact ⟨fun _ => hq _ hs.2.1 hs.2.2, fun c => absurd (by rw [cLT (by omega) (by omega)]; omega) c⟩
  · intro k i s _ hi hs kk
    unfold p_X6_shareOfOrders_L15
    have es : sumI (tG W d oth) (i + 1) = sumI (tG W d oth) i + tG W d oth i := rfl
    rw [bNOT (by omega), cE0 (Nat.lt_of_le_of_lt (ndf_le _ _) (by omega))]
    refine ⟨fun c => absurd c (by rw [cLT (by omega) (by omega)]; omega), fun _ => ⟨fun c x3 e3 => ?_, fun c => ?_⟩⟩
    · rw [l_1, cA] at e3
      subst e3
      refine kk (s.1, s.2) ⟨?_, hs.2.1, hs.2.2⟩
      rw [es, hs.1, tG, if_neg c, Int.add_zero]
    · have hsp := pop_split c
      have hle := ndf_le oth i
      refine k_ordersOf (by omega) (by omega) ?_
      rw [bNOT (by omega)]
      refine k_ordersOf (by omega) (by omega) (fun x8 e8 => ?_)
      rw [bPOW (by omega), bOR]
      refine k_damageBy hs.2.1 ok hp h3 (or_lt2 (by omega) (p2lt hd)) (fun u9 L9 c9 => k_damageBy L9 ok hp h3 (by omega) (fun u11 L11 c11 x13 e13 x14 e14 => ?_))
      rw [l_1, cA] at e14
      subst e14
      refine kk (x13, u11) ⟨?_, L11, (hs.2.2.tr c9).tr c11⟩
      have f1 := fac_all (pop i) (by omega)
      have f2 := fac_all (pop (ndf oth i)) (by omega)
      have w1 := hWb i
      have w2 := hWb (i ||| 2 ^ d)
      rw [e13, e8, hs.1, hW, hW, nI_L (by omega), nI_L (by omega), LI_mul, nI_iI (W (i ||| 2 ^ d)), nI_iI (W i), iI_sub, iI_L (by omega) (by omega), LI_mul, LI_add, es, tG, if_pos c]
theorem K_guilt (I : INV u) (a b : Int32) : p_X10_guilt a b u (fun r u1 => p_X11_guilt a b u1 (fun r' u2 => r = r' ∧ INV u2)) := by
  obtain ⟨σ, S, L, ok, R⟩ := I.sp
  have h3 := okS.hour S
  have hp : σ 23 0 = 4095 := S.2.2.2.2.1
  have h10 := ok.d
  have p10 := ok.p10
  rcases below (a := a) (σ 1 0) with ⟨d, hd, rfl⟩ | hd
  · rcases below (a := b) (2 ^ σ 1 0) with ⟨m, hm, rfl⟩ | hm
    · by_cases ht : m.testBit d = true
      · by_cases h5 : pop m ≤ 5
        · have hsp : pop m = 1 + pop (ndf m (2 ^ d)) := by rw [pop_split (p2_sub ht), pop_p2 d (by omega)]
          have hoth := ndf_le m (2 ^ d)
          generalize hWd : (fun S => allW (hrsB (some S) 12 σ)) = W
          have hW : ∀ S, allW (hrsB (some S) 12 σ) = W S := fun S => by rw [← hWd]
          have hWb : ∀ S, W S ≤ 69993 := fun S => by
            rw [← hW S]
            exact allW_le (hrsB_ok (md := some S) ok 12 (by omega))
          have hb := sumI_r (tG_b (W := W) (d := d) (oth := ndf m (2 ^ d)) hWb (by omega)) (show ndf m (2 ^ d) + 1 ≤ 1024 by omega)
          have hf := fac_all (pop m) (by omega)
          have hse : sumI (tG W d (ndf m (2 ^ d))) (m + 1) = sumI (tG W d (ndf m (2 ^ d))) (ndf m (2 ^ d) + 1) := by
            have := sumI_ext (t := tG W d (ndf m (2 ^ d))) (a := ndf m (2 ^ d) + 1) (fun i hi => by
              rw [tG, if_neg (fun z => by have := sub_le z; omega)]) (m - ndf m (2 ^ d))
            rw [← this]
            congr 1
            omega
          refine pjT (pc := p_X10_guilt (nI d) (nI m) u) (pr := p_X11_guilt (nI d) (nI m)) I ok R (tT (sumI (tG W d (ndf m (2 ^ d))) (ndf m (2 ^ d) + 1)) (fac (pop m))) (tB (sumI (tG W d (ndf m (2 ^ d))) (ndf m (2 ^ d) + 1)) (fac (pop m))) (fun Q hq => ?_) (fun u1 R Q hq => ?_)
          · unfold p_X10_guilt
            refine k_isDoorT L ok hd ⟨fun z => absurd z (by decide), fun _ => k_setT L ok hm ⟨fun z => absurd z (by decide), fun _ => ?_⟩⟩
            refine ⟨fun z => ?_, fun _ => k_bitCount (by omega) ⟨fun _ => ?_, fun z => absurd (by rw [l_5, cLE (by omega) (by omega)]; exact h5) z⟩⟩
            · have e := bTST (m := m) (d := d) (by omega) (by omega)
              rw [z] at e
              exact absurd (e.mpr ht) (by decide)
            · refine k_share hW L ok hp h3 hd hm (by omega) (fun u2 L2 c2 => k_ordersOf (by omega) h5 ?_)
              rw [nI_L (by omega)]
              exact k_tell hb.1 hb.2 hf.1 (by omega) (fun u9 e9 => by rw [e9]; exact hq u2 c2)
          · unfold p_X11_guilt
            refine r_isDoorT R ok hd ⟨fun z => absurd z (by decide), fun _ => r_setT R ok hm ⟨fun z => absurd z (by decide), fun _ => r_isIn (by omega) (by omega) ?_⟩⟩
            rw [ht]
            refine ⟨fun z => absurd z (by decide), fun _ => r_bits (by omega) ⟨fun _ => r_bits (by omega) ?_, fun z => absurd (by rw [l_5, cLE (by omega) (by omega)]; exact h5) z⟩⟩
            refine xloop (fun k i (s : Int64 × xM) => p_X11_guilt_L50 Q k (nI d) (nI m) (nI (pop m)) s.1 (nI i) s.2) (fun i s => s.1 = LI (sumI (tG W d (ndf m (2 ^ d))) i) ∧ RS σ s.2 ∧ rq u1 s.2) (m + 1) 0 (0, u1) (Nat.zero_le _) ⟨L_0, R, rq.rf⟩ ?_ ?_
            · intro k s hs
              unfold p_X11_guilt_L50
              refine ⟨fun _ => r_orders h5 ?_, fun c => absurd (by rw [cLT (by omega) (by omega)]; omega) c⟩
              rw [hs.1, hse]
              exact r_tell hb.1 hb.2 hf.1 (by omega) (hq s.2 hs.2.2)
            · intro k i s _ hi hs kk
              unfold p_X11_guilt_L50
              have es : sumI (tG W d (ndf m (2 ^ d))) (i + 1) = sumI (tG W d (ndf m (2 ^ d))) i + tG W d (ndf m (2 ^ d)) i := rfl
              rw [bNOT (by omega), cE0 (Nat.lt_of_le_of_lt (ndf_le _ _) (by omega))]
              refine ⟨fun c => absurd c (by rw [cLT (by omega) (by omega)]; omega), fun _ => ⟨fun c x3 e3 => ?_, fun c => r_isIn (by omega) (by omega) ⟨fun c2 x11 e11 => ?_, fun c2 => ?_⟩⟩⟩
              · rw [l_1, cA] at e3
                subst e3
                refine kk (s.1, s.2) ⟨?_, hs.2.1, hs.2.2⟩
                rw [es, hs.1, tG, if_neg (by rw [oth_iff]; exact fun z => c z.1), Int.add_zero]
              · rw [l_1, cA] at e11
                subst e11
                refine kk (s.1, s.2) ⟨?_, hs.2.1, hs.2.2⟩
                rw [es, hs.1, tG, if_neg (by rw [oth_iff, c2]; exact fun z => absurd z.2 (by decide)), Int.add_zero]
              · have co : ndf i (ndf m (2 ^ d)) = 0 := by rw [oth_iff]; exact ⟨c, c2⟩
                have hs2 := pop_split co
                refine r_bits (by omega) (r_orders (by omega) (r_bits (by omega) ?_))
                rw [cS (by omega), l_1, cS (by omega), show pop m - pop i - 1 = pop (ndf (ndf m (2 ^ d)) i) by omega]
                refine r_orders (by omega) ?_
                rw [← l_1, bPOW (by omega), bOR]
                refine r_damageOf hs.2.1 ok h3 (or_lt2 (by omega) (p2lt hd)) (fun u20 q20 => r_damageOf (hs.2.1.rq ok q20) ok h3 (by omega) (fun u22 q22 x24 e24 x25 e25 => ?_))
                rw [l_1, cA] at e25
                subst e25
                refine kk (x24, u22) ⟨?_, (hs.2.1.rq ok q20).rq ok q22, (hs.2.2.tr q20).tr q22⟩
                have w1 := hWb i
                have w2 := hWb (i ||| 2 ^ d)
                rw [e24, hs.1, hW, hW, LI_mul, nI_iI (W (i ||| 2 ^ d)), nI_iI (W i), iI_sub, iI_L (by omega) (by omega), LI_mul, LI_add, es, tG, if_pos co]
        · refine pj (pc := p_X10_guilt (nI d) (nI m) u) (pr := p_X11_guilt (nI d) (nI m)) I ok R false 1 (fun Q hq => ?_) (fun u1 c1 R Q hq => ?_)
          · unfold p_X10_guilt
            refine k_isDoorT L ok hd ⟨fun z => absurd z (by decide), fun _ => k_setT L ok hm ⟨fun z => absurd z (by decide), fun _ => ?_⟩⟩
            exact ⟨fun _ => k_refused hq cq.rf, fun _ => k_bitCount (by omega) ⟨fun z => absurd z (by rw [l_5, cLE (by have := pop_le m; omega) (by omega)]; exact h5), fun _ => k_refused hq cq.rf⟩⟩
          · unfold p_X11_guilt
            refine r_isDoorT R ok hd ⟨fun z => absurd z (by decide), fun _ => r_setT R ok hm ⟨fun z => absurd z (by decide), fun _ => r_isIn (by omega) (by omega) ?_⟩⟩
            rw [ht]
            exact ⟨fun z => absurd z (by decide), fun _ => r_bits (by omega) ⟨fun z => absurd z (by rw [l_5, cLE (by have := pop_le m; omega) (by omega)]; exact h5), fun _ => r_isF (by decide) hq rq.rf⟩⟩
      · refine pj (pc := p_X10_guilt (nI d) (nI m) u) (pr := p_X11_guilt (nI d) (nI m)) I ok R false 1 (fun Q hq => ?_) (fun u1 c1 R Q hq => ?_)
        · unfold p_X10_guilt
          refine k_isDoorT L ok hd ⟨fun z => absurd z (by decide), fun _ => k_setT L ok hm ⟨fun z => absurd z (by decide), fun _ => ?_⟩⟩
          refine ⟨fun _ => k_refused hq cq.rf, fun z => ?_⟩
          have e := bTST (m := m) (d := d) (by omega) (by omega)
          rw [bSHR (by omega) (by omega), bAND1] at e z
          have h2 : m >>> d % 2 < 2 := Nat.mod_lt _ (by omega)
          have z1 : nI (m >>> d % 2) = 1 := by
            rw [l_1]
            congr 1
            have : ¬ m >>> d % 2 = 0 := fun z0 => z (by rw [z0]; rfl)
            omega
          exact absurd (e.mp z1) ht
        · unfold p_X11_guilt
          refine r_isDoorT R ok hd ⟨fun z => absurd z (by decide), fun _ => r_setT R ok hm ⟨fun z => absurd z (by decide), fun _ => r_isIn (by omega) (by omega) ?_⟩⟩
          rw [Bool.not_eq_true] at ht
          rw [ht]
          exact ⟨fun _ => r_isF (by decide) hq rq.rf, fun z => absurd z (by decide)⟩
    · refine pj (pc := p_X10_guilt (nI d) b u) (pr := p_X11_guilt (nI d) b) I ok R false 1 (fun Q hq => ?_) (fun u1 c1 R Q hq => ?_)
      · unfold p_X10_guilt
        exact k_isDoorT L ok hd ⟨fun z => absurd z (by decide), fun _ => k_setF L ok hm ⟨fun _ => k_refused hq cq.rf, fun z => absurd z (by decide)⟩⟩
      · unfold p_X11_guilt
        exact r_isDoorT R ok hd ⟨fun z => absurd z (by decide), fun _ => r_setF R ok hm ⟨fun _ => r_isF (by decide) hq rq.rf, fun z => absurd z (by decide)⟩⟩
  · refine pj (pc := p_X10_guilt a b u) (pr := p_X11_guilt a b) I ok R false 1 (fun Q hq => ?_) (fun u1 c1 R Q hq => ?_)
    · unfold p_X10_guilt
      exact k_isDoorF L ok hd ⟨fun _ => k_refused hq cq.rf, fun z => absurd z (by decide)⟩
    · unfold p_X11_guilt
      exact r_isDoorF R ok hd ⟨fun _ => r_isF (by decide) hq rq.rf, fun z => absurd z (by decide)⟩
end SETS
