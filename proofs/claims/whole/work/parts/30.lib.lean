/-! ===== the pure level: memory, numbers, loops ===== -/
theorem gi_si (u : xM) (k i : Nat) (v : Int32) (k' i' : Nat) : gi (si u k i v) k' i' = if k' = k ∧ i' = i then v else gi u k' i' := by
  unfold gi si
  by_cases h : k' = k
  · subst h
    by_cases h2 : i' = i
    · simp [upd, h2]
    · simp [upd, h2]
  · simp [h]
theorem gl_si (u : xM) (k i : Nat) (v : Int32) (k' i' : Nat) : gl (si u k i v) k' i' = gl u k' i' := rfl
theorem gi_sl (u : xM) (k i : Nat) (v : Int64) (k' i' : Nat) : gi (sl u k i v) k' i' = gi u k' i' := rfl
theorem gl_sl (u : xM) (k i : Nat) (v : Int64) (k' i' : Nat) : gl (sl u k i v) k' i' = if k' = k ∧ i' = i then v else gl u k' i' := by
  unfold gl sl
  by_cases h : k' = k
  · subst h
    by_cases h2 : i' = i
    · simp [vp_updL, h2]
    · simp [vp_updL, h2]
  · simp [h]
theorem gi_cpi (u : xM) (k0 sp k1 dp n k i : Nat) : gi (cpi u k0 sp k1 dp n) k i = if k = k1 ∧ dp ≤ i ∧ i < dp + n then gi u k0 (sp + (i - dp)) else gi u k i := by
  unfold gi cpi
  by_cases h : k = k1
  · subst h
    simp [va_cpy]
  · simp [h]
theorem gl_cpi (u : xM) (k0 sp k1 dp n k i : Nat) : gl (cpi u k0 sp k1 dp n) k i = gl u k i := rfl
theorem gi_cpl (u : xM) (k0 sp k1 dp n k i : Nat) : gi (cpl u k0 sp k1 dp n) k i = gi u k i := rfl
theorem gl_cpl (u : xM) (k0 sp k1 dp n k i : Nat) : gl (cpl u k0 sp k1 dp n) k i = if k = k1 ∧ dp ≤ i ∧ i < dp + n then gl u k0 (sp + (i - dp)) else gl u k i := by
  unfold gl cpl
  by_cases h : k = k1
  · subst h
    simp [va_cpy]
  · simp [h]
/-- whole numbers -/
def iI (z : Int) : Int32 := Int32.ofInt z
theorem nI_iI (n : Nat) : nI n = iI (n : Int) := by
  unfold nI iI
  exact (Int32.ofInt_eq_ofNat (n := n)).symm
theorem iI_toInt {z : Int} (h1 : -2147483648 ≤ z) (h2 : z < 2147483648) : (iI z).toInt = z := by
  unfold iI
  rw [Int32.toInt_ofInt]
  rw [Int.bmod_def]
  have : z % ((Int32.size : Nat) : Int) = z % 4294967296 := rfl
  rw [this]
  have h3 : ((Int32.size : Nat) : Int) = 4294967296 := rfl
  rw [h3]
  split <;> omega
theorem iI_of (x : Int32) : x = iI x.toInt := (Int32.ofInt_toInt x).symm
theorem iI_add (a b : Int) : iI a + iI b = iI (a + b) := (Int32.ofInt_add a b).symm
theorem iI_sub (a b : Int) : iI a - iI b = iI (a - b) := (Int32.ofInt_sub a b).symm
theorem iI_mul (a b : Int) : iI a * iI b = iI (a * b) := (Int32.ofInt_mul a b).symm
theorem iI_neg (a : Int) : -iI a = iI (-a) := (Int32.ofInt_neg a).symm
theorem iI_lt {a b : Int} (h1 : -2147483648 ≤ a) (h2 : a < 2147483648) (h3 : -2147483648 ≤ b) (h4 : b < 2147483648) : (iI a < iI b) = (a < b) := by
  rw [Int32.lt_iff_toInt_lt, iI_toInt h1 h2, iI_toInt h3 h4]
theorem iI_le {a b : Int} (h1 : -2147483648 ≤ a) (h2 : a < 2147483648) (h3 : -2147483648 ≤ b) (h4 : b < 2147483648) : (iI a ≤ iI b) = (a ≤ b) := by
  rw [Int32.le_iff_toInt_le, iI_toInt h1 h2, iI_toInt h3 h4]
theorem iI_eq {a b : Int} (h1 : -2147483648 ≤ a) (h2 : a < 2147483648) (h3 : -2147483648 ≤ b) (h4 : b < 2147483648) : (iI a = iI b) = (a = b) := by
  apply propext
  constructor
  · intro h
    have := congrArg Int32.toInt h
    rwa [iI_toInt h1 h2, iI_toInt h3 h4] at this
  · intro h; rw [h]
/-- numbers n < 2^31 by Nat: what conditions become -/
theorem cLE {a b : Nat} (ha : a < 2147483648) (hb : b < 2147483648) : (nI a ≤ nI b) = (a ≤ b) := propext (nI_leI ha hb)
theorem cLT {a b : Nat} (ha : a < 2147483648) (hb : b < 2147483648) : (nI a < nI b) = (a < b) := propext (nI_ltI ha hb)
theorem cEQ {a b : Nat} (ha : a < 2147483648) (hb : b < 2147483648) : (nI a = nI b) = (a = b) := propext (nI_eq ha hb)
theorem cCL {a : Nat} (ha : a < 2147483648) : (nI a).toNatClampNeg = a := nI_clamp ha
theorem cIN {a n : Nat} (h : a < n) (hn : n < 2147483648) : vp_in (nI a) n := vp_in_nI h hn
theorem cN0 {a : Nat} (ha : a < 2147483648) : (nI a < 0) = False := by
  rw [← nI_0, cLT ha (by decide)]
  simp
theorem c0L {a : Nat} (ha : a < 2147483648) : (0 ≤ nI a) = True := by
  rw [← nI_0, cLE (by decide) ha]
  simp
theorem c0P {a : Nat} (ha : a < 2147483648) : (0 < nI a) = (0 < a) := by
  rw [← nI_0, cLT (by decide) ha]
theorem cE0 {a : Nat} (ha : a < 2147483648) : (nI a = 0) = (a = 0) := by
  rw [← nI_0, cEQ ha (by decide)]
/-- literals as nI -/
theorem lit_nI (n : Nat) : (OfNat.ofNat n : Int32) = nI n := rfl
theorem cS {a b : Nat} (h : b ≤ a) : nI a - nI b = nI (a - b) := pk_sub h
theorem cD {a d : Nat} (ha : a < 2147483648) (h0 : 0 < d) (hd : d < 2147483648) : nI a / nI d = nI (a / d) := pk_div ha h0 hd
theorem cR {a d : Nat} (ha : a < 2147483648) (h0 : 0 < d) (hd : d < 2147483648) : nI a - nI a / nI d * nI d = nI (a % d) := pk_rem ha h0 hd
theorem cA (a b : Nat) : nI a + nI b = nI (a + b) := nI_add a b
theorem cM (a b : Nat) : nI a * nI b = nI (a * b) := pk_mul a b
/-- a loop that counts up -/
theorem xloop {S : Type} (W : Nat → Nat → S → Prop) (I : Nat → S → Prop) (e i0 : Nat) (s : S) (hi : i0 ≤ e) (h0 : I i0 s) (hx : ∀ n s, I e s → W (n + 1) e s) (hs : ∀ n i s, i0 ≤ i → i < e → I i s → (∀ s', I (i + 1) s' → W n (i + 1) s') → W (n + 1) i s) : ∃ n, W n i0 s := by
  have key : ∀ (d i : Nat) (s : S), i0 ≤ i → i + d = e → I i s → W (d + 1) i s := by
    intro d
    induction d with
    | zero =>
      intro i s _ he hI
      have : i = e := by omega
      subst this
      exact hx 0 s hI
    | succ d ih =>
      intro i s h1 he hI
      exact hs (d + 1) i s h1 (by omega) hI (fun s' hI' => ih (i + 1) s' (by omega) (by omega) hI')
  exact ⟨(e - i0) + 1, key (e - i0) i0 s (Nat.le_refl _) (by omega) h0⟩
/-- what stays: all but some roles -/
def xsame (P : Nat → Prop) (u u' : xM) : Prop := (∀ k i, P k → gi u' k i = gi u k i) ∧ ∀ k i, P k → gl u' k i = gl u k i
theorem xsame.rf {P : Nat → Prop} {u : xM} : xsame P u u := ⟨fun _ _ _ => rfl, fun _ _ _ => rfl⟩
theorem xsame.tr {P : Nat → Prop} {u v w : xM} (h1 : xsame P u v) (h2 : xsame P v w) : xsame P u w := ⟨fun k i h => (h2.1 k i h).trans (h1.1 k i h), fun k i h => (h2.2 k i h).trans (h1.2 k i h)⟩
theorem xsame.mono {P P' : Nat → Prop} {u v : xM} (h : xsame P u v) (hp : ∀ k, P' k → P k) : xsame P' u v := ⟨fun k i hk => h.1 k i (hp k hk), fun k i hk => h.2 k i (hp k hk)⟩
theorem xsame.si {P : Nat → Prop} {u : xM} {k i : Nat} {v : Int32} (hk : ¬ P k) : xsame P u (si u k i v) := ⟨fun a b h => by
  rw [gi_si, if_neg]
  rintro ⟨rfl, -⟩
  exact hk h, fun _ _ _ => rfl⟩
theorem xsame.sl {P : Nat → Prop} {u : xM} {k i : Nat} {v : Int64} (hk : ¬ P k) : xsame P u (sl u k i v) := ⟨fun _ _ _ => rfl, fun a b h => by
  rw [gl_sl, if_neg]
  rintro ⟨rfl, -⟩
  exact hk h⟩
theorem xsame.cpi {P : Nat → Prop} {u : xM} {k0 sp k1 dp n : Nat} (hk : ¬ P k1) : xsame P u (cpi u k0 sp k1 dp n) := ⟨fun a b h => by
  rw [gi_cpi, if_neg]
  rintro ⟨rfl, -⟩
  exact hk h, fun _ _ _ => rfl⟩
theorem xsame.cpl {P : Nat → Prop} {u : xM} {k0 sp k1 dp n : Nat} (hk : ¬ P k1) : xsame P u (cpl u k0 sp k1 dp n) := ⟨fun _ _ _ => rfl, fun a b h => by
  rw [gl_cpl, if_neg]
  rintro ⟨rfl, -⟩
  exact hk h⟩
/-! literals -/
theorem l_0 : (0 : Int32) = nI 0 := by decide +kernel
theorem l_1 : (1 : Int32) = nI 1 := by decide +kernel
theorem l_2 : (2 : Int32) = nI 2 := by decide +kernel
theorem l_3 : (3 : Int32) = nI 3 := by decide +kernel
theorem l_4 : (4 : Int32) = nI 4 := by decide +kernel
theorem l_5 : (5 : Int32) = nI 5 := by decide +kernel
theorem l_6 : (6 : Int32) = nI 6 := by decide +kernel
theorem l_7 : (7 : Int32) = nI 7 := by decide +kernel
theorem l_8 : (8 : Int32) = nI 8 := by decide +kernel
theorem l_9 : (9 : Int32) = nI 9 := by decide +kernel
theorem l_10 : (10 : Int32) = nI 10 := by decide +kernel
theorem l_11 : (11 : Int32) = nI 11 := by decide +kernel
theorem l_12 : (12 : Int32) = nI 12 := by decide +kernel
theorem l_13 : (13 : Int32) = nI 13 := by decide +kernel
theorem l_14 : (14 : Int32) = nI 14 := by decide +kernel
theorem l_15 : (15 : Int32) = nI 15 := by decide +kernel
theorem l_16 : (16 : Int32) = nI 16 := by decide +kernel
theorem l_18 : (18 : Int32) = nI 18 := by decide +kernel
theorem l_20 : (20 : Int32) = nI 20 := by decide +kernel
theorem l_24 : (24 : Int32) = nI 24 := by decide +kernel
theorem l_26 : (26 : Int32) = nI 26 := by decide +kernel
theorem l_30 : (30 : Int32) = nI 30 := by decide +kernel
theorem l_31 : (31 : Int32) = nI 31 := by decide +kernel
theorem l_48 : (48 : Int32) = nI 48 := by decide +kernel
theorem l_59 : (59 : Int32) = nI 59 := by decide +kernel
theorem l_60 : (60 : Int32) = nI 60 := by decide +kernel
theorem l_61 : (61 : Int32) = nI 61 := by decide +kernel
theorem l_62 : (62 : Int32) = nI 62 := by decide +kernel
theorem l_97 : (97 : Int32) = nI 97 := by decide +kernel
theorem l_99 : (99 : Int32) = nI 99 := by decide +kernel
theorem l_100 : (100 : Int32) = nI 100 := by decide +kernel
theorem l_120 : (120 : Int32) = nI 120 := by decide +kernel
theorem l_122 : (122 : Int32) = nI 122 := by decide +kernel
theorem l_128 : (128 : Int32) = nI 128 := by decide +kernel
theorem l_200 : (200 : Int32) = nI 200 := by decide +kernel
theorem l_255 : (255 : Int32) = nI 255 := by decide +kernel
theorem l_272 : (272 : Int32) = nI 272 := by decide +kernel
theorem l_300 : (300 : Int32) = nI 300 := by decide +kernel
theorem l_999 : (999 : Int32) = nI 999 := by decide +kernel
theorem l_900 : (900 : Int32) = nI 900 := by decide +kernel
theorem l_1000 : (1000 : Int32) = nI 1000 := by decide +kernel
theorem l_2096 : (2096 : Int32) = nI 2096 := by decide +kernel
theorem l_3011 : (3011 : Int32) = nI 3011 := by decide +kernel
theorem l_9999 : (9999 : Int32) = nI 9999 := by decide +kernel
theorem l_10000 : (10000 : Int32) = nI 10000 := by decide +kernel
theorem l_11213 : (11213 : Int32) = nI 11213 := by decide +kernel
theorem l_65536 : (65536 : Int32) = nI 65536 := by decide +kernel
theorem l_100000 : (100000 : Int32) = nI 100000 := by decide +kernel
theorem l_1000000 : (1000000 : Int32) = nI 1000000 := by decide +kernel
theorem l_4095 : (4095 : Int32) = nI 4095 := by decide +kernel
theorem l_55 : (55 : Int32) = nI 55 := by decide +kernel
theorem l_135 : (135 : Int32) = nI 135 := by decide +kernel
theorem l_147 : (147 : Int32) = nI 147 := by decide +kernel
theorem l_523 : (523 : Int32) = nI 523 := by decide +kernel
theorem l_160 : (160 : Int32) = nI 160 := by decide +kernel
theorem l_520 : (520 : Int32) = nI 520 := by decide +kernel
theorem l_524 : (524 : Int32) = nI 524 := by decide +kernel
