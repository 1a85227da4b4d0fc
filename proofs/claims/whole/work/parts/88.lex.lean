/-! ===== the class finds the tokens ===== -/
def wdx (l : List Nat) : Option Nat := fstO (fun j => decide (wordL j = l)) 28
def ltr (B : Nat → Nat) (n p : Nat) : List Nat := seg B (tS B n p) (tE B n p - tS B n p)
def tC (B : Nat → Nat) (n p : Nat) : Int64 := if tK B n p = 1 then (if tE B n p - tS B n p ≤ 8 then Int64.ofNat (c5 (ltr B n p)) else 0) else if tK B n p = 2 then LI (dg B (tS B n p) (tE B n p - tS B n p)) else if tK B n p = 3 then LI (B (tS B n p)) else 0
def tW (B : Nat → Nat) (n p : Nat) : Int32 := if tK B n p = 1 ∧ tE B n p - tS B n p ≤ 8 then eO (wdx (ltr B n p)) else -1
def TA (B : Nat → Nat) (n : Nat) (u : xM) : Prop := ∀ i, i < n → gi u 4 i = sb (B i) ∧ B i < 256
def RSV (o : Nat) (u : xM) : Prop := ∀ j, j < 28 → gl u (o + 1) j = wordK j
/-- one token more -/
def AD (o cnt : Nat) (a1 a2 : Int32) (a3 : Int64) (w : Int32) (u u' : xM) : Prop := gi u' o 6 = nI (cnt + 1) ∧ gi u' (o + 2) cnt = a1 ∧ gi u' (o + 3) cnt = a2 ∧ gl u' (o + 4) cnt = a3 ∧ gi u' (o + 5) cnt = w ∧ (∀ k i, ¬ ((k = o + 2 ∨ k = o + 3 ∨ k = o + 5) ∧ i = cnt) → ¬ (k = o ∧ i = 6) → gi u' k i = gi u k i) ∧ ∀ k i, ¬ (k = o + 4 ∧ i = cnt) → gl u' k i = gl u k i
section LEX
variable {B : Nat → Nat} {n mo : Nat} {u u' u0 : xM} {o : Nat}
theorem w_sh (a : Nat) : (Int64.ofNat a) <<< ((5 : Int32).toInt64 &&& 63) = Int64.ofNat (a * 32) := by
  apply Int64.toBitVec_inj.mp
  rw [Int64.toBitVec_shiftLeft]
  have e : (((5 : Int32).toInt64 &&& 63).toBitVec.smod 64) = 5#64 := by decide +kernel
  rw [e, Int64.toBitVec_ofNat', Int64.toBitVec_ofNat']
  apply BitVec.eq_of_toNat_eq
  simp only [BitVec.shiftLeft_eq', BitVec.toNat_shiftLeft, BitVec.toNat_ofNat, Nat.shiftLeft_eq, Nat.reducePow, Nat.reduceMod]
  omega
theorem w_or {a d : Nat} (hd : d < 32) (ha : a < 288230376151711744) : Int64.ofNat (a * 32) ||| Int64.ofNat d = Int64.ofNat (a * 32 + d) := by
  apply Int64.toBitVec_inj.mp
  rw [Int64.toBitVec_or, Int64.toBitVec_ofNat', Int64.toBitVec_ofNat', Int64.toBitVec_ofNat']
  apply BitVec.eq_of_toNat_eq
  simp only [BitVec.toNat_or, BitVec.toNat_ofNat]
  have h := Nat.two_pow_add_eq_or_of_lt (i := 5) (b := d) hd a
  rw [Nat.mod_eq_of_lt (by omega), Nat.mod_eq_of_lt (by omega), Nat.mod_eq_of_lt (by omega), Nat.mul_comm a 32]
  exact h.symm
theorem oN_L (n : Nat) : Int64.ofNat n = LI n := rfl
theorem w_let {a c : Nat} (h1 : 97 ≤ c) (h2 : c ≤ 122) (ha : a < 288230376151711744) : (Int64.ofNat a <<< ((5 : Int32).toInt64 &&& 63)) ||| ((sb c - (97 : Int32)) + (1 : Int32)).toInt64 = Int64.ofNat (a * 32 + (c - 96)) := by
  have e : (sb c - (97 : Int32)) + (1 : Int32) = nI (c - 96) := by
    rw [(sbC (c := c) (by omega)).2.2.2.2.2.2.2.2.2.2.1 (by omega), l_97, cS h1, l_1, cA]
    congr 1; omega
  rw [e, w_sh, nI_L (by omega), ← oN_L, w_or (by omega) ha]
theorem wordL_all : ∀ j, j < 28 → (wordL j).length ≤ 8 ∧ (∀ c ∈ wordL j, 97 ≤ c ∧ c ≤ 122) ∧ wordL j ≠ [] := by decide +kernel
theorem fstO_cg {p q : Nat → Bool} {n : Nat} (h : ∀ j, j < n → p j = q j) : fstO p n = fstO q n := by
  by_cases c : ∃ i, i < n ∧ q i = true ∧ ∀ j, j < i → q j = false
  · obtain ⟨i, hi, h1, h2⟩ := c
    rw [fstO_at hi h2 h1, fstO_at hi (fun j hj => by rw [h j (by omega)]; exact h2 j hj) (by rw [h i hi]; exact h1)]
  · have hn : ∀ i, i ≤ n → ∀ j, j < i → q j = false := by
      intro i
      induction i with
      | zero => intro _ j hj; omega
      | succ i ih =>
        intro hi j hj
        by_cases e : j = i
        · subst e
          cases hq : q j with
          | false => rfl
          | true => exact absurd ⟨j, by omega, hq, ih (by omega)⟩ c
        · exact ih (by omega) j (by omega)
    rw [fstO_no (hn n (Nat.le_refl _)), fstO_no (fun j hj => by rw [h j hj]; exact hn n (Nat.le_refl _) j hj)]
theorem k_indexIn {k1 cnt : Nat} {x : Int64} {Q : Int32 → xM → Prop} (hlen : cnt ≤ x_len k1) (hx : x_len k1 < 100000) (hq : Q (eO (fstO (fun j => decide (gl u k1 j = x)) cnt)) u) : p_X10_indexIn k1 (nI cnt) x u Q := by
  unfold p_X10_indexIn
  refine xloop (fun m i (_ : Unit) => p_X10_indexIn_L3 k1 Q m (nI cnt) x (nI i) u) (fun i _ => ∀ j, j < i → ¬ gl u k1 j = x) cnt 0 () (Nat.zero_le _) (fun j hj => by omega) ?_ ?_
  · intro m _ hs
    unfold p_X10_indexIn_L3
    rw [fstO_no (fun j hj => decide_eq_false (hs j hj))] at hq
    exact ⟨fun _ => hq, fun c => absurd (by rw [cLE (by omega) (by omega)]; exact Nat.le_refl _) c⟩
  · intro m i _ _ hi hs kk
    unfold p_X10_indexIn_L3
    rw [cLE (by omega) (by omega), cLE (by omega) (by omega), cCL (by omega), lg_cmp_eq]
    refine ⟨fun c => absurd c (by omega), fun _ => ⟨fun c => absurd c (by omega), fun _ => ⟨cIN (by omega) (by omega), fun c x5 h5 => ?_, fun c => ?_⟩⟩⟩
    · rw [l_1, cA] at h5
      subst h5
      refine kk () (fun j hj => ?_)
      by_cases e : j = i
      · rw [e]; exact c
      · exact hs j (by omega)
    · rw [fstO_at hi (fun j hj => decide_eq_false (hs j hj)) (decide_eq_true c)] at hq
      exact hq
theorem x_len_res : x_len 35 = 28 ∧ x_len 41 = 28 := by decide +kernel
theorem wdx_code {l : List Nat} (hl : lows l) (h8 : l.length ≤ 8) (h : RSV o u) : fstO (fun j => decide (gl u (o + 1) j = Int64.ofNat (c5 l))) 28 = wdx l := by
  unfold wdx
  refine fstO_cg (fun j hj => ?_)
  have hw := wordL_all j hj
  rw [h j hj]
  unfold wordK
  by_cases e : wordL j = l
  · rw [e, decide_eq_true rfl, decide_eq_true rfl]
  · rw [decide_eq_false e, decide_eq_false]
    intro z
    have h1 := c5_lt hw.2.1 hw.1
    have h2 := c5_lt hl h8
    exact e (c5_inj hw.2.1 hl (oN_inj (by omega) (by omega) z))
theorem wdx_0 (h : RSV o u) : fstO (fun j => decide (gl u (o + 1) j = 0)) 28 = none := by
  refine fstO_no (fun j hj => decide_eq_false ?_)
  have hw := wordL_all j hj
  rw [h j hj]
  unfold wordK
  intro z
  have h1 := c5_lt hw.2.1 hw.1
  have h2 := c5_pos hw.2.1 hw.2.2
  have z : Int64.ofNat (c5 (wordL j)) = Int64.ofNat 0 := z
  have := oN_inj (by omega) (by omega) z
  omega
theorem k_add {cnt : Nat} {a1 a2 : Int32} {a3 : Int64} {w : Int32} {Q : xM → Prop} (ho : o = 34 ∨ o = 40) (hx : x_len (o + 2) = mo ∧ x_len (o + 3) = mo ∧ x_len (o + 4) = mo ∧ x_len (o + 5) = mo) (hmo : mo ≤ 1000) (h6 : gi u o 6 = nI cnt) (h1 : gi u o 1 = nI mo) (hc : cnt < mo) (hw : (¬ a1 = 1 → w = -1) ∧ (a1 = 1 → ∀ u' Q', (∀ i, gl u' (o + 1) i = gl u (o + 1) i) → Q' w u' → p_X10_indexIn (o + 1) (28 : Int32) a3 u' Q')) (hq : ∀ u', AD o cnt a1 a2 a3 w u u' → Q u') : p_X8_add o a1 a2 a3 u Q := by
  unfold p_X8_add
  rw [h6, h1, cLT (by omega) (by omega), cCL (by omega), hx.1]
  refine ⟨fun _ => ⟨cIN hc (by omega), fun u3 e3 => ?_⟩, fun z => absurd hc z⟩
  have g3 : gi u3 o 6 = nI cnt := by rw [e3, gi_si, if_neg (by omega)]; exact h6
  rw [g3, cCL (by omega), hx.2.1]
  refine ⟨cIN hc (by omega), fun u5 e5 => ?_⟩
  have g5 : gi u5 o 6 = nI cnt := by rw [e5, gi_si, if_neg (by omega)]; exact g3
  rw [g5, cCL (by omega), hx.2.2.1]
  refine ⟨cIN hc (by omega), fun u7 e7 => ?_⟩
  have g7 : gi u7 o 6 = nI cnt := by rw [e7, gi_sl]; exact g5
  have fin : ∀ u10 u11 : xM, u10 = si u7 (o + 5) cnt w → u11 = si u10 o 6 (gi u10 o 6 + (1 : Int32)) → Q u11 := fun u10 u11 e10 e11 => by
    have g10 : gi u10 o 6 = nI cnt := by rw [e10, gi_si, if_neg (by omega)]; exact g7
    rw [g10, l_1, cA] at e11
    refine hq u11 ⟨by rw [e11, gi_at], ?_, ?_, ?_, ?_, fun k i b1 b2 => ?_, fun k i b1 => ?_⟩
    · rw [e11, gi_si, if_neg (by omega), e10, gi_si, if_neg (by omega), e7, gi_sl, e5, gi_si, if_neg (by omega), e3, gi_at]
    · rw [e11, gi_si, if_neg (by omega), e10, gi_si, if_neg (by omega), e7, gi_sl, e5, gi_at]
    · rw [e11, gl_si, e10, gl_si, e7, gl_sl, if_pos ⟨rfl, rfl⟩]
    · rw [e11, gi_si, if_neg (by omega), e10, gi_at]
    · rw [e11, gi_si, if_neg (by omega), e10, gi_si, if_neg (by omega), e7, gi_sl, e5, gi_si, if_neg (by omega), e3, gi_si, if_neg (by omega)]
    · rw [e11, gl_si, e10, gl_si, e7, gl_sl, if_neg b1, e5, gl_si, e3, gl_si]
  rw [g7, cCL (by omega), hx.2.2.2]
  refine ⟨fun z => ⟨cIN hc (by omega), fun u10 e10 u11 e11 => fin u10 u11 (by rw [hw.1 z]; exact e10) e11⟩, fun z => ?_⟩
  refine hw.2 z u7 _ (fun i => by rw [e7, gl_sl, if_neg (by omega), e5, gl_si, e3, gl_si]) ⟨cIN hc (by omega), fun u15 e15 u16 e16 => fin u15 u16 e15 e16⟩
theorem seg_mem {p m c : Nat} (h : c ∈ seg B p m) : ∃ i, i < m ∧ c = B (p + i) := by
  induction m with
  | zero => exact absurd h List.not_mem_nil
  | succ m ih =>
    unfold seg at h
    rcases List.mem_append.mp h with h | h
    · obtain ⟨i, hi, e⟩ := ih h
      exact ⟨i, by omega, e⟩
    · exact ⟨m, by omega, List.mem_singleton.mp h⟩
theorem seg_lows {p m : Nat} (h : ∀ i, i < m → cL (B (p + i)) = true) : lows (seg B p m) := fun c hc => by
  obtain ⟨i, hi, rfl⟩ := seg_mem hc
  have := h i hi
  unfold cL at this
  simpa using this
theorem k_bWord {p cnt : Nat} {Q : Int32 → xM → Prop} (ho : o = 34 ∨ o = 40) (hx : x_len (o + 2) = mo ∧ x_len (o + 3) = mo ∧ x_len (o + 4) = mo ∧ x_len (o + 5) = mo) (hmo : mo ≤ 1000) (hn : n ≤ 900) (hT : TA B n u) (hR : RSV o u) (hp : p < n) (h6 : gi u o 6 = nI cnt) (h1 : gi u o 1 = nI mo) (hc : cnt < mo) (hq : ∀ u', AD o cnt 1 (nI p) (if U (fun i => cL (B i)) n p - p ≤ 8 then Int64.ofNat (c5 (seg B p (U (fun i => cL (B i)) n p - p))) else 0) (if U (fun i => cL (B i)) n p - p ≤ 8 then eO (wdx (seg B p (U (fun i => cL (B i)) n p - p))) else -1) u u' → Q (nI (U (fun i => cL (B i)) n p)) u') : p_X8_behindWord o (nI p) (nI n) u Q := by
  have hin := U_in (p := fun i => cL (B i)) (n := n) p
  have hul := U_ln (p := fun i => cL (B i)) (n := n) p (by omega)
  have fin : ∀ i v, i = U (fun i => cL (B i)) n p → v = (if i - p ≤ 8 then Int64.ofNat (c5 (seg B p (i - p))) else 0) → p_X8_behindWord_L52 o Q (nI p) v (nI i) u := fun i v hi hv => by
    subst hi
    subst hv
    unfold p_X8_behindWord_L52
    refine k_add ho hx hmo h6 h1 hc ⟨fun z => absurd rfl z, fun _ u' Q' hg hq' => ?_⟩ hq
    have hR' : RSV o u' := fun j hj => (hg j).trans (hR j hj)
    have hx1 : x_len (o + 1) = 28 := by
      rcases ho with z | z
      · subst z; exact x_len_res.1
      · subst z; exact x_len_res.2
    refine k_indexIn (cnt := 28) (by omega) (by omega) ?_
    by_cases c : U (fun i => cL (B i)) n p - p ≤ 8
    · rw [if_pos c] at hq' ⊢
      rw [wdx_code (seg_lows (fun i hi => (hin (p + i) (by omega) (by omega)).2)) (by rw [seg_len]; exact c) hR']
      exact hq'
    · rw [if_neg c] at hq' ⊢
      rw [wdx_0 hR']
      exact hq'
  unfold p_X8_behindWord
  refine xloop (fun m i (v : Int64) => p_X8_behindWord_L6 o Q m (nI p) (nI n) v (nI i) u) (fun i v => U (fun i => cL (B i)) n i = U (fun i => cL (B i)) n p ∧ v = (if i - p ≤ 8 then Int64.ofNat (c5 (seg B p (i - p))) else 0)) n p 0 (by omega) ⟨rfl, by rw [Nat.sub_self, if_pos (by omega)]; rfl⟩ ?_ ?_
  · intro m v hv
    unfold p_X8_behindWord_L6
    refine ⟨fun _ => fin n v ?_ hv.2, fun c => absurd (by rw [cLE (by omega) (by omega)]; exact Nat.le_refl _) c⟩
    rw [← hv.1]
    exact (U_n (Or.inl (Nat.le_refl _))).symm
  · intro m i v h1' hi hv kk
    have ht := hT i hi
    unfold p_X8_behindWord_L6
    rw [cLE (by omega) (by omega), cCL (by omega), ht.1, cS h1', show (8 : Int32) = nI 8 from rfl, cLE (by omega) (by omega)]
    refine ⟨fun c => absurd c (by omega), fun _ => ⟨cIN (by omega) (by decide), k_isLetter ht.2 ⟨fun c => fin i v (by rw [← hv.1]; exact (U_n (p := fun i => cL (B i)) (n := n) (i := i) (Or.inr c)).symm) hv.2, fun c => ⟨fun z x7 h7 => ?_, fun z => ⟨cIN (by omega) (by decide), ?_⟩⟩⟩⟩⟩
    · rw [l_1, cA] at h7
      subst h7
      exact kk 0 ⟨by rw [← U_s hi c]; exact hv.1, by rw [if_neg (by omega)]⟩
    · intro x11 h11
      rw [l_1, cA] at h11
      subst h11
      refine kk _ ⟨by rw [← U_s hi c]; exact hv.1, ?_⟩
      have hUi : i < U (fun i => cL (B i)) n p := by
        rw [← hv.1, U_s hi c]
        exact Nat.lt_of_lt_of_le (Nat.lt_succ_self i) (U_le _)
      have hc2 : 97 ≤ B i ∧ B i ≤ 122 := by
        have := c
        unfold cL at this
        simpa using this
      have hlo : lows (seg B p (i - p)) := seg_lows (fun j hj => (hin (p + j) (by omega) (by omega)).2)
      have hlt := c5_lt hlo (by rw [seg_len]; omega)
      rw [ht.1, hv.2, if_pos (by omega), w_let hc2.1 hc2.2 (by omega), if_pos (by omega), show i + 1 - p = (i - p) + 1 by omega]
      show Int64.ofNat (c5 (seg B p (i - p)) * 32 + (B i - 96)) = Int64.ofNat (c5 (seg B p (i - p) ++ [B (p + (i - p))]))
      rw [c5_app, show p + (i - p) = i by omega]
theorem k_bNum {p cnt : Nat} {Q : Int32 → xM → Prop} (ho : o = 34 ∨ o = 40) (hx : x_len (o + 2) = mo ∧ x_len (o + 3) = mo ∧ x_len (o + 4) = mo ∧ x_len (o + 5) = mo) (hmo : mo ≤ 1000) (hn : n ≤ 900) (hT : TA B n u) (hp : p < n) (h6 : gi u o 6 = nI cnt) (h1 : gi u o 1 = nI mo) (hc : cnt < mo) (hq : ∀ u', AD o cnt (if U (fun i => cDg (B i)) n p - p ≤ 4 then 2 else 4) (nI p) (if U (fun i => cDg (B i)) n p - p ≤ 4 then LI (dg B p (U (fun i => cDg (B i)) n p - p)) else 0) (-1) u u' → Q (nI (U (fun i => cDg (B i)) n p)) u') : p_X8_behindNumber o (nI p) (nI n) u Q := by
  have hin := U_in (p := fun i => cDg (B i)) (n := n) p
  have hul := U_ln (p := fun i => cDg (B i)) (n := n) p (by omega)
  have dgl : ∀ m, (∀ i, i < m → cDg (B (p + i)) = true) → dg B p m < 10 ^ m := by
    intro m
    induction m with
    | zero => intro _; show 0 < 10 ^ 0; decide
    | succ m ih =>
      intro h
      have h1 := ih (fun i hi => h i (by omega))
      have h2 := h m (by omega)
      unfold cDg at h2
      simp only [Bool.and_eq_true, decide_eq_true_eq] at h2
      show dg B p m * 10 + (B (p + m) - 48) < 10 ^ (m + 1)
      rw [Nat.pow_succ]
      omega
  have dg4 : ∀ m, m ≤ 4 → (∀ i, i < m → cDg (B (p + i)) = true) → dg B p m < 10000 := fun m hm h => by
    have h1 := dgl m h
    have h2 : 10 ^ m ≤ 10 ^ 4 := Nat.pow_le_pow_right (by omega) hm
    omega
  have fin : ∀ i (v : Int32), i = U (fun i => cDg (B i)) n p → v = (if i - p ≤ 4 then nI (dg B p (i - p)) else 0) → p_X8_behindNumber_L55 o Q (nI p) v (nI i) u := fun i v hi hv => by
    subst hi
    unfold p_X8_behindNumber_L55
    have hle := U_le (p := fun i => cDg (B i)) (n := n) p
    rw [cS hle, l_4, cLE (by omega) (by omega)]
    refine ⟨fun c => ?_, fun c => ?_⟩
    · have hd := dg4 _ c (fun i hi => (hin (p + i) (by omega) (by omega)).2)
      rw [if_pos c] at hq hv
      rw [if_pos c] at hq
      rw [hv, nI_L (by omega)]
      exact k_add (w := -1) ho hx hmo h6 h1 hc ⟨fun _ => rfl, fun z => absurd z (by decide)⟩ hq
    · rw [if_neg c] at hq hv
      rw [if_neg c] at hq
      rw [hv]
      exact k_add (w := -1) ho hx hmo h6 h1 hc ⟨fun _ => rfl, fun z => absurd z (by decide)⟩ hq
  unfold p_X8_behindNumber
  refine xloop (fun m i (v : Int32) => p_X8_behindNumber_L6 o Q m (nI p) (nI n) v (nI i) u) (fun i v => U (fun i => cDg (B i)) n i = U (fun i => cDg (B i)) n p ∧ v = (if i - p ≤ 4 then nI (dg B p (i - p)) else 0)) n p 0 (by omega) ⟨rfl, by rw [Nat.sub_self, if_pos (by omega)]; rfl⟩ ?_ ?_
  · intro m v hv
    unfold p_X8_behindNumber_L6
    refine ⟨fun _ => fin n v ?_ hv.2, fun c => absurd (by rw [cLE (by omega) (by omega)]; exact Nat.le_refl _) c⟩
    rw [← hv.1]
    exact (U_n (Or.inl (Nat.le_refl _))).symm
  · intro m i v h1' hi hv kk
    have ht := hT i hi
    unfold p_X8_behindNumber_L6
    rw [cLE (by omega) (by omega), cCL (by omega), ht.1, cS h1', l_4, cLE (by omega) (by omega)]
    refine ⟨fun c => absurd c (by omega), fun _ => ⟨cIN (by omega) (by decide), k_isDigit ht.2 ⟨fun c => fin i v (by rw [← hv.1]; exact (U_n (p := fun i => cDg (B i)) (n := n) (i := i) (Or.inr c)).symm) hv.2, fun c => ⟨fun z x7 h7 => ?_, fun z => ⟨cIN (by omega) (by decide), fun x9 h9 x10 h10 => ?_⟩⟩⟩⟩⟩
    · rw [l_1, cA] at h7
      subst h7
      exact kk 0 ⟨by rw [← U_s hi c]; exact hv.1, by rw [if_neg (by omega)]⟩
    · rw [l_1, cA] at h10
      subst h10
      refine kk _ ⟨by rw [← U_s hi c]; exact hv.1, ?_⟩
      have hUi : i < U (fun i => cDg (B i)) n p := by
        rw [← hv.1, U_s hi c]
        exact Nat.lt_of_lt_of_le (Nat.lt_succ_self i) (U_le _)
      have hc2 : 48 ≤ B i ∧ B i ≤ 57 := by
        have := c
        unfold cDg at this
        simpa using this
      have hd := dg4 (i - p) (by omega) (fun j hj => (hin (p + j) (by omega) (by omega)).2)
      rw [h9, ht.1, hv.2, if_pos (by omega), (sbC ht.2).2.2.2.2.2.2.2.2.2.2.1 (by omega), l_10, cM, cA, l_48, cS (by omega), if_pos (by omega), show i + 1 - p = (i - p) + 1 by omega]
      show nI (dg B p (i - p) * 10 + B i - 48) = nI (dg B p (i - p) * 10 + (B (p + (i - p)) - 48))
      rw [show p + (i - p) = i by omega]
      congr 1
      omega
end LEX
