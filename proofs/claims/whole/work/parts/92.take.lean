/-! ===== the class takes tokens ===== -/
def CS (o : Nat) (B : Nat → Nat) (n i : Nat) (u0 u : xM) : Prop := TL o B n i u ∧ TXT o B n u ∧ tf o u0 u
def FT (o : Nat) (B : Nat → Nat) (n k i : Nat) (u : xM) : Prop := gi u o 14 = nI (if tK B n (pS B n i) = 4 then 1 else k) ∧ gi u o 15 = nI (tS B n (pS B n i))
/-- the names of a land of the class -/
def CN (o : Nat) (D : DR) (u : xM) : Prop := LR o D.1 u ∧ okS D.1 ∧ (∀ i, i < D.1 0 0 → isNm (D.2 0 i) ∧ gl u (o + 2) i = Int64.ofNat (c5 (D.2 0 i))) ∧ (∀ i, i < D.1 1 0 → isNm (D.2 1 i) ∧ gl u (o + 10) i = Int64.ofNat (c5 (D.2 1 i))) ∧ ∀ i, i < D.1 2 0 → isNm (D.2 2 i) ∧ gl u (o + 17) i = Int64.ofNat (c5 (D.2 2 i))
section TAKE
variable {B : Nat → Nat} {n : Nat} {u u' u0 : xM} {o : Nat} {i : Nat}
theorem CN.cg {o1 : Nat} {D : DR} (h : CN o1 D u) (hg : ∀ k i, o1 ≤ k → k ≤ o1 + 26 → gi u' k i = gi u k i) (hl : ∀ k i, o1 ≤ k → k ≤ o1 + 26 → gl u' k i = gl u k i) : CN o1 D u' := by
  obtain ⟨h1, h2, h3, h4, h5⟩ := h
  have r21 : ∀ f, f < 24 → rlO f ≤ 26 := by decide
  refine ⟨h1.cg (fun f hf i => hg _ _ (by omega) (by have := r21 f hf; omega)), h2, fun i hi => ?_, fun i hi => ?_, fun i hi => ?_⟩
  · rw [hl (o1 + 2) i (by omega) (by omega)]; exact h3 i hi
  · rw [hl (o1 + 10) i (by omega) (by omega)]; exact h4 i hi
  · rw [hl (o1 + 17) i (by omega) (by omega)]; exact h5 i hi
theorem w1 (h1 : tK B n (pS B n i) = 1) : lows (nmT B n i) ∧ nmT B n i ≠ [] ∧ (nmT B n i).length = tE B n (pS B n i) - tS B n (pS B n i) := by
  have hs : tS B n (pS B n i) < n := by
    have : ¬ n ≤ tS B n (pS B n i) := by rw [← tK_0, h1]; decide
    omega
  have hc : cL (B (tS B n (pS B n i))) = true := by
    cases c : cL (B (tS B n (pS B n i))) with
    | true => rfl
    | false =>
      unfold tK at h1
      rw [if_neg (by omega), c, if_neg (by decide)] at h1
      split at h1
      · split at h1
        · exact absurd h1 (by decide)
        · exact absurd h1 (by decide)
      · split at h1
        · exact absurd h1 (by decide)
        · exact absurd h1 (by decide)
  have hE := tE_lt hs
  have eE : tE B n (pS B n i) = U (fun i => cL (B i)) n (tS B n (pS B n i)) := by
    unfold tE
    rw [if_neg (by omega), if_pos hc]
  unfold nmT ltr
  refine ⟨seg_lows (fun k hk => ?_), fun z => ?_, seg_len _ _⟩
  · exact (U_in (n := n) (p := fun i => cL (B i)) (tS B n (pS B n i)) (tS B n (pS B n i) + k) (by omega) (by omega)).2
  · have := congrArg List.length z
    rw [seg_len] at this
    have : tE B n (pS B n i) - tS B n (pS B n i) = 0 := this
    omega
theorem tW_wrd : tW B n (pS B n i) = eO (wrd B n i) := by
  unfold tW wrd
  split
  · rfl
  · rfl
theorem wrd_lt {t : Nat} (h : wrd B n i = some t) : t < 28 := by
  unfold wrd at h
  split at h
  · exact fstO_lt h
  · cases h
theorem wrd_1 {t : Nat} (h : wrd B n i = some t) : tK B n (pS B n i) = 1 := by
  unfold wrd at h
  split at h
  · rename_i c; exact c.1
  · cases h
theorem eO_is {x : Option Nat} {w : Nat} (hx : ∀ t, x = some t → t < 1000) (hw : w < 1000) : (eO x = nI w) = (x = some w) := by
  cases x with
  | none =>
    refine propext ⟨fun z => ?_, fun z => absurd z (by simp)⟩
    exact absurd z.symm (by rw [show eO none = (-1 : Int32) from rfl]; exact nI_ne_m1 (by omega))
  | some t =>
    have := hx t rfl
    show (nI t = nI w) = _
    rw [cEQ (by omega) (by omega)]
    simp
theorem isN_eq : isN B n i = (decide (tK B n (pS B n i) = 1) && (decide (tE B n (pS B n i) - tS B n (pS B n i) ≤ 8) && (wdx (ltr B n (pS B n i))).isNone)) := rfl
theorem isN_1 (h : isN B n i = true) : tK B n (pS B n i) = 1 ∧ tE B n (pS B n i) - tS B n (pS B n i) ≤ 8 := by
  unfold isN at h
  simp only [Bool.and_eq_true, decide_eq_true_eq] at h
  exact ⟨h.1, h.2.1⟩
theorem k_isName {Q : Bool → xM → Prop} (h : TL o B n i u) (hq : Q (isN B n i) u) : p_X8_isName o u Q := by
  obtain ⟨_, _, h8, _, h11, h10, _, _⟩ := h
  have hk := tK_le (B := B) (n := n) (pS B n i)
  unfold p_X8_isName
  rw [h8, h10, h11, lg_cmp_eq, show (nI (tK B n (pS B n i)) = (1 : Int32)) = (tK B n (pS B n i) = 1) from cEQ (b := 1) (by omega) (by omega)]
  unfold isN at hq
  refine ⟨fun z => ?_, fun z => ?_⟩
  · rw [decide_eq_false z] at hq; exact hq
  · have hw := w1 z
    have eC : tC B n (pS B n i) = if tE B n (pS B n i) - tS B n (pS B n i) ≤ 8 then Int64.ofNat (c5 (ltr B n (pS B n i))) else 0 := by
      unfold tC
      rw [if_pos z]
    have eW : tW B n (pS B n i) = if tE B n (pS B n i) - tS B n (pS B n i) ≤ 8 then eO (wdx (ltr B n (pS B n i))) else -1 := by
      unfold tW
      by_cases c : tE B n (pS B n i) - tS B n (pS B n i) ≤ 8
      · rw [if_pos ⟨z, c⟩, if_pos c]
      · rw [if_neg (fun y => c y.2), if_neg c]
    rw [if_pos z, eC, eW]
    rw [decide_eq_true z, Bool.true_and] at hq
    by_cases c : tE B n (pS B n i) - tS B n (pS B n i) ≤ 8
    · rw [if_pos c, if_pos c]
      rw [decide_eq_true c, Bool.true_and] at hq
      have h5 := c5_lt hw.1 (by rw [hw.2.2]; exact c)
      have h0 := c5_pos hw.1 hw.2.1
      refine ⟨fun y => ?_, fun _ => ?_⟩
      · have := oN_inj (a := c5 (ltr B n (pS B n i))) (b := 0) (by unfold nmT at h5; omega) (by omega) y
        unfold nmT at h0
        omega
      · cases hx : wdx (ltr B n (pS B n i)) with
        | none =>
          rw [hx] at hq
          exact ⟨fun y => absurd rfl y, fun _ => hq⟩
        | some t =>
          rw [hx] at hq
          have ht : t < 28 := fstO_lt hx
          exact ⟨fun _ => hq, fun y => absurd y (nI_ne_m1 (by omega))⟩
    · rw [if_neg c, if_neg c]
      rw [decide_eq_false c] at hq
      exact ⟨fun _ => hq, fun y => absurd rfl y⟩
theorem k_wrong {k : Nat} {Q : Bool → xM → Prop} (h : TL o B n i u) (hq : ∀ u', FT o B n k i u' → wf o u u' → Q false u') : p_X8_wrong o (nI k) u Q := by
  obtain ⟨_, _, h8, h9, _, _, _, _⟩ := h
  have hk := tK_le (B := B) (n := n) (pS B n i)
  unfold p_X8_wrong
  rw [h8, show (nI (tK B n (pS B n i)) = (4 : Int32)) = (tK B n (pS B n i) = 4) from cEQ (b := 4) (by omega) (by omega)]
  refine ⟨fun z u2 q2 u3 q3 => ?_, fun z u2 q2 u3 q3 => ?_⟩
  · refine hq u3 ⟨?_, ?_⟩ (by rw [q3, q2]; exact (wf.si (by omega)).tr (wf.si (by omega)))
    · rw [q3, gi_si, if_neg (by omega), q2, gi_at, if_neg z]
    · rw [q3, gi_at, q2, gi_si, if_neg (by omega)]; exact h9
  · refine hq u3 ⟨?_, ?_⟩ (by rw [q3, q2]; exact (wf.si (by omega)).tr (wf.si (by omega)))
    · rw [q3, gi_si, if_neg (by omega), q2, gi_at, if_pos z]; rfl
    · rw [q3, gi_at, q2, gi_si, if_neg (by omega)]; exact h9
theorem x_len_txt : (x_len 36 = 901 ∧ x_len 37 = 901 ∧ x_len 38 = 901 ∧ x_len 39 = 901) ∧ x_len 42 = 301 ∧ x_len 43 = 301 ∧ x_len 44 = 301 ∧ x_len 45 = 301 := by decide +kernel
theorem k_go {Q : xM → Prop} (ho : o = 34 ∨ o = 40) (h : CS o B n i u0 u) (h0 : tK B n (pS B n i) ≠ 0) (h4 : tK B n (pS B n i) ≠ 4) (hq : ∀ u', CS o B n (i + 1) u0 u' → Q u') : p_X8_advance o u Q := by
  obtain ⟨h1, h2, h3⟩ := h
  obtain ⟨mo, hx, hmo⟩ : ∃ mo, (x_len (o + 2) = mo ∧ x_len (o + 3) = mo ∧ x_len (o + 4) = mo ∧ x_len (o + 5) = mo) ∧ mo ≤ 1000 := by
    rcases ho with rfl | rfl
    · exact ⟨901, x_len_txt.1, by omega⟩
    · exact ⟨301, x_len_txt.2, by omega⟩
  refine k_adv (i := i + 1) hx hmo ?_ h2 (rch_s h1.1 h0 h4) (fun u' hl hf => hq u' ⟨hl, h2.cg hf.wf, h3.tr hf⟩)
  rw [h1.2.1, nI_iI]
  congr 1
  omega
theorem k_takeWord {w : Nat} {Q : Bool → xM → Prop} (ho : o = 34 ∨ o = 40) (hw : w < 28) (h : CS o B n i u0 u) (hq : run (pWord B n w i) (fun k i => ∀ u', FT o B n k i u' → wf o u0 u' → Q false u') (fun j => ∀ u', CS o B n j u0 u' → Q true u')) : p_X8_takeWord o (nI w) u Q := by
  unfold p_X8_takeWord
  unfold pWord at hq
  rw [h.1.2.2.2.2.1, tW_wrd, eO_is (fun t ht => by have := wrd_lt ht; omega) (by omega)]
  refine ⟨fun z => ?_, fun z => ?_⟩
  · rw [if_pos z] at hq
    have := wrd_1 z
    exact k_go ho h (by omega) (by omega) hq
  · rw [if_neg z] at hq
    exact k_wrong (k := 2) h.1 (fun u' h1 h2 => hq u' h1 (h.2.2.wf.tr h2))
theorem k_takeStop {Q : Bool → xM → Prop} (ho : o = 34 ∨ o = 40) (hB : ∀ i, i < n → B i < 256) (h : CS o B n i u0 u) (hq : run (pStop B n i) (fun k i => ∀ u', FT o B n k i u' → wf o u0 u' → Q false u') (fun j => ∀ u', CS o B n j u0 u' → Q true u')) : p_X8_takeStop o u Q := by
  unfold p_X8_takeStop
  unfold pStop sgT at hq
  rw [h.1.2.2.2.2.2.2.2]
  by_cases z3 : tK B n (pS B n i) = 3
  · have hb : B (tS B n (pS B n i)) < 256 := hB _ (by
      have : ¬ n ≤ tS B n (pS B n i) := by rw [← tK_0, z3]; decide
      omega)
    have eC : (tC B n (pS B n i)).toInt32 = nI (B (tS B n (pS B n i))) := by
      unfold tC
      rw [z3]
      show (LI (B (tS B n (pS B n i)))).toInt32 = _
      rw [← nI_L (by omega), Int32.toInt32_toInt64]
    rw [if_pos z3, eC, show (nI (B (tS B n (pS B n i))) = (59 : Int32)) = (B (tS B n (pS B n i)) = 59) from cEQ (b := 59) (by omega) (by omega)]
    rw [decide_eq_true z3, Bool.true_and] at hq
    refine ⟨fun z => ?_, fun z => ?_⟩
    · rw [if_pos (decide_eq_true z)] at hq
      exact k_go ho h (by omega) (by omega) hq
    · rw [if_neg (by rw [decide_eq_false z]; decide)] at hq
      exact k_wrong (k := 2) h.1 (fun u' h1 h2 => hq u' h1 (h.2.2.wf.tr h2))
  · rw [if_neg z3]
    rw [decide_eq_false z3, Bool.false_and, if_neg (by decide)] at hq
    exact ⟨fun z => absurd z (by decide), fun _ => k_wrong (k := 2) h.1 (fun u' h1 h2 => hq u' h1 (h.2.2.wf.tr h2))⟩
theorem vl_lt (h : tK B n (pS B n i) = 2) : vl B n i ≤ 9999 := by
  have hs : tS B n (pS B n i) < n := by
    have : ¬ n ≤ tS B n (pS B n i) := by rw [← tK_0, h]; decide
    omega
  have hl : cL (B (tS B n (pS B n i))) = false := by
    cases c : cL (B (tS B n (pS B n i))) with
    | false => rfl
    | true =>
      unfold tK at h
      rw [if_neg (by omega), c, if_pos rfl] at h
      exact absurd h (by decide)
  have hd : cDg (B (tS B n (pS B n i))) = true := by
    cases c : cDg (B (tS B n (pS B n i))) with
    | true => rfl
    | false =>
      unfold tK at h
      rw [if_neg (by omega), hl, if_neg (by decide), c, if_neg (by decide)] at h
      split at h
      · exact absurd h (by decide)
      · exact absurd h (by decide)
  have eE : tE B n (pS B n i) = U (fun i => cDg (B i)) n (tS B n (pS B n i)) := by
    unfold tE
    rw [if_neg (by omega), hl, if_neg (by decide), if_pos hd]
  have h4 : tE B n (pS B n i) - tS B n (pS B n i) ≤ 4 := by
    rw [eE]
    unfold tK at h
    rw [if_neg (by omega), hl, if_neg (by decide), hd, if_pos rfl] at h
    split at h
    · assumption
    · exact absurd h (by decide)
  have hin := U_in (n := n) (p := fun i => cDg (B i)) (tS B n (pS B n i))
  rw [← eE] at hin
  unfold vl
  have key : ∀ m, m ≤ tE B n (pS B n i) - tS B n (pS B n i) → dg B (tS B n (pS B n i)) m < 10 ^ m := by
    intro m
    induction m with
    | zero => intro _; show 0 < 10 ^ 0; decide
    | succ m ih =>
      intro hm
      have h1 := ih (by omega)
      have h2 := (hin (tS B n (pS B n i) + m) (by omega) (by omega)).2
      have h3 : 48 ≤ B (tS B n (pS B n i) + m) ∧ B (tS B n (pS B n i) + m) ≤ 57 := by simpa [cDg] using h2
      show dg B _ m * 10 + _ < 10 ^ (m + 1)
      rw [Nat.pow_succ]
      omega
  have h1 := key _ (Nat.le_refl _)
  have h2 : 10 ^ (tE B n (pS B n i) - tS B n (pS B n i)) ≤ 10 ^ 4 := Nat.pow_le_pow_right (by omega) h4
  omega
theorem k_takeNumber {a b : Nat} {Q : Int32 → xM → Prop} (ho : o = 34 ∨ o = 40) (ha : a < 100000) (hb : b < 100000) (h : CS o B n i u0 u) (hq : run (pNum B n a b i) (fun k i => ∀ u', FT o B n k i u' → wf o u0 u' → Q (-1) u') (fun v => ∀ u', CS o B n v.2 u0 u' → v.1 ≤ 9999 → Q (nI v.1) u')) : p_X8_takeNumber o (nI a) (nI b) u Q := by
  have hk := tK_le (B := B) (n := n) (pS B n i)
  unfold p_X8_takeNumber
  unfold pNum at hq
  rw [h.1.2.2.1, h.1.2.2.2.2.2.2.1, show (nI (tK B n (pS B n i)) = (2 : Int32)) = (tK B n (pS B n i) = 2) from cEQ (b := 2) (by omega) (by omega)]
  refine ⟨fun z => ?_, fun z => ?_⟩
  · have hv := vl_lt z
    have eC : (tC B n (pS B n i)).toInt32 = nI (vl B n i) := by
      unfold tC
      rw [z]
      show (LI (vl B n i)).toInt32 = _
      rw [← nI_L (by omega), Int32.toInt32_toInt64]
    rw [if_pos z] at hq
    rw [if_pos z, eC, cLT (by omega) (by omega), cLE (by omega) (by omega)]
    refine ⟨fun c => ?_, fun c => ⟨fun c2 x6 e6 => ?_, fun c2 => ?_⟩⟩
    · rw [if_pos (Or.inl c)] at hq
      exact k_wrong (k := 4) h.1 (fun u' h1 h2 => hq u' h1 (h.2.2.wf.tr h2))
    · rw [if_neg (by omega)] at hq
      rw [e6]
      exact k_go ho h (by omega) (by omega) (fun u' h1 => hq u' h1 hv)
    · rw [if_pos (Or.inr (by omega))] at hq
      exact k_wrong (k := 4) h.1 (fun u' h1 h2 => hq u' h1 (h.2.2.wf.tr h2))
  · rw [if_neg z] at hq
    exact k_wrong (k := 2) h.1 (fun u' h1 h2 => hq u' h1 (h.2.2.wf.tr h2))
theorem k_takeNumberBehind {w a b d : Nat} {Q : Int32 → xM → Prop} (ho : o = 34 ∨ o = 40) (hw : w < 28) (ha : a < 100000) (hb : b < 100000) (hd : d ≤ 9999) (h : CS o B n i u0 u) (hq : run (pNumB B n w a b d i) (fun k i => ∀ u', FT o B n k i u' → wf o u0 u' → Q (-1) u') (fun v => ∀ u', CS o B n v.2 u0 u' → v.1 ≤ 9999 → Q (nI v.1) u')) : p_X8_takeNumberBehind o (nI w) (nI a) (nI b) (nI d) u Q := by
  unfold p_X8_takeNumberBehind
  unfold pNumB at hq
  rw [h.1.2.2.2.2.1, tW_wrd, eO_is (fun t ht => by have := wrd_lt ht; omega) (by omega)]
  refine ⟨fun z => ?_, fun z => ?_⟩
  · rw [if_pos z] at hq
    have := wrd_1 z
    exact k_go ho h (by omega) (by omega) (fun u' h' => k_takeNumber ho ha hb h' hq)
  · rw [if_neg z] at hq
    exact hq u h hd
theorem k_find {k1 cnt cx : Nat} {nm : Nat → List Nat} {Q : Int32 → xM → Prop} (hl : x_len k1 = cx) (hcx : cx < 1000) (hc : cnt ≤ cx) (hnm : ∀ j, j < cnt → isNm (nm j) ∧ gl u k1 j = Int64.ofNat (c5 (nm j))) (h : isN B n i = true) (h10 : gl u o 10 = tC B n (pS B n i)) (hq : Q (eO (fnd nm cnt (nmT B n i))) u) : p_X10_indexIn k1 (nI cnt) (gl u o 10) u Q := by
  refine k_indexIn (by omega) (by omega) ?_
  have h1 := isN_1 h
  have hn := ltr_nm h
  have hw := w1 h1.1
  have eC : gl u o 10 = Int64.ofNat (c5 (nmT B n i)) := by
    rw [h10]
    unfold tC
    rw [if_pos h1.1, if_pos h1.2]
    rfl
  have : fstO (fun j => decide (gl u k1 j = gl u o 10)) cnt = fnd nm cnt (nmT B n i) := by
    unfold fnd
    refine fstO_cg (fun j hj => ?_)
    obtain ⟨a, b⟩ := hnm j hj
    rw [b, eC]
    have q1 := c5_lt a.2.2 a.2.1
    have q2 := c5_lt hn.2.2 hn.2.1
    by_cases e : nm j = nmT B n i
    · rw [e, decide_eq_true rfl, decide_eq_true rfl]
    · rw [decide_eq_false e, decide_eq_false (fun z => e (c5_inj a.2.2 hn.2.2 (oN_inj (by omega) (by omega) z)))]
  rw [this]
  exact hq
theorem x_len_nm : x_len 85 = 7 ∧ x_len 93 = 10 ∧ x_len 100 = 4 ∧ x_len 166 = 7 ∧ x_len 174 = 10 ∧ x_len 181 = 4 := by decide +kernel
theorem fnd_lt {nm : Nat → List Nat} {cnt t : Nat} {l : List Nat} (h : fnd nm cnt l = some t) : t < cnt := fstO_lt h
theorem k_isNameTaken {o1 : Nat} {D : DR} {Q : Bool → xM → Prop} (h1 : o1 = 83 ∨ o1 = 164) (hD : CN o1 D u) (h : isN B n i = true) (h10 : gl u o 10 = tC B n (pS B n i)) (hq : Q (tkn D (nmT B n i)) u) : p_X1_isNameTaken o1 (gl u o 10) u Q := by
  obtain ⟨hL, hS, n0, n1, n2⟩ := hD
  have c0 := hS.r
  have c1 := hS.d
  have c2 := hS.e
  unfold p_X1_isNameTaken p_X7_indexOf
  rw [hL.f0]
  unfold tkn at hq
  refine k_find (cx := 7) (nm := D.2 0) (by rcases h1 with rfl | rfl; exact x_len_nm.1; exact x_len_nm.2.2.2.1) (by omega) c0 n0 h h10 ?_
  cases e0 : fnd (D.2 0) (D.1 0 0) (nmT B n i) with
  | some t =>
    rw [e0] at hq
    have := fnd_lt e0
    exact ⟨fun _ => hq, fun z => absurd z (nI_ne_m1 (by omega))⟩
  | none =>
    rw [e0] at hq
    refine ⟨fun z => absurd rfl z, fun _ => ?_⟩
    unfold p_X0_indexOf
    rw [hL.f1]
    refine k_find (cx := 10) (nm := D.2 1) (by rcases h1 with rfl | rfl; exact x_len_nm.2.1; exact x_len_nm.2.2.2.2.1) (by omega) c1 n1 h h10 ?_
    cases e1 : fnd (D.2 1) (D.1 1 0) (nmT B n i) with
    | some t =>
      rw [e1] at hq
      have := fnd_lt e1
      exact ⟨fun _ => hq, fun z => absurd z (nI_ne_m1 (by omega))⟩
    | none =>
      rw [e1] at hq
      refine ⟨fun z => absurd rfl z, fun _ => ?_⟩
      rw [hL.f2]
      refine k_find (cx := 4) (nm := D.2 2) (by rcases h1 with rfl | rfl; exact x_len_nm.2.2.1; exact x_len_nm.2.2.2.2.2) (by omega) c2 n2 h h10 ?_
      cases e2 : fnd (D.2 2) (D.1 2 0) (nmT B n i) with
      | some t =>
        rw [e2] at hq
        have := fnd_lt e2
        exact ⟨fun z => absurd z (nI_ne_m1 (by omega)), fun _ => hq⟩
      | none =>
        rw [e2] at hq
        exact ⟨fun _ => hq, fun z => absurd rfl z⟩
theorem CN.tf {o1 : Nat} {D : DR} (ho : o = 34 ∨ o = 40) (h1 : o1 = 83 ∨ o1 = 164) (h : CN o1 D u) (hf : tf o u u') : CN o1 D u' := h.cg (fun k i a b => hf.1 k i (by omega)) (fun k i a b => hf.2 k i (by omega))
theorem CN.wf {o1 : Nat} {D : DR} (ho : o = 34 ∨ o = 40) (h1 : o1 = 83 ∨ o1 = 164) (h : CN o1 D u) (hf : wf o u u') : CN o1 D u' := h.cg (fun k i a b => hf.1 k i (by omega)) (fun k i a b => hf.2 k i (by omega))
theorem l10 (h : TL o B n i u) (h1 : tK B n (pS B n i) = 1) : gl u o 10 = tC B n (pS B n i) := by
  rw [h.2.2.2.2.2.1, if_pos h1]
theorem k_takeNewName {o1 : Nat} {D : DR} {Q : Int64 → xM → Prop} (ho : o = 34 ∨ o = 40) (h1 : o1 = 83 ∨ o1 = 164) (h : CS o B n i u0 u) (hD : CN o1 D u0) (hq : run (pNew B n D i) (fun k i => ∀ u', FT o B n k i u' → wf o u0 u' → Q 0 u') (fun j => ∀ u', CS o B n j u0 u' → isNm (nmT B n i) → Q (Int64.ofNat (c5 (nmT B n i))) u')) : p_X8_takeNewName o o1 u Q := by
  unfold p_X8_takeNewName
  unfold pNew at hq
  refine k_isName h.1 ⟨fun z => ?_, fun z => ?_⟩
  · rw [if_pos z] at hq
    have hk := isN_1 z
    refine k_isNameTaken h1 (hD.tf ho h1 h.2.2) z (l10 h.1 hk.1) ⟨fun c x7 e7 => ?_, fun c => ?_⟩
    · rw [if_neg (by rw [c]; decide)] at hq
      have e : gl u o 10 = Int64.ofNat (c5 (nmT B n i)) := by
        rw [l10 h.1 hk.1]
        unfold tC
        rw [if_pos hk.1, if_pos hk.2]
        rfl
      rw [e7, e]
      exact k_go ho h (by omega) (by omega) (fun u' h' => hq u' h' (ltr_nm z))
    · rw [if_pos c] at hq
      exact k_wrong (k := 3) h.1 (fun u' h1 h2 => hq u' h1 (h.2.2.wf.tr h2))
  · rw [if_neg (by rw [z]; decide)] at hq
    exact k_wrong (k := 2) h.1 (fun u' h1 h2 => hq u' h1 (h.2.2.wf.tr h2))
theorem k_takeThing {nm : Nat → List Nat} {cnt : Nat} {a1 : Int32} {Q : Int32 → xM → Prop} (ho : o = 34 ∨ o = 40) (hc : cnt ≤ 10) (h : CS o B n i u0 u) (ha : isN B n i = true → a1 = eO (fnd nm cnt (nmT B n i))) (hq : run (pOld B n nm cnt i) (fun k i => ∀ u', FT o B n k i u' → wf o u0 u' → Q (-1) u') (fun v => ∀ u', CS o B n v.2 u0 u' → v.1 < cnt → Q (nI v.1) u')) : p_X8_takeThing o a1 u Q := by
  unfold p_X8_takeThing
  unfold pOld at hq
  refine k_isName h.1 ⟨fun z => ?_, fun z => ?_⟩
  · rw [if_pos z] at hq
    rw [ha z]
    cases e : fnd nm cnt (nmT B n i) with
    | none =>
      rw [e] at hq
      exact ⟨fun y => absurd rfl y, fun _ => k_wrong (k := 3) h.1 (fun u' h1 h2 => hq u' h1 (h.2.2.wf.tr h2))⟩
    | some t =>
      rw [e] at hq
      have ht := fnd_lt e
      have hk := isN_1 z
      exact ⟨fun _ => k_go ho h (by omega) (by omega) (fun u' h' => hq u' h' ht), fun y => absurd y (nI_ne_m1 (by omega))⟩
  · rw [if_neg (by rw [z]; decide)] at hq
    exact k_wrong (k := 2) h.1 (fun u' h1 h2 => hq u' h1 (h.2.2.wf.tr h2))
theorem k_takeRoom {o1 : Nat} {D : DR} {Q : Int32 → xM → Prop} (ho : o = 34 ∨ o = 40) (h1 : o1 = 83 ∨ o1 = 164) (h : CS o B n i u0 u) (hD : CN o1 D u0) (hq : run (pOld B n (D.2 0) (D.1 0 0) i) (fun k i => ∀ u', FT o B n k i u' → wf o u0 u' → Q (-1) u') (fun v => ∀ u', CS o B n v.2 u0 u' → v.1 < D.1 0 0 → Q (nI v.1) u')) : p_X8_takeRoom o o1 u Q := by
  obtain ⟨hL, hS, n0, n1, n2⟩ := hD.tf ho h1 h.2.2
  have c0 := hS.r
  have hx : x_len (o1 + 2) = 7 := by rcases h1 with rfl | rfl; exact x_len_nm.1; exact x_len_nm.2.2.2.1
  unfold p_X8_takeRoom p_X7_indexOf
  rw [hL.f0]
  cases z : isN B n i with
  | true => exact k_find (cx := 7) (nm := D.2 0) hx (by omega) c0 n0 z (l10 h.1 (isN_1 z).1) (k_takeThing ho (by omega) h (fun _ => rfl) hq)
  | false => exact k_indexIn (by omega) (by omega) (k_takeThing ho (by omega) h (fun y => absurd (z.symm.trans y) (by decide)) hq)
theorem k_takeDoor {o1 : Nat} {D : DR} {Q : Int32 → xM → Prop} (ho : o = 34 ∨ o = 40) (h1 : o1 = 83 ∨ o1 = 164) (h : CS o B n i u0 u) (hD : CN o1 D u0) (hq : run (pOld B n (D.2 1) (D.1 1 0) i) (fun k i => ∀ u', FT o B n k i u' → wf o u0 u' → Q (-1) u') (fun v => ∀ u', CS o B n v.2 u0 u' → v.1 < D.1 1 0 → Q (nI v.1) u')) : p_X8_takeDoor o o1 u Q := by
  obtain ⟨hL, hS, n0, n1, n2⟩ := hD.tf ho h1 h.2.2
  have c0 := hS.d
  have hx : x_len (o1 + 10) = 10 := by rcases h1 with rfl | rfl; exact x_len_nm.2.1; exact x_len_nm.2.2.2.2.1
  unfold p_X8_takeDoor p_X0_indexOf
  rw [hL.f1]
  cases z : isN B n i with
  | true => exact k_find (cx := 10) (nm := D.2 1) hx (by omega) c0 n1 z (l10 h.1 (isN_1 z).1) (k_takeThing ho (by omega) h (fun _ => rfl) hq)
  | false => exact k_indexIn (by omega) (by omega) (k_takeThing ho (by omega) h (fun y => absurd (z.symm.trans y) (by decide)) hq)
theorem k_takeEnd {D : DR} {oth : Option Nat} {Q : Int32 → xM → Prop} (h : CS 34 B n i u0 u) (hD : CN 164 D u0) (ho : ∀ t, oth = some t → t < 1000) (hq : run (pEnd B n D oth i) (fun k i => ∀ u', FT 34 B n k i u' → wf 34 u0 u' → Q (-1) u') (fun v => ∀ u', CS 34 B n v.2 u0 u' → v.1 < 8 → Q (nI v.1) u')) : p_X8_takeEnd 34 164 (eO oth) u Q := by
  obtain ⟨hL, hS, n0, n1, n2⟩ := hD.tf (Or.inl rfl) (Or.inr rfl) h.2.2
  have c0 := hS.r
  have oth_eq : ∀ t, t < 1000 → ((nI t = eO oth) = (oth = some t)) := fun t ht => by
    rw [← eO_is ho ht]
    exact propext ⟨Eq.symm, Eq.symm⟩
  unfold p_X8_takeEnd
  unfold pEnd at hq
  rw [h.1.2.2.2.2.1, tW_wrd, show ((eO (wrd B n i)) = (16 : Int32)) = (wrd B n i = some 16) from eO_is (w := 16) (fun t ht => by have := wrd_lt ht; omega) (by omega)]
  refine ⟨fun z => ?_, fun z => ?_⟩
  · rw [if_neg z] at hq
    unfold p_X8_takeEnd_L14
    refine ⟨fun y => absurd y (by decide), fun _ => k_isName h.1 ⟨fun y => ?_, fun y => ?_⟩⟩
    · rw [if_pos y] at hq
      have hk := isN_1 y
      unfold p_X8_takeEnd_L34 p_X7_indexOf
      rw [hL.f0]
      refine ⟨fun _ => k_find (cx := 7) (nm := D.2 0) x_len_nm.2.2.2.1 (by omega) c0 n0 y (l10 h.1 hk.1) ?_, fun x => absurd x (by decide)⟩
      unfold p_X8_takeEnd_L54
      cases e : fnd (D.2 0) (D.1 0 0) (nmT B n i) with
      | none =>
        rw [e] at hq
        exact ⟨fun x => absurd rfl x, fun _ => k_wrong (k := 3) h.1 (fun u' h1 h2 => hq u' h1 (h.2.2.wf.tr h2))⟩
      | some t =>
        rw [e] at hq
        have ht := fnd_lt e
        dsimp only [oE] at hq
        refine ⟨fun _ => ?_, fun x => absurd x (nI_ne_m1 (by omega))⟩
        show (¬ nI t = eO oth → _) ∧ (nI t = eO oth → _)
        rw [oth_eq t (by omega)]
        refine ⟨fun x => ?_, fun x => ?_⟩
        · rw [if_neg x] at hq
          exact k_go (Or.inl rfl) h (by omega) (by omega) (fun u' h' => hq u' h' (by dsimp only; omega))
        · rw [if_pos x] at hq
          exact k_wrong (k := 5) h.1 (fun u' h1 h2 => hq u' h1 (h.2.2.wf.tr h2))
    · rw [if_neg (by rw [y]; decide)] at hq
      exact k_wrong (k := 2) h.1 (fun u' h1 h2 => hq u' h1 (h.2.2.wf.tr h2))
  · rw [if_pos z] at hq
    have hk := wrd_1 z
    unfold p_X8_takeEnd_L14 p_X8_takeEnd_L34 p_X8_takeEnd_L54
    refine ⟨fun _ => ⟨fun x => absurd x (by decide), fun _ => ⟨fun _ => ?_, fun x => absurd x (by decide)⟩⟩, fun x => absurd x (by decide)⟩
    rw [show ((7 : Int32) = eO oth) = (oth = some 7) from oth_eq 7 (by omega)]
    refine ⟨fun x => ?_, fun x => ?_⟩
    · rw [if_neg x] at hq
      exact k_go (Or.inl rfl) h (by omega) (by omega) (fun u' h' => hq u' h' (by dsimp only; omega))
    · rw [if_pos x] at hq
      exact k_wrong (k := 5) h.1 (fun u' h1 h2 => hq u' h1 (h.2.2.wf.tr h2))
end TAKE
