/-! ===== the reference takes tokens ===== -/
def rg (u u' : xM) : Prop := (∀ k i, ¬ (k = 272 ∧ 12 ≤ i ∧ i ≤ 15) → ¬ (k = 273 ∧ 2096 ≤ i) → gi u' k i = gi u k i) ∧ ∀ k i, ¬ (k = 274 ∧ 84 ≤ i) → gl u' k i = gl u k i
def rgf (u u' : xM) : Prop := (∀ k i, ¬ (k = 272 ∧ 12 ≤ i ∧ i ≤ 18 ∧ i ≠ 16) → ¬ (k = 273 ∧ 2096 ≤ i) → gi u' k i = gi u k i) ∧ ∀ k i, ¬ (k = 274 ∧ 84 ≤ i) → gl u' k i = gl u k i
def RC (B : Nat → Nat) (n i : Nat) (u0 u : xM) : Prop := RTK B n i u ∧ RTX B n u ∧ gi u 272 18 = 0 ∧ rg u0 u
def RFT (B : Nat → Nat) (n k i : Nat) (u : xM) : Prop := gi u 272 18 = nI (if tK B n (pS B n i) = 4 then 1 else k) ∧ gi u 272 17 = nI (tS B n (pS B n i))
def RE (B : Nat → Nat) (n : Nat) (u0 : xM) (Q : xM → Prop) (k i : Nat) : Prop := ∀ u', RFT B n k i u' → rgf u0 u' → Q u'
def RNS (b cnt : Nat) (nm : Nat → List Nat) (u : xM) : Prop := ∀ j, j < cnt → isNm (nm j) ∧ gl u 274 (b + j) = Int64.ofNat (c8 (nm j))
section ROPS
variable {B : Nat → Nat} {n : Nat} {u u' u0 : xM} {i : Nat}
theorem rg.rf : rg u u := ⟨fun _ _ _ _ => rfl, fun _ _ _ => rfl⟩
theorem rg.tr {w : xM} (h : rg u u') (h' : rg u' w) : rg u w := ⟨fun k i a b => (h'.1 k i a b).trans (h.1 k i a b), fun k i a => (h'.2 k i a).trans (h.2 k i a)⟩
theorem rg.rgf (h : rg u u') : rgf u u' := ⟨fun k i a b => h.1 k i (by omega) b, h.2⟩
theorem rgf.tr {w : xM} (h : rgf u u') (h' : rgf u' w) : rgf u w := ⟨fun k i a b => (h'.1 k i a b).trans (h.1 k i a b), fun k i a => (h'.2 k i a).trans (h.2 k i a)⟩
theorem rfr.rg (h : rfr u u') : rg u u' := ⟨fun k i a _ => h.1 k i a, fun k i _ => h.2 k i⟩
theorem rg.si {j : Nat} {x : Int32} (h : 2096 ≤ j) : rg u (si u 273 j x) := ⟨fun k i _ a => by rw [gi_si, if_neg (by omega)], fun _ _ _ => rfl⟩
theorem RTX.rg (h : RTX B n u) (hf : rg u u') : RTX B n u' := ⟨(hf.1 272 11 (by omega) (by omega)).trans h.1, h.2.1, fun j hj => ⟨(hf.1 279 j (by omega) (by omega)).trans (h.2.2 j hj).1, (h.2.2 j hj).2⟩⟩
/-- cells of the draft have been written -/
theorem RC.w (h : RC B n i u0 u) (hg : ∀ k j, ¬ (k = 273 ∧ 2096 ≤ j) → gi u' k j = gi u k j) (hl : ∀ k j, ¬ (k = 274 ∧ 84 ≤ j) → gl u' k j = gl u k j) : RC B n i u0 u' := by
  obtain ⟨⟨a1, a2, a3, a4, a5, a6⟩, b, c, d⟩ := h
  have f : rg u u' := ⟨fun k i _ x => hg k i x, hl⟩
  refine ⟨⟨a1, ?_, ?_, ?_, fun z => ?_, fun z => ?_⟩, b.rg f, ?_, d.tr f⟩
  · rw [hg 272 12 (by omega)]; exact a2
  · rw [hg 272 13 (by omega)]; exact a3
  · rw [hg 272 14 (by omega)]; exact a4
  · rw [hg 272 15 (by omega)]; exact a5 z
  · rw [hg 272 15 (by omega)]; exact a6 z
  · rw [hg 272 18 (by omega)]; exact c
theorem RC.si {j : Nat} {x : Int32} (h : RC B n i u0 u) (hj : 2096 ≤ j) : RC B n i u0 (si u 273 j x) := h.w (fun k i a => by rw [gi_si, if_neg (by omega)]) (fun _ _ _ => rfl)
theorem RC.sl {j : Nat} {x : Int64} (h : RC B n i u0 u) (hj : 84 ≤ j) : RC B n i u0 (sl u 274 j x) := h.w (fun _ _ _ => rfl) (fun k i a => by rw [gl_sl, if_neg (by omega)])
theorem RNS.cg {b cnt : Nat} {nm : Nat → List Nat} (h : RNS b cnt nm u) (hl : ∀ j, j < cnt → gl u' 274 (b + j) = gl u 274 (b + j)) : RNS b cnt nm u' := fun j hj => by
  rw [hl j hj]
  exact h j hj
theorem r_go {Q : xM → Prop} (h : RC B n i u0 u) (h0 : tK B n (pS B n i) ≠ 0) (h4 : tK B n (pS B n i) ≠ 4) (hq : ∀ u', RC B n (i + 1) u0 u' → rfr u u' → Q u') : p_X11_ahead u Q := by
  obtain ⟨h1, h2, h3, h5⟩ := h
  exact r_ahead h2 (i := i + 1) h1.2.2.2.1 (rch_s h1.1 h0 h4) (fun u' a b c => hq u' ⟨a, b, (c.1 272 18 (by omega)).trans h3, h5.tr c.rg⟩ c)
theorem r_errs {k : Nat} {Q : Bool → xM → Prop} (h : RC B n i u0 u) (hq : RE B n u0 (Q false) k i) : p_X11_errs (nI k) u Q := by
  obtain ⟨h1, h2, h3, h5⟩ := h
  have hk := kr_is (a := 0) (tK_le (B := B) (n := n) (pS B n i))
  unfold p_X11_errs
  refine ⟨fun z => absurd h3 z, fun _ => ?_⟩
  rw [show (gi u 272 12 = (1 : Int32)) = _ from h1.k12 (a := 1) (by omega), hk.2.2.2.2.1]
  refine ⟨fun z u3 e3 u4 e4 => hq u4 ⟨?_, ?_⟩ ?_, fun z u3 e3 u4 e4 => hq u4 ⟨?_, ?_⟩ ?_⟩
  · rw [e4, gi_si, if_neg (by omega), e3, gi_at, if_neg z]
  · rw [e4, gi_at, e3, gi_si, if_neg (by omega), h1.2.2.1]
  · exact h5.rgf.tr ⟨fun k i a b => by rw [e4, gi_si, if_neg (by omega), e3, gi_si, if_neg (by omega)], fun k i a => by rw [e4, gl_si, e3, gl_si]⟩
  · rw [e4, gi_si, if_neg (by omega), e3, gi_at, if_pos z]; rfl
  · rw [e4, gi_at, e3, gi_si, if_neg (by omega), h1.2.2.1]
  · exact h5.rgf.tr ⟨fun k i a b => by rw [e4, gi_si, if_neg (by omega), e3, gi_si, if_neg (by omega)], fun k i a => by rw [e4, gl_si, e3, gl_si]⟩
theorem rw_is {k : Nat} (hk : k < 28) : (eO (rwd B n i) = nI k) = (wrd B n i = some (ko k)) := by
  rw [eO_is (fun t ht => by have := rwd_lt ht; omega) (by omega), rwd_is hk]
theorem r_wantWord {w k : Nat} {Q : Bool → xM → Prop} (hk : k < 28) (hw : ko k = w) (h : RC B n i u0 u) (hq : run (pWord B n w i) (RE B n u0 (Q false)) (fun j => ∀ u', RC B n j u0 u' → rfr u u' → Q true u')) : p_X11_wantWord (nI k) u Q := by
  subst hw
  unfold p_X11_wantWord
  unfold pWord at hq
  refine r_inWords h.2.1 h.1 ?_
  rw [rw_is hk]
  refine ⟨fun z => ?_, fun z => ?_⟩
  · rw [if_pos z] at hq
    have := wrd_1 z
    exact r_go h (by omega) (by omega) hq
  · rw [if_neg z] at hq
    exact r_errs (k := 2) h hq
theorem r_isThere {k w : Nat} {Q : Bool → xM → Prop} (hk : k < 28) (hw : ko k = w) (h : RC B n i u0 u) (h1 : wrd B n i = some w → ∀ u', RC B n (i + 1) u0 u' → rfr u u' → Q true u') (h2 : wrd B n i ≠ some w → Q false u) : p_X11_isThere (nI k) u Q := by
  subst hw
  unfold p_X11_isThere
  refine r_inWords h.2.1 h.1 ?_
  rw [rw_is hk]
  refine ⟨fun z => ?_, fun z => h2 z⟩
  have := wrd_1 z
  exact r_go h (by omega) (by omega) (h1 z)
theorem r_isSign {c : Nat} {Q : Bool → xM → Prop} (hc : c < 256) (h : RC B n i u0 u) (hq : Q (sgT B n i c) u) : p_X11_isSign (nI c) u Q := by
  have hk := kr_is (a := 0) (tK_le (B := B) (n := n) (pS B n i))
  unfold p_X11_isSign
  rw [show (gi u 272 12 = (4 : Int32)) = _ from h.1.k12 (a := 4) (by omega), hk.2.2.2.1]
  unfold sgT at hq
  refine ⟨fun z => ?_, fun z => ?_⟩
  · rw [decide_eq_false z, Bool.false_and] at hq; exact hq
  · have hs : tS B n (pS B n i) < n := by
      have : ¬ n ≤ tS B n (pS B n i) := by rw [← tK_0, z]; decide
      omega
    have hb := (h.2.1.2.2 _ hs).2
    rw [decide_eq_true z, Bool.true_and] at hq
    rw [h.1.2.2.2.2.2 z, cEQ (by omega) (by omega)]
    refine ⟨fun y => ?_, fun y => ?_⟩
    · rw [decide_eq_false y] at hq; exact hq
    · rw [decide_eq_true y] at hq; exact hq
theorem r_wantStop {Q : Bool → xM → Prop} (h : RC B n i u0 u) (hq : run (pStop B n i) (RE B n u0 (Q false)) (fun j => ∀ u', RC B n j u0 u' → rfr u u' → Q true u')) : p_X11_wantSign 59 u Q := by
  unfold p_X11_wantSign
  unfold pStop at hq
  refine r_isSign (c := 59) (by omega) h ⟨fun z => ?_, fun z => ?_⟩
  · rw [if_pos z] at hq
    unfold sgT at z
    simp only [Bool.and_eq_true, decide_eq_true_eq] at z
    exact r_go h (by omega) (by omega) hq
  · rw [if_neg (by rw [z]; decide)] at hq
    exact r_errs (k := 2) h hq
theorem r_number {c a b : Nat} {Q : Bool → xM → Prop} (hc : 2096 ≤ c ∧ c < 3668) (ha : a < 100000) (hb : b < 100000) (h : RC B n i u0 u) (hq : run (pNum B n a b i) (RE B n u0 (Q false)) (fun v => ∀ u', RC B n v.2 u0 u' → rfr (si u 273 c (nI v.1)) u' → Q true u')) : p_X11_number (nI c) (nI a) (nI b) u Q := by
  have hk := kr_is (a := 0) (tK_le (B := B) (n := n) (pS B n i))
  unfold p_X11_number
  unfold pNum at hq
  rw [show (gi u 272 12 = (3 : Int32)) = _ from h.1.k12 (a := 3) (by omega), hk.2.2.1]
  refine ⟨fun z => ?_, fun z => ?_⟩
  · rw [if_pos z] at hq
    have hv := vl_lt z
    rw [h.1.2.2.2.2.1 z, cLT (by omega) (by omega), cLE (by omega) (by omega), cCL (by omega)]
    refine ⟨fun y => ?_, fun y => ⟨fun y2 => ⟨cIN (by omega) (by omega), fun u7 e7 => ?_⟩, fun y2 => ?_⟩⟩
    · rw [if_pos (Or.inl y)] at hq
      exact r_errs (k := 4) h hq
    · rw [if_neg (by omega)] at hq
      rw [e7]
      exact r_go (h.si hc.1) (by omega) (by omega) hq
    · rw [if_pos (Or.inr (by omega))] at hq
      exact r_errs (k := 4) h hq
  · rw [if_neg z] at hq
    exact r_errs (k := 2) h hq
theorem r_isName {Q : Bool → xM → Prop} (hX : RTX B n u) (h : RTK B n i u) (hq : Q (isN B n i) u) : p_X11_isName u Q := by
  have hk := kr_is (a := 0) (tK_le (B := B) (n := n) (pS B n i))
  have hn := hX.2.1
  unfold p_X11_isName
  rw [show (gi u 272 12 = (2 : Int32)) = _ from h.k12 (a := 2) (by omega), hk.1]
  unfold isN at hq
  refine ⟨fun z => ?_, fun z => ?_⟩
  · rw [decide_eq_false z, Bool.false_and] at hq; exact hq
  · have hs : tS B n (pS B n i) < n := by
      have : ¬ n ≤ tS B n (pS B n i) := by rw [← tK_0, z]; decide
      omega
    have hE := tE_lt hs
    have hEn := tE_ln (B := B) (pS_ln (B := B) (n := n) i)
    rw [decide_eq_true z, Bool.true_and] at hq
    rw [h.2.2.2.1, h.2.2.1, cS (by omega), l_8, cLT (by omega) (by omega)]
    refine ⟨fun y => ?_, fun y => r_inWords hX h ?_⟩
    · rw [decide_eq_false (by omega), Bool.false_and] at hq; exact hq
    · rw [decide_eq_true (by omega), Bool.true_and] at hq
      have e : wrd B n i = wdx (ltr B n (pS B n i)) := by
        unfold wrd
        rw [if_pos ⟨z, by omega⟩]
      rw [← e] at hq
      cases c : rwd B n i with
      | none =>
        rw [rwd_none] at c
        rw [c] at hq
        exact ⟨fun x => absurd rfl x, fun _ => hq⟩
      | some k =>
        have hk := rwd_lt c
        rw [rwd_is hk] at c
        rw [c] at hq
        exact ⟨fun _ => hq, fun x => absurd x (nI_ne_m1 (by omega))⟩
theorem w_let8 {a c : Nat} (hc : c < 256) (ha : a < 72057594037927936) : (Int64.ofNat a <<< ((8 : Int32).toInt64 &&& 63)) ||| (nI c).toInt64 = Int64.ofNat (a * 256 + c) := by
  rw [nI_L (by omega), ← oN_L]
  apply Int64.toBitVec_inj.mp
  rw [Int64.toBitVec_or, Int64.toBitVec_shiftLeft]
  have e : (((8 : Int32).toInt64 &&& 63).toBitVec.smod 64) = 8#64 := by decide +kernel
  rw [e, Int64.toBitVec_ofNat', Int64.toBitVec_ofNat', Int64.toBitVec_ofNat']
  apply BitVec.eq_of_toNat_eq
  simp only [BitVec.shiftLeft_eq', BitVec.toNat_or, BitVec.toNat_shiftLeft, BitVec.toNat_ofNat, Nat.shiftLeft_eq, Nat.reducePow, Nat.reduceMod]
  have h := Nat.two_pow_add_eq_or_of_lt (i := 8) (b := c) (by omega) a
  rw [Nat.mod_eq_of_lt (by omega), Nat.mod_eq_of_lt (by omega), Nat.mod_eq_of_lt (by omega), Nat.mod_eq_of_lt (by omega), Nat.mul_comm a 256]
  exact h.symm
theorem r_nameHere {Q : Int64 → xM → Prop} (hX : RTX B n u) (h : RTK B n i u) (hN : isN B n i = true) (hq : Q (Int64.ofNat (c8 (nmT B n i))) u) : p_X11_nameHere u Q := by
  have hn := hX.2.1
  have h1 := isN_1 hN
  have hw := w1 h1.1
  have hs : tS B n (pS B n i) < n := by
    have : ¬ n ≤ tS B n (pS B n i) := by rw [← tK_0, h1.1]; decide
    omega
  have hE := tE_lt hs
  have hEn := tE_ln (B := B) (pS_ln (B := B) (n := n) i)
  have h8 := h1.2
  have eL : nmT B n i = seg B (tS B n (pS B n i)) (tE B n (pS B n i) - tS B n (pS B n i)) := rfl
  have hlow := hw.1
  rw [eL] at hq hlow
  have h13 := h.2.2.1
  have h14 := h.2.2.2.1
  generalize tS B n (pS B n i) = S at *
  generalize tE B n (pS B n i) = E at *
  unfold p_X11_nameHere
  intro x1 e1
  rw [h13] at e1
  subst e1
  refine xloop (fun m p (v : Int64) => p_X11_nameHere_L7 Q m v (nI p) u) (fun p v => v = Int64.ofNat (c8 (seg B S (p - S)))) E S 0 (by omega) (by rw [Nat.sub_self]; rfl) ?_ ?_
  · intro m v hv
    unfold p_X11_nameHere_L7
    rw [h14, hv]
    exact ⟨fun _ => hq, fun z => absurd (by rw [cLE (by omega) (by omega)]; exact Nat.le_refl _) z⟩
  · intro m p v hp1 hp2 hv kk
    unfold p_X11_nameHere_L7
    rw [h14, cLE (by omega) (by omega)]
    refine ⟨fun z => absurd z (by omega), fun _ => r_byteAt hX (by omega) ?_⟩
    intro x4 e4 x5 e5
    rw [l_1, cA] at e5
    rw [e5]
    refine kk x4 ?_
    have hb := (hX.2.2 p (by omega)).2
    have eb : byt B n p = nI (B p) := if_pos (by omega)
    have hl7 : c8 (seg B S (p - S)) < 72057594037927936 := by
      have e1 := c8_r (seg B S (p - S)).reverse
      rw [List.reverse_reverse] at e1
      have a1 := r8_lt (seg B S (p - S)).reverse (fun c hc => by
        obtain ⟨j, hj, rfl⟩ := seg_mem (List.mem_reverse.mp hc)
        refine hlow _ ?_
        have : (seg B S (E - S)).getD j 0 = B (S + j) := seg_getD (by omega)
        rw [← this, List.getD_eq_getElem?_getD, List.getElem?_eq_getElem (by rw [seg_len]; omega)]
        exact List.getElem_mem _)
      rw [List.length_reverse, seg_len] at a1
      have a2 : 256 ^ (p - S) ≤ 256 ^ 7 := Nat.pow_le_pow_right (by omega) (by omega)
      have a3 : (256 : Nat) ^ 7 = 72057594037927936 := by decide
      omega
    rw [e4, hv, eb, w_let8 hb hl7, show p + 1 - S = (p - S) + 1 by omega]
    show Int64.ofNat (c8 (seg B S (p - S)) * 256 + B p) = Int64.ofNat (c8 (seg B S (p - S) ++ [B (S + (p - S))]))
    rw [c8_app, show S + (p - S) = p by omega]
theorem r_find {b cnt : Nat} {nm : Nat → List Nat} {Q : Int32 → xM → Prop} (hX : RTX B n u) (h : RTK B n i u) (hN : isN B n i = true) (hb : b + cnt ≤ 126) (hnm : RNS b cnt nm u) (hq : Q (eO (fnd nm cnt (nmT B n i))) u) : p_X11_findHere (nI b) (nI cnt) u Q := by
  unfold p_X11_findHere
  have hn := ltr_nm hN
  refine xloop (fun m k (_ : Unit) => p_X11_findHere_L2 Q m (nI b) (nI cnt) (nI k) u) (fun k _ => ∀ j, j < k → ¬ nm j = nmT B n i) cnt 0 () (by omega) (fun j hj => absurd hj (Nat.not_lt_zero _)) ?_ ?_
  · intro m _ hs
    unfold p_X11_findHere_L2
    unfold fnd at hq
    rw [fstO_no (fun j hj => decide_eq_false (hs j hj))] at hq
    exact ⟨fun _ => hq, fun z => absurd (by rw [cLE (by omega) (by omega)]; exact Nat.le_refl _) z⟩
  · intro m k _ _ hk hs kk
    unfold p_X11_findHere_L2
    rw [cLE (by omega) (by omega), cA, cCL (by omega)]
    refine ⟨fun z => absurd z (by omega), fun _ => ⟨cIN (by omega) (by omega), r_nameHere hX h hN ?_⟩⟩
    obtain ⟨a1, a2⟩ := hnm k hk
    have e : (Int64.ofNat (c8 (nm k)) = Int64.ofNat (c8 (nmT B n i))) = (nm k = nmT B n i) := propext ⟨fun z => c8_inj a1.2.2 hn.2.2 (oN_inj (c8_lt a1.2.2 a1.2.1) (c8_lt hn.2.2 hn.2.1) z), fun z => by rw [z]⟩
    rw [a2, lg_cmp_eq, e]
    refine ⟨fun z x6 e6 => ?_, fun z => ?_⟩
    · rw [l_1, cA] at e6
      rw [e6]
      refine kk () (fun j hj => ?_)
      by_cases y : j = k
      · rw [y]; exact z
      · exact hs j (by omega)
    · unfold fnd at hq
      rw [fstO_at hk (fun j hj => decide_eq_false (hs j hj)) (decide_eq_true z)] at hq
      exact hq
theorem r_oldOne {b cnt c : Nat} {nm : Nat → List Nat} {Q : Bool → xM → Prop} (hc : 2096 ≤ c ∧ c < 3668) (hb : b + cnt ≤ 126) (hnm : RNS b cnt nm u) (h : RC B n i u0 u) (hq : run (pOld B n nm cnt i) (RE B n u0 (Q false)) (fun v => ∀ u', RC B n v.2 u0 u' → rfr (si u 273 c (nI v.1)) u' → v.1 < cnt → Q true u')) : p_X11_oldOne (nI b) (nI cnt) (nI c) u Q := by
  unfold p_X11_oldOne
  unfold pOld at hq
  refine r_isName h.2.1 h.1 ⟨fun z => ?_, fun z => ?_⟩
  · rw [if_pos z] at hq
    refine r_find h.2.1 h.1 z hb hnm ⟨cIN (by omega) (by omega), fun u7 e7 => ⟨cIN (by omega) (by omega), ?_⟩⟩
    rw [cCL (by omega)] at e7 ⊢
    have g7 : gi u7 273 c = eO (fnd nm cnt (nmT B n i)) := by rw [e7, gi_at]
    rw [g7]
    have h7 : RC B n i u0 u7 := by rw [e7]; exact h.si hc.1
    cases e : fnd nm cnt (nmT B n i) with
    | none =>
      rw [e] at hq
      exact ⟨fun y => absurd rfl y, fun _ => r_errs (k := 3) h7 hq⟩
    | some t =>
      rw [e] at hq e7
      have ht := fnd_lt e
      have hk := isN_1 z
      refine ⟨fun _ => r_go h7 (by omega) (by omega) (fun u' a b => hq u' a (by rw [e7] at b; exact b) ht), fun y => absurd y (nI_ne_m1 (by omega))⟩
  · rw [if_neg (by rw [z]; decide)] at hq
    exact r_errs (k := 2) h hq
theorem isN_w (h : isN B n i = true) : wrd B n i = none := by
  have h1 := isN_1 h
  unfold isN at h
  simp only [Bool.and_eq_true, decide_eq_true_eq] at h
  unfold wrd
  rw [if_pos h1]
  exact Option.isNone_iff_eq_none.mp h.2.2
theorem pEnd_same {D : DR} {e : Nat} (hc : D.1 0 0 ≤ 7) : pEnd B n D (some e) i = if (e = 7 ∧ wrd B n i = some 16) ∨ (isN B n i = true ∧ fnd (D.2 0) (D.1 0 0) (nmT B n i) = some e) then er 5 i else pEnd B n D none i := by
  unfold pEnd
  by_cases z : wrd B n i = some 16
  · rw [if_pos z, if_pos z, if_neg (show ¬ (none : Option Nat) = some 7 by simp)]
    by_cases y : e = 7
    · rw [if_pos (by rw [y]), if_pos (Or.inl ⟨y, z⟩)]
    · rw [if_neg (fun x => y (by cases x; rfl)), if_neg]
      rintro (x | x)
      · exact y x.1
      · rw [isN_w x.1] at z
        cases z
  · rw [if_neg z, if_neg z]
    by_cases y : isN B n i = true
    · rw [if_pos y, if_pos y]
      cases f : fnd (D.2 0) (D.1 0 0) (nmT B n i) with
      | none =>
        rw [if_neg]
        · rfl
        · rintro (x | x)
          · exact z x.2
          · cases x.2
      | some t =>
        show (if some e = some t then er 5 i else ok (t, i + 1)) = _
        by_cases x : e = t
        · rw [if_pos (by rw [x]), if_pos (Or.inr ⟨y, by rw [x]⟩)]
        · rw [if_neg (fun q => x (by cases q; rfl)), if_neg]
          · rfl
          · rintro (q | q)
            · exact z q.2
            · have := q.2
              cases this
              exact x rfl
    · rw [if_neg y, if_neg y, if_neg]
      rintro (x | x)
      · exact z x.2
      · exact y x.1
theorem r_endTo {D : DR} {c : Nat} {Q : Bool → xM → Prop} (hc : 2096 ≤ c ∧ c < 3668) (hD : D.1 0 0 ≤ 7) (hcnt : gi u 273 2096 = nI (D.1 0 0)) (hnm : RNS 84 (D.1 0 0) (D.2 0) u) (h : RC B n i u0 u) (hq : run (pEnd B n D none i) (RE B n u0 (Q false)) (fun v => ∀ u', RC B n v.2 u0 u' → rfr (si u 273 c (eR v.1)) u' → (v.1 < D.1 0 0 ∨ v.1 = 7) → Q true u')) : p_X11_endTo (nI c) u Q := by
  unfold p_X11_endTo
  unfold pEnd at hq
  refine r_inWords h.2.1 h.1 ?_
  rw [show (eO (rwd B n i) = (16 : Int32)) = (wrd B n i = some 16) from rw_is (k := 16) (by omega)]
  refine ⟨fun z => ⟨cIN (by omega) (by omega), fun u5 e5 => ?_⟩, fun z => ⟨cIN (a := 2096) (by omega) (by omega), ?_⟩⟩
  · rw [if_pos z, if_neg (by simp)] at hq
    rw [cCL (by omega)] at e5
    rw [e5]
    have := wrd_1 z
    exact r_go (h.si hc.1) (by omega) (by omega) (fun u' a b => hq u' a b (Or.inr rfl))
  · rw [if_neg z] at hq
    rw [show ((2096 : Int32).toNatClampNeg) = 2096 from by decide, hcnt]
    refine r_oldOne (b := 84) hc (by omega) hnm h ?_
    unfold pOld
    by_cases y : isN B n i = true
    · rw [if_pos y] at hq ⊢
      cases f : fnd (D.2 0) (D.1 0 0) (nmT B n i) with
      | none => rw [f] at hq; exact hq
      | some t =>
        rw [f] at hq
        have ht := fnd_lt f
        intro u' a b _
        refine hq u' a ?_ (Or.inl ht)
        show rfr (si u 273 c (eR t)) u'
        unfold eR
        rw [if_neg (by omega)]
        exact b
    · rw [if_neg y] at hq ⊢
      exact hq
end ROPS
