/-! ===== the reference looks at tokens ===== -/
def byt (B : Nat → Nat) (n p : Nat) : Int32 := if p < n then nI (B p) else -1
def RTX (B : Nat → Nat) (n : Nat) (u : xM) : Prop := gi u 272 11 = nI n ∧ n ≤ 900 ∧ ∀ j, j < n → gi u 279 j = sb (B j) ∧ B j < 256
def kr (k : Nat) : Nat := if k = 0 then 0 else if k = 4 then 1 else k + 1
def RTK (B : Nat → Nat) (n i : Nat) (u : xM) : Prop := rch B n i ∧ gi u 272 12 = nI (kr (tK B n (pS B n i))) ∧ gi u 272 13 = nI (tS B n (pS B n i)) ∧ gi u 272 14 = nI (tE B n (pS B n i)) ∧ (tK B n (pS B n i) = 2 → gi u 272 15 = nI (vl B n i)) ∧ (tK B n (pS B n i) = 3 → gi u 272 15 = nI (B (tS B n (pS B n i))))
def rfr (u u' : xM) : Prop := (∀ k i, ¬ (k = 272 ∧ 12 ≤ i ∧ i ≤ 15) → gi u' k i = gi u k i) ∧ ∀ k i, gl u' k i = gl u k i
section AHEAD
variable {B : Nat → Nat} {n : Nat} {u u' u0 : xM} {i : Nat} {Q : xM → Prop}
theorem rfr.rf : rfr u u := ⟨fun _ _ _ => rfl, fun _ _ => rfl⟩
theorem rfr.tr {w : xM} (h : rfr u u') (h' : rfr u' w) : rfr u w := ⟨fun k i a => (h'.1 k i a).trans (h.1 k i a), fun k i => (h'.2 k i).trans (h.2 k i)⟩
theorem rfr.si {j : Nat} {x : Int32} (h : 12 ≤ j ∧ j ≤ 15) : rfr u (si u 272 j x) := ⟨fun k i a => by rw [gi_si, if_neg (by omega)], fun _ _ => rfl⟩
theorem RTX.cg (h : RTX B n u) (hf : rfr u u') : RTX B n u' := ⟨(hf.1 272 11 (by omega)).trans h.1, h.2.1, fun j hj => ⟨(hf.1 279 j (by omega)).trans (h.2.2 j hj).1, (h.2.2 j hj).2⟩⟩
theorem r_byteAt {p : Nat} {Q : Int32 → xM → Prop} (h : RTX B n u) (hp : p ≤ 1000) (hq : Q (byt B n p) u) : p_X11_byteAt (nI p) u Q := by
  obtain ⟨h1, h2, h3⟩ := h
  unfold p_X11_byteAt
  unfold byt at hq
  rw [h1, cLE (by omega) (by omega), cCL (by omega)]
  refine ⟨fun z => ?_, fun z => ⟨cIN (by omega) (by omega), ?_⟩⟩
  · rw [if_neg (by omega)] at hq; exact hq
  · have := h3 p (by omega)
    rw [if_pos (by omega)] at hq
    rw [this.1, (sbC this.2).2.2.2.2.2.2.2.2.2.2.2]
    exact hq
theorem byt_is {p c : Nat} (h : RTX B n u) (hc : c < 1000) : (byt B n p = nI c) = (p < n ∧ B p = c) := by
  unfold byt
  by_cases z : p < n
  · have := (h.2.2 p z).2
    rw [if_pos z, cEQ (by omega) (by omega)]
    simp [z]
  · rw [if_neg z]
    exact propext ⟨fun y => absurd y.symm (nI_ne_m1 (by omega)), fun y => absurd y.1 z⟩
theorem byt_m1 {p : Nat} (h : RTX B n u) : (byt B n p = -1) = (n ≤ p) := by
  unfold byt
  by_cases z : p < n
  · have := (h.2.2 p z).2
    rw [if_pos z]
    exact propext ⟨fun y => absurd y (nI_ne_m1 (by omega)), fun y => absurd y (by omega)⟩
  · rw [if_neg z]
    exact propext ⟨fun _ => by omega, fun _ => rfl⟩
theorem r_isSmall {p : Nat} {Q : Bool → xM → Prop} (h : RTX B n u) (hq : Q (decide (p < n) && cL (B p)) u) : p_X11_isSmall (byt B n p) u Q := by
  unfold p_X11_isSmall byt
  by_cases z : p < n
  · have := (h.2.2 p z).2
    rw [decide_eq_true z, Bool.true_and] at hq
    unfold cL at hq
    rw [if_pos z, l_97, l_122, cLT (by omega) (by omega), cLT (by omega) (by omega)]
    refine ⟨fun y => ?_, fun y => ⟨fun x => ?_, fun x => ?_⟩⟩
    · rw [decide_eq_false (show ¬ 97 ≤ B p by omega)] at hq; exact hq
    · rw [decide_eq_false (show ¬ B p ≤ 122 by omega), Bool.and_false] at hq; exact hq
    · rw [decide_eq_true (show 97 ≤ B p by omega), decide_eq_true (show B p ≤ 122 by omega)] at hq; exact hq
  · rw [decide_eq_false z, Bool.false_and] at hq
    rw [if_neg z]
    exact ⟨fun _ => hq, fun y => absurd (by decide) y⟩
theorem r_isDigit {p : Nat} {Q : Bool → xM → Prop} (h : RTX B n u) (hq : Q (decide (p < n) && cDg (B p)) u) : p_X11_isDigit (byt B n p) u Q := by
  unfold p_X11_isDigit byt
  by_cases z : p < n
  · have := (h.2.2 p z).2
    rw [decide_eq_true z, Bool.true_and] at hq
    unfold cDg at hq
    rw [if_pos z, l_48, show (57 : Int32) = nI 57 from by decide +kernel, cLT (by omega) (by omega), cLT (by omega) (by omega)]
    refine ⟨fun y => ?_, fun y => ⟨fun x => ?_, fun x => ?_⟩⟩
    · rw [decide_eq_false (show ¬ 48 ≤ B p by omega)] at hq; exact hq
    · rw [decide_eq_false (show ¬ B p ≤ 57 by omega), Bool.and_false] at hq; exact hq
    · rw [decide_eq_true (show 48 ≤ B p by omega), decide_eq_true (show B p ≤ 57 by omega)] at hq; exact hq
  · rw [decide_eq_false z, Bool.false_and] at hq
    rw [if_neg z]
    exact ⟨fun _ => hq, fun y => absurd (by decide) y⟩
theorem r_word {p0 : Nat} (h : RTX B n u) (hp : p0 ≤ n) (h14 : gi u 272 14 = nI p0) (hq : ∀ u', gi u' 272 14 = nI (U (fun i => cL (B i)) n p0) → gi u' 272 12 = nI 2 → gi u' 272 13 = gi u 272 13 → rfr u u' → Q u') : ∃ n9, p_X11_ahead_L81 Q n9 u := by
  have fin : ∀ p w, RTX B n w → gi w 272 14 = nI p → p = U (fun i => cL (B i)) n p0 → rfr u w → gi w 272 13 = gi u 272 13 → ∀ u6, u6 = si w 272 12 (2 : Int32) → Q u6 := fun p w _ h1 h2 hf h13 u6 e6 => by
    refine hq u6 ?_ ?_ ?_ (hf.tr (by rw [e6]; exact rfr.si (by omega)))
    · rw [e6, gi_si, if_neg (by omega), h1, h2]
    · rw [e6, gi_at]; rfl
    · rw [e6, gi_si, if_neg (by omega), h13]
  refine xloop (fun m p w => p_X11_ahead_L81 Q m w) (fun p w => gi w 272 14 = nI p ∧ U (fun i => cL (B i)) n p = U (fun i => cL (B i)) n p0 ∧ rfr u w ∧ gi w 272 13 = gi u 272 13) n p0 u hp ⟨h14, rfl, rfr.rf, rfl⟩ ?_ ?_
  · rintro m w ⟨h1, h2, h3, h4⟩
    have hw := h.cg h3
    have hn := h.2.1
    unfold p_X11_ahead_L81
    rw [h1]
    refine r_byteAt hw (by omega) (r_isSmall hw ⟨fun _ => ?_, fun c => ?_⟩)
    · exact fin n w hw h1 (by rw [← h2, U_n (Or.inl (Nat.le_refl _))]) h3 h4
    · rw [decide_eq_false (show ¬ n < n by omega)] at c
      exact absurd c (by simp)
  · rintro m p w hp0 hpn ⟨h1, h2, h3, h4⟩ kk
    have hw := h.cg h3
    have hn := h.2.1
    unfold p_X11_ahead_L81
    rw [h1]
    refine r_byteAt hw (by omega) (r_isSmall hw ⟨fun c => ?_, fun c => ?_⟩)
    · rw [decide_eq_true hpn, Bool.true_and] at c
      exact fin p w hw h1 (by rw [← h2, U_n (p := fun i => cL (B i)) (Or.inr c)]) h3 h4
    · rw [decide_eq_true hpn, Bool.true_and] at c
      intro u7 e7
      rw [h1, l_1, cA] at e7
      refine kk u7 ⟨by rw [e7, gi_at], by rw [← U_s (p := fun i => cL (B i)) hpn c]; exact h2, h3.tr (by rw [e7]; exact rfr.si (by omega)), by rw [e7, gi_si, if_neg (by omega), h4]⟩
theorem r_numb {p0 : Nat} (h : RTX B n u) (hp : p0 ≤ n) (h14 : gi u 272 14 = nI p0) (h13 : gi u 272 13 = nI p0) (h15 : gi u 272 15 = 0) (hq : ∀ u', gi u' 272 14 = nI (U (fun i => cDg (B i)) n p0) → gi u' 272 12 = nI (if U (fun i => cDg (B i)) n p0 - p0 ≤ 4 then 3 else 1) → gi u' 272 13 = nI p0 → (U (fun i => cDg (B i)) n p0 - p0 ≤ 4 → gi u' 272 15 = nI (dg B p0 (U (fun i => cDg (B i)) n p0 - p0))) → rfr u u' → Q u') : ∃ n9, p_X11_ahead_L128 Q n9 u := by
  have hn := h.2.1
  have fin : ∀ p w, RTX B n w → gi w 272 14 = nI p → p0 ≤ p → p ≤ n → p = U (fun i => cDg (B i)) n p0 → rfr u w → gi w 272 13 = nI p0 → (p - p0 ≤ 4 → gi w 272 15 = nI (dg B p0 (p - p0))) → ((((gi w 272 14) - (gi w 272 13)) ≤ (4 : Int32) → ∀ u7 : xM, u7 = si w 272 12 (3 : Int32) → Q u7) ∧ (¬ (((gi w 272 14) - (gi w 272 13)) ≤ (4 : Int32)) → ∀ u8 : xM, u8 = si w 272 12 (1 : Int32) → Q u8)) := fun p w _ h1 hp0 hpn h2 hf h3 h5 => by
    rw [h1, h3, cS hp0, l_4, cLE (by omega) (by omega)]
    subst h2
    refine ⟨fun c u7 e7 => ?_, fun c u7 e7 => ?_⟩
    · refine hq u7 (by rw [e7, gi_si, if_neg (by omega), h1]) (by rw [e7, gi_at, if_pos c]; rfl) (by rw [e7, gi_si, if_neg (by omega), h3]) (fun _ => by rw [e7, gi_si, if_neg (by omega), h5 c]) (hf.tr (by rw [e7]; exact rfr.si (by omega)))
    · refine hq u7 (by rw [e7, gi_si, if_neg (by omega), h1]) (by rw [e7, gi_at, if_neg c]; rfl) (by rw [e7, gi_si, if_neg (by omega), h3]) (fun y => absurd y c) (hf.tr (by rw [e7]; exact rfr.si (by omega)))
  refine xloop (fun m p w => p_X11_ahead_L128 Q m w) (fun p w => gi w 272 14 = nI p ∧ U (fun i => cDg (B i)) n p = U (fun i => cDg (B i)) n p0 ∧ rfr u w ∧ gi w 272 13 = nI p0 ∧ ∃ v, gi w 272 15 = nI v ∧ v ≤ 100000 ∧ (p - p0 ≤ 4 → v = dg B p0 (p - p0) ∧ v < 10 ^ (p - p0))) n p0 u hp ⟨h14, rfl, rfr.rf, h13, 0, h15, by omega, fun _ => by rw [Nat.sub_self]; exact ⟨rfl, by decide⟩⟩ ?_ ?_
  · rintro m w ⟨h1, h2, h3, h4, v, h5, h6, h7⟩
    have hw := h.cg h3
    unfold p_X11_ahead_L128
    rw [h1]
    refine r_byteAt hw (by omega) (r_isDigit hw ⟨fun _ => ?_, fun c => ?_⟩)
    · have := fin n w hw h1 hp (Nat.le_refl _) (by rw [← h2, U_n (Or.inl (Nat.le_refl _))]) h3 h4 (fun c => by rw [h5, (h7 c).1])
      exact this
    · rw [decide_eq_false (show ¬ n < n by omega)] at c
      exact absurd c (by simp)
  · rintro m p w hp0 hpn ⟨h1, h2, h3, h4, v, h5, h6, h7⟩ kk
    have hw := h.cg h3
    unfold p_X11_ahead_L128
    rw [h1]
    refine r_byteAt hw (by omega) (r_isDigit hw ⟨fun c => ?_, fun c => ?_⟩)
    · rw [decide_eq_true hpn, Bool.true_and] at c
      have := fin p w hw h1 hp0 (by omega) (by rw [← h2, U_n (p := fun i => cDg (B i)) (Or.inr c)]) h3 h4 (fun c => by rw [h5, (h7 c).1])
      exact this
    · rw [decide_eq_true hpn, Bool.true_and] at c
      rw [h1]
      refine r_byteAt hw (by omega) ?_
      intro x11 e11 u12 e12 u13 e13
      have hc2 : 48 ≤ B p ∧ B p ≤ 57 := by simpa [cDg] using c
      have eb : byt B n p = nI (B p) := if_pos hpn
      have ex : ((((10 : Int32) * (gi w 272 15)) + byt B n p) - (48 : Int32)) = nI (v * 10 + (B p - 48)) := by
        rw [h5, eb, l_10, cM, cA, l_48, cS (by omega)]
        congr 1
        omega
      rw [ex] at e11
      have e11 : x11 = nI (if v * 10 + (B p - 48) < 100000 then v * 10 + (B p - 48) else 100000) := by
        rw [e11]
        by_cases z : v * 10 + (B p - 48) < 100000
        · rw [if_pos z, if_pos (by rw [l_100000, cLT (by omega) (by omega)]; exact z)]
        · rw [if_neg z, if_neg (by rw [l_100000, cLT (by omega) (by omega)]; exact z)]
          rfl
      have g14 : gi u12 272 14 = nI p := by rw [e12, gi_si, if_neg (by omega), h1]
      rw [g14, l_1, cA] at e13
      refine kk u13 ⟨by rw [e13, gi_at], by rw [← U_s (p := fun i => cDg (B i)) hpn c]; exact h2, h3.tr (by rw [e13, e12]; exact (rfr.si (by omega)).tr (rfr.si (by omega))), by rw [e13, gi_si, if_neg (by omega), e12, gi_si, if_neg (by omega), h4], _, by rw [e13, gi_si, if_neg (by omega), e12, gi_at, e11], by split <;> omega, fun y => ?_⟩
      obtain ⟨a1, a2⟩ := h7 (by omega)
      have a3 : 10 ^ (p - p0) ≤ 10 ^ 3 := Nat.pow_le_pow_right (by omega) (by omega)
      rw [if_pos (by omega), show p + 1 - p0 = (p - p0) + 1 by omega]
      refine ⟨?_, ?_⟩
      · show v * 10 + (B p - 48) = dg B p0 (p - p0) * 10 + (B (p0 + (p - p0)) - 48)
        rw [← a1, show p0 + (p - p0) = p by omega]
      · rw [Nat.pow_succ]; omega
theorem r_ahead (h : RTX B n u) (h14 : gi u 272 14 = nI (pS B n i)) (hr : rch B n i) (hq : ∀ u', RTK B n i u' → RTX B n u' → rfr u u' → Q u') : p_X11_ahead u Q := by
  have hn := h.2.1
  unfold p_X11_ahead
  refine xloop (fun m p w => p_X11_ahead_L0 Q m w) (fun p w => gi w 272 14 = nI p ∧ tS B n p = tS B n (pS B n i) ∧ rfr u w) n (pS B n i) u (pS_ln i) ⟨h14, rfl, rfr.rf⟩ ?_ ?_
  · rintro m w ⟨h1, h2, h3⟩
    have hw := h.cg h3
    have eS : tS B n (pS B n i) = n := by
      rw [← h2]
      exact U_n (Or.inl (Nat.le_refl _))
    have eK : tK B n (pS B n i) = 0 := by rw [tK_0]; omega
    unfold p_X11_ahead_L0
    rw [h1]
    refine r_byteAt hw (by omega) ⟨fun c => ?_, fun _ => ?_⟩
    · rw [show (byt B n n = (32 : Int32)) = _ from byt_is (c := 32) hw (by omega)] at c
      omega
    · rw [h1]
      refine r_byteAt hw (by omega) ⟨fun _ u7 e7 => ?_, fun c => ?_⟩
      · rw [h1] at e7
        have hw7 : RTX B n u7 := hw.cg (by rw [e7]; exact rfr.si (by omega))
        have g7 : gi u7 272 14 = nI n := by rw [e7, gi_si, if_neg (by omega), h1]
        rw [g7]
        refine r_byteAt hw7 (by omega) (fun u10 e10 => ⟨fun c => ?_, fun _ u29 e29 => ?_⟩)
        · rw [byt_m1 hw7] at c
          omega
        · have hf : rfr u u29 := by
            rw [e29, e10, e7]
            exact ((h3.tr (rfr.si (by omega))).tr (rfr.si (by omega))).tr (rfr.si (by omega))
          refine hq u29 ⟨hr, ?_, ?_, ?_, fun y => by omega, fun y => by omega⟩ (h.cg hf) hf
          · rw [e29, gi_at, eK]; rfl
          · rw [e29, gi_si, if_neg (by omega), e10, gi_si, if_neg (by omega), e7, gi_at, eS]
          · rw [e29, gi_si, if_neg (by omega), e10, gi_si, if_neg (by omega), g7]
            unfold tE
            rw [if_pos (by omega), eS]
      · rw [show (byt B n n = (10 : Int32)) = _ from byt_is (c := 10) hw (by omega)] at c
        omega
  · rintro m p w hp0 hpn ⟨h1, h2, h3⟩ kk
    have hw := h.cg h3
    have blank : cBl (B p) = true → ∀ u1, u1 = si w 272 14 (nI p + 1) → p_X11_ahead_L0 Q m u1 := fun c u1 e1 => by
      rw [l_1, cA] at e1
      exact kk u1 ⟨by rw [e1, gi_at], by rw [← h2]; exact (tS_b hpn c).symm, h3.tr (by rw [e1]; exact rfr.si (by omega))⟩
    unfold p_X11_ahead_L0
    rw [h1]
    refine r_byteAt hw (by omega) ⟨fun c => ?_, fun n32 => ?_⟩
    · rw [show (byt B n p = (32 : Int32)) = _ from byt_is (c := 32) hw (by omega)] at c
      unfold p_X11_ahead_L26
      rw [h1]
      exact blank (by unfold cBl; rw [c.2]; rfl)
    · rw [h1]
      refine r_byteAt hw (by omega) ⟨fun n10 u7 e7 => ?_, fun c => ?_⟩
      · rw [show (byt B n p = (32 : Int32)) = _ from byt_is (c := 32) hw (by omega)] at n32
        rw [show (byt B n p = (10 : Int32)) = _ from byt_is (c := 10) hw (by omega)] at n10
        have nb : cBl (B p) = false := by
          unfold cBl
          rw [decide_eq_false (fun y => n10 ⟨hpn, y⟩), decide_eq_false (fun y => n32 ⟨hpn, y⟩)]
          rfl
        have eS : tS B n (pS B n i) = p := by rw [← h2]; exact tS_nb nb
        rw [h1] at e7
        have f7 : rfr u u7 := h3.tr (by rw [e7]; exact rfr.si (by omega))
        have hw7 : RTX B n u7 := h.cg f7
        have g7 : gi u7 272 14 = nI p := by rw [e7, gi_si, if_neg (by omega), h1]
        have s7 : gi u7 272 13 = nI p := by rw [e7, gi_at]
        rw [g7]
        refine r_byteAt hw7 (by omega) (fun u10 e10 => ⟨fun _ => ?_, fun c => ?_⟩)
        · have f10 : rfr u u10 := f7.tr (by rw [e10]; exact rfr.si (by omega))
          have hw10 : RTX B n u10 := h.cg f10
          have g10 : gi u10 272 14 = nI p := by rw [e10, gi_si, if_neg (by omega), g7]
          have s10 : gi u10 272 13 = nI p := by rw [e10, gi_si, if_neg (by omega), s7]
          have v10 : gi u10 272 15 = nI (B p) := by rw [e10, gi_at]; exact if_pos hpn
          refine r_isSmall hw10 ⟨fun nl => ?_, fun cl => ?_⟩
          · rw [decide_eq_true hpn, Bool.true_and] at nl
            refine r_isDigit hw10 ⟨fun nd => ?_, fun cd => ?_⟩
            · rw [decide_eq_true hpn, Bool.true_and] at nd
              intro u18 e18
              rw [g10, l_1, cA] at e18
              have f18 : rfr u u18 := f10.tr (by rw [e18]; exact rfr.si (by omega))
              have g18 : gi u18 272 14 = nI (p + 1) := by rw [e18, gi_at]
              have s18 : gi u18 272 13 = nI p := by rw [e18, gi_si, if_neg (by omega), s10]
              have v18 : gi u18 272 15 = nI (B p) := by rw [e18, gi_si, if_neg (by omega), v10]
              have eE : tE B n (pS B n i) = p + 1 := by
                unfold tE
                rw [eS, if_neg (by omega), if_neg (by rw [nl]; decide), if_neg (by rw [nd]; decide)]
              have fin : ∀ (k : Nat) (u20 : xM), u20 = si u18 272 12 (nI k) → cSg (B p) = decide (k = 4) → (k = 4 ∨ k = 1) → Q u20 := fun k u20 e20 hs hk => by
                have f20 : rfr u u20 := f18.tr (by rw [e20]; exact rfr.si (by omega))
                have eK : tK B n (pS B n i) = if k = 4 then 3 else 4 := by
                  unfold tK
                  rw [eS, if_neg (by omega), if_neg (by rw [nl]; decide), if_neg (by rw [nd]; decide), hs]
                  by_cases z : k = 4
                  · rw [if_pos z, if_pos (decide_eq_true z)]
                  · rw [if_neg z, if_neg (by rw [decide_eq_false z]; decide)]
                refine hq u20 ⟨hr, ?_, by rw [e20, gi_si, if_neg (by omega), s18, eS], by rw [e20, gi_si, if_neg (by omega), g18, eE], fun y => ?_, fun y => by rw [e20, gi_si, if_neg (by omega), v18, eS]⟩ (h.cg f20) f20
                · rw [e20, gi_at, eK]
                  rcases hk with rfl | rfl <;> rfl
                · rw [eK] at y
                  split at y <;> omega
              have b59 : (byt B n p = (59 : Int32)) = (B p = 59) := by rw [show (byt B n p = (59 : Int32)) = _ from byt_is (c := 59) hw (by omega)]; simp [hpn]
              have b60 : (byt B n p = (60 : Int32)) = (B p = 60) := by rw [show (byt B n p = (60 : Int32)) = _ from byt_is (c := 60) hw (by omega)]; simp [hpn]
              have b61 : (byt B n p = (61 : Int32)) = (B p = 61) := by rw [show (byt B n p = (61 : Int32)) = _ from byt_is (c := 61) hw (by omega)]; simp [hpn]
              have b62 : (byt B n p = (62 : Int32)) = (B p = 62) := by rw [show (byt B n p = (62 : Int32)) = _ from byt_is (c := 62) hw (by omega)]; simp [hpn]
              rw [b59, b60, b61, b62]
              refine ⟨fun z u20 e20 => fin 4 u20 e20 (by unfold cSg; rw [z]; rfl) (Or.inl rfl), fun z1 => ⟨fun z u20 e20 => fin 4 u20 e20 (by unfold cSg; rw [z]; rfl) (Or.inl rfl), fun z2 => ⟨fun z u20 e20 => fin 4 u20 e20 (by unfold cSg; rw [z]; rfl) (Or.inl rfl), fun z3 => ⟨fun z4 u20 e20 => fin 1 u20 e20 ?_ (Or.inr rfl), fun z u20 e20 => fin 4 u20 e20 (by unfold cSg; rw [z]; rfl) (Or.inl rfl)⟩⟩⟩⟩
              unfold cSg
              rw [decide_eq_false z1, decide_eq_false z2, decide_eq_false z3, decide_eq_false z4]
              rfl
            · rw [decide_eq_true hpn, Bool.true_and] at cd
              intro u28 e28
              have f28 : rfr u u28 := f10.tr (by rw [e28]; exact rfr.si (by omega))
              have eE : tE B n (pS B n i) = U (fun i => cDg (B i)) n p := by
                unfold tE
                rw [eS, if_neg (by omega), if_neg (by rw [nl]; decide), if_pos cd]
              have eK : tK B n (pS B n i) = if U (fun i => cDg (B i)) n p - p ≤ 4 then 2 else 4 := by
                unfold tK
                rw [eS, if_neg (by omega), if_neg (by rw [nl]; decide), if_pos cd]
              refine r_numb (h.cg f28) (by omega) (p0 := p) (by rw [e28, gi_si, if_neg (by omega), g10]) (by rw [e28, gi_si, if_neg (by omega), s10]) (by rw [e28, gi_at]) (fun u' a14 a12 a13 a15 hf => ?_)
              refine hq u' ⟨hr, ?_, by rw [a13, eS], by rw [a14, eE], fun y => ?_, fun y => ?_⟩ (h.cg (f28.tr hf)) (f28.tr hf)
              · rw [a12, eK]
                by_cases z : U (fun i => cDg (B i)) n p - p ≤ 4
                · rw [if_pos z, if_pos z]; rfl
                · rw [if_neg z, if_neg z]; rfl
              · rw [eK] at y
                by_cases z : U (fun i => cDg (B i)) n p - p ≤ 4
                · rw [a15 z]
                  unfold vl
                  rw [eS, eE]
                · rw [if_neg z] at y
                  omega
              · rw [eK] at y
                split at y <;> omega
          · rw [decide_eq_true hpn, Bool.true_and] at cl
            have eE : tE B n (pS B n i) = U (fun i => cL (B i)) n p := by
              unfold tE
              rw [eS, if_neg (by omega), if_pos cl]
            have eK : tK B n (pS B n i) = 1 := by
              unfold tK
              rw [eS, if_neg (by omega), if_pos cl]
            refine r_word hw10 (by omega) g10 (fun u' a14 a12 a13 hf => ?_)
            exact hq u' ⟨hr, by rw [a12, eK]; rfl, by rw [a13, s10, eS], by rw [a14, eE], fun y => by omega, fun y => by omega⟩ (h.cg (f10.tr hf)) (f10.tr hf)
        · rw [byt_m1 hw7] at c
          omega
      · rw [show (byt B n p = (10 : Int32)) = _ from byt_is (c := 10) hw (by omega)] at c
        unfold p_X11_ahead_L26
        rw [h1]
        exact blank (by unfold cBl; rw [c.2]; rfl)
end AHEAD
