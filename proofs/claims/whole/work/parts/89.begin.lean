/-! ===== the class's row of tokens ===== -/
def rch (B : Nat → Nat) (n i : Nat) : Prop := ∀ j, j < i → tK B n (pS B n j) ≠ 0 ∧ tK B n (pS B n j) ≠ 4
def ENT (o : Nat) (B : Nat → Nat) (n i : Nat) (u : xM) : Prop := gi u (o + 2) i = nI (tK B n (pS B n i)) ∧ gi u (o + 3) i = nI (tS B n (pS B n i)) ∧ gl u (o + 4) i = tC B n (pS B n i) ∧ gi u (o + 5) i = tW B n (pS B n i)
def TXT (o : Nat) (B : Nat → Nat) (n : Nat) (u : xM) : Prop := ∃ cnt, gi u o 6 = nI cnt ∧ cnt ≤ x_len (o + 2) ∧ (∀ i, cnt ≤ i → ¬ rch B n i) ∧ ∀ i, rch B n i → ENT o B n i u
/-- token i is looked at -/
def TL (o : Nat) (B : Nat → Nat) (n i : Nat) (u : xM) : Prop := rch B n i ∧ gi u o 7 = nI i ∧ gi u o 8 = nI (tK B n (pS B n i)) ∧ gi u o 9 = nI (tS B n (pS B n i)) ∧ gi u o 11 = tW B n (pS B n i) ∧ gl u o 10 = (if tK B n (pS B n i) = 1 then tC B n (pS B n i) else 0) ∧ gi u o 12 = (if tK B n (pS B n i) = 2 then (tC B n (pS B n i)).toInt32 else 0) ∧ gi u o 13 = (if tK B n (pS B n i) = 3 then (tC B n (pS B n i)).toInt32 else 0)
/-- what looking changes -/
def tf (o : Nat) (u u' : xM) : Prop := (∀ k i, ¬ (k = o ∧ 7 ≤ i ∧ i ≤ 13) → gi u' k i = gi u k i) ∧ ∀ k i, ¬ (k = o ∧ i = 10) → gl u' k i = gl u k i
def wf (o : Nat) (u u' : xM) : Prop := (∀ k i, ¬ (k = o ∧ 7 ≤ i) → gi u' k i = gi u k i) ∧ ∀ k i, ¬ (k = o ∧ i = 10) → gl u' k i = gl u k i
section BEGIN
variable {B : Nat → Nat} {n mo : Nat} {u u' u0 : xM} {o : Nat}
theorem tf.rf : tf o u u := ⟨fun _ _ _ => rfl, fun _ _ _ => rfl⟩
theorem tf.tr {w : xM} (h : tf o u u') (h' : tf o u' w) : tf o u w := ⟨fun k i a => (h'.1 k i a).trans (h.1 k i a), fun k i a => (h'.2 k i a).trans (h.2 k i a)⟩
theorem tf.si {i : Nat} {x : Int32} (h : 7 ≤ i ∧ i ≤ 13) : tf o u (si u o i x) := ⟨fun k j hk => by rw [gi_si, if_neg (by rintro ⟨a, b⟩; exact hk ⟨a, by omega⟩)], fun _ _ _ => rfl⟩
theorem tf.sl {x : Int64} : tf o u (sl u o 10 x) := ⟨fun _ _ _ => rfl, fun k j hk => by rw [gl_sl, if_neg hk]⟩
theorem wf.rf : wf o u u := ⟨fun _ _ _ => rfl, fun _ _ _ => rfl⟩
theorem wf.tr {w : xM} (h : wf o u u') (h' : wf o u' w) : wf o u w := ⟨fun k i a => (h'.1 k i a).trans (h.1 k i a), fun k i a => (h'.2 k i a).trans (h.2 k i a)⟩
theorem wf.si {i : Nat} {x : Int32} (h : 7 ≤ i) : wf o u (si u o i x) := ⟨fun k j hk => by rw [gi_si, if_neg (by rintro ⟨a, b⟩; exact hk ⟨a, by omega⟩)], fun _ _ _ => rfl⟩
theorem tf.wf (h : tf o u u') : wf o u u' := ⟨fun k i a => h.1 k i (by omega), h.2⟩
theorem TXT.cg (h : TXT o B n u) (f : wf o u u') : TXT o B n u' := by
  obtain ⟨cnt, h1, h2, h3, h4⟩ := h
  refine ⟨cnt, (f.1 o 6 (by omega)).trans h1, h2, h3, fun i hi => ?_⟩
  unfold ENT
  rw [f.1 (o + 2) i (by omega), f.1 (o + 3) i (by omega), f.2 (o + 4) i (by omega), f.1 (o + 5) i (by omega)]
  exact h4 i hi
theorem tK_le (p : Nat) : tK B n p ≤ 4 := by
  unfold tK
  split
  · omega
  · split
    · omega
    · split
      · split <;> omega
      · split <;> omega
theorem k_token {p0 cnt : Nat} {Q : Int32 → xM → Prop} (ho : o = 34 ∨ o = 40) (hx : x_len (o + 2) = mo ∧ x_len (o + 3) = mo ∧ x_len (o + 4) = mo ∧ x_len (o + 5) = mo) (hmo : mo ≤ 1000) (hn : n ≤ 900) (hT : TA B n u) (hR : RSV o u) (hs : tS B n p0 < n) (h6 : gi u o 6 = nI cnt) (h1 : gi u o 1 = nI mo) (hc : cnt < mo) (hq : ∀ u' e, AD o cnt (nI (tK B n p0)) (nI (tS B n p0)) (tC B n p0) (tW B n p0) u u' → tS B n p0 < e → e ≤ n → (e = tE B n p0 ∨ (tK B n p0 = 4 ∧ e = n)) → Q (nI e) u') : p_X8_behindToken o (nI (tS B n p0)) (nI n) u Q := by
  have hE := tE_lt hs
  have ht := hT _ hs
  have hEn : tE B n p0 ≤ n := by
    have hS := hs
    unfold tE
    rw [if_neg (by omega)]
    split
    · exact U_ln _ (by omega)
    · split
      · exact U_ln _ (by omega)
      · omega
  unfold p_X8_behindToken
  rw [cCL (by omega), ht.1]
  refine ⟨cIN (by omega) (by decide), k_isLetter ht.2 ⟨fun c => ⟨cIN (by omega) (by decide), ?_⟩, fun c => ?_⟩⟩
  · rw [ht.1]
    refine k_isDigit ht.2 ⟨fun c2 => ⟨cIN (by omega) (by decide), ?_⟩, fun c2 => ?_⟩
    · rw [ht.1]
      have eE : tE B n p0 = tS B n p0 + 1 := by
        unfold tE
        rw [if_neg (by omega), if_neg (by rw [c]; decide), if_neg (by rw [c2]; decide)]
      refine k_isSign ht.2 ⟨fun c3 => ?_, fun c3 => ⟨cIN (by omega) (by decide), ?_⟩⟩
      · have eK : tK B n p0 = 4 := by
          unfold tK
          rw [if_neg (by omega), if_neg (by rw [c]; decide), if_neg (by rw [c2]; decide), if_neg (by rw [c3]; decide)]
        have eC : tC B n p0 = 0 := by unfold tC; rw [eK]; rfl
        have eW : tW B n p0 = -1 := by unfold tW; rw [eK]; rfl
        rw [eK, eC, eW] at hq
        exact k_add (w := -1) ho hx hmo h6 h1 hc ⟨fun _ => rfl, fun z => absurd z (by decide)⟩ (fun u' hu => hq u' n hu (by omega) (Nat.le_refl _) (Or.inr ⟨rfl, rfl⟩))
      · have eK : tK B n p0 = 3 := by
          unfold tK
          rw [if_neg (by omega), if_neg (by rw [c]; decide), if_neg (by rw [c2]; decide), if_pos c3]
        have hc128 : B (tS B n p0) < 128 := by
          unfold cSg at c3
          simp only [Bool.or_eq_true, decide_eq_true_eq] at c3
          omega
        have eC : tC B n p0 = LI (B (tS B n p0)) := by unfold tC; rw [eK]; rfl
        have eW : tW B n p0 = -1 := by unfold tW; rw [eK]; rfl
        rw [eK, eC, eW] at hq
        rw [ht.1, (sbC ht.2).2.2.2.2.2.2.2.2.2.2.1 hc128, nI_L (by omega), l_1, cA]
        have := hq
        exact k_add (w := -1) ho hx hmo h6 h1 hc ⟨fun _ => rfl, fun z => absurd z (by decide)⟩ (fun u' hu => hq u' _ hu (by omega) (by omega) (Or.inl eE.symm))
    · have eE : tE B n p0 = U (fun i => cDg (B i)) n (tS B n p0) := by
        unfold tE
        rw [if_neg (by omega), if_neg (by rw [c]; decide), if_pos c2]
      refine k_bNum ho hx hmo hn hT hs h6 h1 hc (fun u' hu => hq u' _ ?_ (by omega) (by omega) (Or.inl eE.symm))
      by_cases c4 : U (fun i => cDg (B i)) n (tS B n p0) - tS B n p0 ≤ 4
      · have eK : tK B n p0 = 2 := by
          unfold tK
          rw [if_neg (by omega), if_neg (by rw [c]; decide), if_pos c2, if_pos c4]
        have eC : tC B n p0 = LI (dg B (tS B n p0) (U (fun i => cDg (B i)) n (tS B n p0) - tS B n p0)) := by
          unfold tC
          rw [eK, eE]; rfl
        have eW : tW B n p0 = -1 := by unfold tW; rw [eK]; rfl
        rw [if_pos c4, if_pos c4] at hu
        rw [eK, eC, eW]
        exact hu
      · have eK : tK B n p0 = 4 := by
          unfold tK
          rw [if_neg (by omega), if_neg (by rw [c]; decide), if_pos c2, if_neg c4]
        have eC : tC B n p0 = 0 := by unfold tC; rw [eK]; rfl
        have eW : tW B n p0 = -1 := by unfold tW; rw [eK]; rfl
        rw [if_neg c4, if_neg c4] at hu
        rw [eK, eC, eW]
        exact hu
  · have eE : tE B n p0 = U (fun i => cL (B i)) n (tS B n p0) := by
      unfold tE
      rw [if_neg (by omega), if_pos c]
    have eK : tK B n p0 = 1 := by
      unfold tK
      rw [if_neg (by omega), if_pos c]
    refine k_bWord ho hx hmo hn hT hR hs h6 h1 hc (fun u' hu => hq u' _ ?_ (by omega) (by omega) (Or.inl eE.symm))
    have eC : tC B n p0 = (if U (fun i => cL (B i)) n (tS B n p0) - tS B n p0 ≤ 8 then Int64.ofNat (c5 (seg B (tS B n p0) (U (fun i => cL (B i)) n (tS B n p0) - tS B n p0))) else 0) := by
      unfold tC ltr
      rw [if_pos eK, eE]
    have eW : tW B n p0 = (if U (fun i => cL (B i)) n (tS B n p0) - tS B n p0 ≤ 8 then eO (wdx (seg B (tS B n p0) (U (fun i => cL (B i)) n (tS B n p0) - tS B n p0))) else -1) := by
      unfold tW ltr
      rw [eE]
      by_cases c4 : U (fun i => cL (B i)) n (tS B n p0) - tS B n p0 ≤ 8
      · rw [if_pos ⟨eK, c4⟩, if_pos c4]
      · rw [if_neg (fun z => c4 z.2), if_neg c4]
    rw [eK, eC, eW]
    exact hu
theorem AD.ent {cnt i p0 : Nat} {a1 a2 : Int32} {a3 : Int64} {w : Int32} (h : AD o cnt a1 a2 a3 w u u') (hi : i < cnt) (e : ENT o B n i u) : ENT o B n i u' := by
  obtain ⟨_, _, _, _, _, h1, h2⟩ := h
  unfold ENT
  rw [h1 (o + 2) i (by omega) (by omega), h1 (o + 3) i (by omega) (by omega), h2 (o + 4) i (by omega), h1 (o + 5) i (by omega) (by omega)]
  exact e
theorem k_adv {i : Nat} {Q : xM → Prop} (hx : x_len (o + 2) = mo ∧ x_len (o + 3) = mo ∧ x_len (o + 4) = mo ∧ x_len (o + 5) = mo) (hmo : mo ≤ 1000) (h7 : gi u o 7 = iI ((i : Int) - 1)) (hT : TXT o B n u) (hr : rch B n i) (hq : ∀ u', TL o B n i u' → tf o u u' → Q u') : p_X8_advance o u Q := by
  obtain ⟨cnt, h6, hc, hno, hent⟩ := hT
  have hi : i < cnt := by
    by_cases z : cnt ≤ i
    · exact absurd hr (hno i z)
    · omega
  have hcmo : cnt ≤ mo := by rw [← hx.1]; exact hc
  obtain ⟨e1, e2, e3, e4⟩ := hent i hr
  have e7 : gi u o 7 + (1 : Int32) = nI i := by
    rw [h7, show (1 : Int32) = iI 1 from by decide, iI_add, nI_iI]
    congr 1; omega
  have hk4 := tK_le (B := B) (n := n) (pS B n i)
  unfold p_X8_advance
  rw [h6, e7, cLE (by omega) (by omega)]
  refine ⟨fun z => absurd z (by omega), fun _ => ?_⟩
  unfold p_X8_advance_L27
  intro v1 q1
  have g1 : gi v1 o 7 = nI i := by rw [q1, gi_at]
  rw [g1, cCL (by omega), hx.1]
  refine ⟨cIN (by omega) (by omega), fun v3 q3 => ?_⟩
  have o3 : ∀ k a, k ≠ o → gi v3 k a = gi u k a := fun k a hk => by rw [q3, gi_si, if_neg (fun z => hk z.1), q1, gi_si, if_neg (fun z => hk z.1)]
  have g3 : gi v3 o 7 = nI i := by rw [q3, gi_si, if_neg (by omega)]; exact g1
  have k3 : gi v3 o 8 = nI (tK B n (pS B n i)) := by
    rw [q3, gi_at, q1, gi_si, if_neg (by omega)]; exact e1
  rw [g3, cCL (by omega), hx.2.1]
  refine ⟨cIN (by omega) (by omega), fun v5 q5 => ?_⟩
  rw [o3 (o + 3) i (by omega), e2] at q5
  have o5 : ∀ k a, k ≠ o → gi v5 k a = gi u k a := fun k a hk => by rw [q5, gi_si, if_neg (fun z => hk z.1)]; exact o3 k a hk
  have g5 : gi v5 o 7 = nI i := by rw [q5, gi_si, if_neg (by omega)]; exact g3
  rw [g5, cCL (by omega), hx.2.2.2]
  refine ⟨cIN (by omega) (by omega), fun v7 q7 => ?_⟩
  rw [o5 (o + 5) i (by omega), e4] at q7
  have f7 : tf o u v7 := by
    rw [q7, q5, q3, q1]
    exact (((tf.si (by omega)).tr (tf.si (by omega))).tr (tf.si (by omega))).tr (tf.si (by omega))
  have g7 : gi v7 o 7 = nI i := by rw [q7, gi_si, if_neg (by omega)]; exact g5
  have k7 : gi v7 o 8 = nI (tK B n (pS B n i)) := by rw [q7, gi_si, if_neg (by omega), q5, gi_si, if_neg (by omega)]; exact k3
  have p7 : gi v7 o 9 = nI (tS B n (pS B n i)) := by rw [q7, gi_si, if_neg (by omega), q5, gi_at]
  have w7 : gi v7 o 11 = tW B n (pS B n i) := by rw [q7, gi_at]
  have c7 : gl v7 (o + 4) i = tC B n (pS B n i) := (f7.2 _ _ (by omega)).trans e3
  -- letters, number, sign
  have l91 : ∀ w1, w1 = (if tK B n (pS B n i) = 1 then tC B n (pS B n i) else 0) → p_X8_advance_L91 o Q w1 v7 := fun w1 hw1 => by
    unfold p_X8_advance_L91
    intro v8 q8
    have f8 : tf o u v8 := by rw [q8]; exact f7.tr tf.sl
    have k8 : gi v8 o 8 = nI (tK B n (pS B n i)) := by rw [q8]; exact k7
    have g8 : gi v8 o 7 = nI i := by rw [q8]; exact g7
    have c8' : gl v8 (o + 4) i = tC B n (pS B n i) := (f8.2 _ _ (by omega)).trans e3
    have l117 : ∀ w2, w2 = (if tK B n (pS B n i) = 2 then (tC B n (pS B n i)).toInt32 else 0) → p_X8_advance_L117 o Q w2 v8 := fun w2 hw2 => by
      unfold p_X8_advance_L117
      intro v9 q9
      have f9 : tf o u v9 := by rw [q9]; exact f8.tr (tf.si (by omega))
      have k9 : gi v9 o 8 = nI (tK B n (pS B n i)) := by rw [q9, gi_si, if_neg (by omega)]; exact k8
      have g9 : gi v9 o 7 = nI i := by rw [q9, gi_si, if_neg (by omega)]; exact g8
      have fin : ∀ (v10 : xM) (w3 : Int32), v10 = si v9 o 13 w3 → w3 = (if tK B n (pS B n i) = 3 then (tC B n (pS B n i)).toInt32 else 0) → Q v10 := fun v10 w3 q10 hw3 => hq v10 ⟨hr, by rw [q10, gi_si, if_neg (by omega)]; exact g9, by rw [q10, gi_si, if_neg (by omega)]; exact k9, by rw [q10, gi_si, if_neg (by omega), q9, gi_si, if_neg (by omega), q8]; exact p7, by rw [q10, gi_si, if_neg (by omega), q9, gi_si, if_neg (by omega), q8]; exact w7, by rw [q10, gl_si, q9, gl_si, q8, gl_sl, if_pos ⟨rfl, rfl⟩]; exact hw1, by rw [q10, gi_si, if_neg (by omega), q9, gi_at]; exact hw2, by rw [q10, gi_at]; exact hw3⟩ (by rw [q10]; exact f9.tr (tf.si (by omega)))
      rw [k9, show (nI (tK B n (pS B n i)) = (3 : Int32)) = (tK B n (pS B n i) = 3) from cEQ (b := 3) (by omega) (by omega), g9, cCL (by omega), hx.2.2.1, show gl v9 (o + 4) i = tC B n (pS B n i) from (f9.2 _ _ (by omega)).trans e3]
      refine ⟨fun z v10 q10 => fin v10 _ q10 (by rw [if_neg z]), fun z => ⟨cIN (by omega) (by omega), fun v10 q10 => fin v10 _ q10 (by rw [if_pos z])⟩⟩
    rw [k8, show (nI (tK B n (pS B n i)) = (2 : Int32)) = (tK B n (pS B n i) = 2) from cEQ (b := 2) (by omega) (by omega), g8, cCL (by omega), hx.2.2.1, c8']
    exact ⟨fun z => l117 _ (by rw [if_neg z]), fun z => ⟨cIN (by omega) (by omega), l117 _ (by rw [if_pos z])⟩⟩
  rw [k7, show (nI (tK B n (pS B n i)) = (1 : Int32)) = (tK B n (pS B n i) = 1) from cEQ (b := 1) (by omega) (by omega), g7, cCL (by omega), hx.2.2.1, c7]
  exact ⟨fun z => l91 _ (by rw [if_neg z]), fun z => ⟨cIN (by omega) (by omega), l91 _ (by rw [if_pos z])⟩⟩
end BEGIN
