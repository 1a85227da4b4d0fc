/-! ===== the class's draft of a land ===== -/
def CL (o : Nat) (D : DR) (u : xM) : Prop := LR o D.1 u ∧ (∀ i, i < D.1 0 0 → gl u (o + 2) i = Int64.ofNat (c5 (D.2 0 i))) ∧ (∀ i, i < D.1 1 0 → gl u (o + 10) i = Int64.ofNat (c5 (D.2 1 i))) ∧ ∀ i, i < D.1 2 0 → gl u (o + 17) i = Int64.ofNat (c5 (D.2 2 i))
section DRAFT
variable {B : Nat → Nat} {n : Nat} {u u' u0 : xM} {o : Nat} {i : Nat}
theorem CL.cn {D : DR} (h : CL o D u) (hD : okD D) : CN o D u := ⟨h.1, hD.1, fun i hi => ⟨hD.2.2.2.2.2.1 i hi, h.2.1 i hi⟩, fun i hi => ⟨hD.2.2.2.2.2.2.1 i hi, h.2.2.1 i hi⟩, fun i hi => ⟨hD.2.2.2.2.2.2.2 i hi, h.2.2.2 i hi⟩⟩
theorem nI_sur (x : Int32) : ∃ a : Nat, x = nI a := ⟨x.toBitVec.toNat, by
  apply Int32.toBitVec_inj.mp
  rw [bI]
  apply BitVec.eq_of_toNat_eq
  rw [BitVec.toNat_ofNat, Nat.mod_eq_of_lt x.toBitVec.isLt]⟩
theorem LR_any (o : Nat) (u : xM) : ∃ σ, LR o σ u := ⟨fun f i => (nI_sur (gi u (o + rlO f) (rlS f + i))).choose, fun f _ i _ => (nI_sur (gi u (o + rlO f) (rlS f + i))).choose_spec⟩
theorem k_clear {Q : xM → Prop} (hq : ∀ u', CL 164 D0 u' → xsame (fun k => ¬ (164 ≤ k ∧ k ≤ 190)) u u' → Q u') : p_X1_clear 164 u Q := by
  unfold p_X1_clear p_X7_clear p_X0_clear
  intro u1 q1 u2 q2 u3 q3 u4 q4 u5 q5
  obtain ⟨σ, hσ⟩ := LR_any 164 u5
  refine k_clearRota hσ (fun u6 h6 x6 => ?_)
  intro u7 q7
  obtain ⟨σ', hσ'⟩ := LR_any 164 u7
  have k9 := k_setAllTides (h := 10) (Q := fun u4 => ∀ u5 : xM, u5 = si u4 164 8 (0 : Int32) → ∀ u6 : xM, u6 = si u5 164 9 (4095 : Int32) → Q u6) hσ' (fun u8 h8 x8 u9 q9 u10 q10 => ?_)
  · exact k9
  · have n1 : ∀ k i, k ≠ 185 → gi u8 k i = gi u7 k i := x8.1
    have n2 : ∀ k i, k ≠ 180 → gi u6 k i = gi u5 k i := x6.1
    refine hq u10 ⟨fun f hf i hi => ?_, fun i hi => absurd hi (Nat.not_lt_zero _), fun i hi => absurd hi (Nat.not_lt_zero _), fun i hi => absurd hi (Nat.not_lt_zero _)⟩ ⟨fun k i hk => ?_, fun k i hk => ?_⟩
    · have a0 : gi u10 165 0 = 0 := by rw [q10, gi_si, if_neg (by omega), q9, gi_si, if_neg (by omega), n1 _ _ (by omega), q7, gi_si, if_neg (by omega), n2 _ _ (by omega), q5, gi_si, if_neg (by omega), q4, gi_si, if_neg (by omega), q3, gi_si, if_neg (by omega), q2, gi_si, if_neg (by omega), q1, gi_at]
      have a22 : gi u10 165 1 = 0 := by rw [q10, gi_si, if_neg (by omega), q9, gi_si, if_neg (by omega), n1 _ _ (by omega), q7, gi_si, if_neg (by omega), n2 _ _ (by omega), q5, gi_si, if_neg (by omega), q4, gi_si, if_neg (by omega), q3, gi_si, if_neg (by omega), q2, gi_at]
      have a1 : gi u10 173 0 = 0 := by rw [q10, gi_si, if_neg (by omega), q9, gi_si, if_neg (by omega), n1 _ _ (by omega), q7, gi_si, if_neg (by omega), n2 _ _ (by omega), q5, gi_si, if_neg (by omega), q4, gi_si, if_neg (by omega), q3, gi_at]
      have a20 : gi u10 173 1 = 0 := by rw [q10, gi_si, if_neg (by omega), q9, gi_si, if_neg (by omega), n1 _ _ (by omega), q7, gi_si, if_neg (by omega), n2 _ _ (by omega), q5, gi_si, if_neg (by omega), q4, gi_at]
      have a21 : gi u10 173 2 = 0 := by rw [q10, gi_si, if_neg (by omega), q9, gi_si, if_neg (by omega), n1 _ _ (by omega), q7, gi_si, if_neg (by omega), n2 _ _ (by omega), q5, gi_at]
      have a2 : gi u10 164 2 = 0 := by rw [q10, gi_si, if_neg (by omega), q9, gi_si, if_neg (by omega), n1 _ _ (by omega), q7, gi_at]
      have a3 : gi u10 164 8 = 0 := by rw [q10, gi_si, if_neg (by omega), q9, gi_at]
      have a23 : gi u10 164 9 = 4095 := by rw [q10, gi_at]
      have a19 : ∀ i, i < 12 → gi u10 180 i = 0 := fun i hi => by
        rw [q10, gi_si, if_neg (by omega), q9, gi_si, if_neg (by omega), n1 _ _ (by omega), q7, gi_si, if_neg (by omega), h6.f19 hi]
        simp [cR0, sF, hi]; rfl
      have a18 : ∀ i, i < 12 → gi u10 185 i = 10 := fun i hi => by
        rw [q10, gi_si, if_neg (by omega), q9, gi_si, if_neg (by omega), h8.f18 hi]
        simp [sT, sF, hi]; rfl
      by_cases e : 4 ≤ f ∧ f ≤ 17
      · exfalso
        have : rlN D0.1 f = 0 := by
          unfold rlN D0
          by_cases e1 : f ≤ 9
          · rw [if_pos ⟨e.1, e1⟩]; rfl
          · rw [if_neg (by omega)]
            by_cases e2 : f ≤ 14
            · rw [if_pos ⟨by omega, e2⟩]; rfl
            · rw [if_neg (by omega), if_pos ⟨by omega, e.2⟩]; rfl
        rw [this] at hi
        exact absurd hi (Nat.not_lt_zero _)
      · have : f = 0 ∨ f = 1 ∨ f = 2 ∨ f = 3 ∨ f = 18 ∨ f = 19 ∨ f = 20 ∨ f = 21 ∨ f = 22 ∨ f = 23 := by omega
        rcases this with rfl | rfl | rfl | rfl | rfl | rfl | rfl | rfl | rfl | rfl
        · have : i = 0 := Nat.lt_one_iff.mp hi
          subst this; exact a0
        · have : i = 0 := Nat.lt_one_iff.mp hi
          subst this; exact a1
        · have : i = 0 := Nat.lt_one_iff.mp hi
          subst this; exact a2
        · have : i = 0 := Nat.lt_one_iff.mp hi
          subst this; exact a3
        · have hi : i < 12 := hi
          show gi u10 185 (0 + i) = _
          rw [Nat.zero_add, a18 i hi]; rfl
        · have hi : i < 12 := hi
          show gi u10 180 (0 + i) = _
          rw [Nat.zero_add, a19 i hi]; rfl
        · have : i = 0 := Nat.lt_one_iff.mp hi
          subst this; exact a20
        · have : i = 0 := Nat.lt_one_iff.mp hi
          subst this; exact a21
        · have : i = 0 := Nat.lt_one_iff.mp hi
          subst this; exact a22
        · have : i = 0 := Nat.lt_one_iff.mp hi
          subst this; exact a23
    · rw [q10, gi_si, if_neg (by omega), q9, gi_si, if_neg (by omega), n1 _ _ (by omega), q7, gi_si, if_neg (by omega), n2 _ _ (by omega), q5, gi_si, if_neg (by omega), q4, gi_si, if_neg (by omega), q3, gi_si, if_neg (by omega), q2, gi_si, if_neg (by omega), q1, gi_si, if_neg (by omega)]
    · rw [q10, gl_si, q9, gl_si, x8.2 k i (by omega), q7, gl_si, x6.2 k i (by omega), q5, gl_si, q4, gl_si, q3, gl_si, q2, gl_si, q1, gl_si]
theorem k_X7add {c : Nat} {a1 : Int64} {a2 a3 a4 a5 : Int32} {Q : xM → Prop} (h0 : gi u (o + 1) 0 = nI c) (hc : c < 7) (hq : ∀ u', gi u' (o + 1) 0 = nI (c + 1) → gl u' (o + 2) c = a1 → gi u' (o + 3) c = a2 → gi u' (o + 4) c = a3 → gi u' (o + 5) c = a4 → gi u' (o + 6) c = 0 → gi u' (o + 7) c = a5 → gi u' (o + 8) c = 0 → (∀ k i, ¬ (k = o + 1 ∧ i = 0) → ¬ (o + 3 ≤ k ∧ k ≤ o + 8 ∧ i = c) → gi u' k i = gi u k i) → (∀ k i, ¬ (k = o + 2 ∧ i = c) → gl u' k i = gl u k i) → Q u') : p_X7_add o a1 a2 a3 a4 a5 u Q := by
  unfold p_X7_add
  rw [h0, show ((nI c) < (7 : Int32)) = (c < 7) from cLT (b := 7) (by omega) (by omega), cCL (by omega)]
  refine ⟨fun _ => ⟨cIN hc (by omega), fun u3 q3 => ?_⟩, fun z => absurd hc z⟩
  have h3 : gi u3 (o + 1) 0 = nI c := by rw [q3]; exact h0
  rw [h3, cCL (by omega)]
  refine ⟨cIN hc (by omega), fun u5 q5 => ?_⟩
  have h5 : gi u5 (o + 1) 0 = nI c := by rw [q5, gi_si, if_neg (by omega)]; exact h3
  rw [h5, cCL (by omega)]
  refine ⟨cIN hc (by omega), fun u7 q7 => ?_⟩
  have h7 : gi u7 (o + 1) 0 = nI c := by rw [q7, gi_si, if_neg (by omega)]; exact h5
  rw [h7, cCL (by omega)]
  refine ⟨cIN hc (by omega), fun u9 q9 => ?_⟩
  have h9 : gi u9 (o + 1) 0 = nI c := by rw [q9, gi_si, if_neg (by omega)]; exact h7
  rw [h9, cCL (by omega)]
  refine ⟨cIN hc (by omega), fun u11 q11 => ?_⟩
  have h11 : gi u11 (o + 1) 0 = nI c := by rw [q11, gi_si, if_neg (by omega)]; exact h9
  rw [h11, cCL (by omega)]
  refine ⟨cIN hc (by omega), fun u13 q13 => ?_⟩
  have h13 : gi u13 (o + 1) 0 = nI c := by rw [q13, gi_si, if_neg (by omega)]; exact h11
  rw [h13, cCL (by omega)]
  refine ⟨cIN hc (by omega), fun u15 q15 u16 q16 => ?_⟩
  have h15 : gi u15 (o + 1) 0 = nI c := by rw [q15, gi_si, if_neg (by omega)]; exact h13
  rw [h15, l_1, cA] at q16
  subst q16 q15 q13 q11 q9 q7 q5 q3
  refine hq _ (gi_at ..) ?_ ?_ ?_ ?_ ?_ ?_ ?_ (fun k i h1 h2 => ?_) (fun k i h1 => ?_)
  · simp only [gl_si, gl_sl, and_self, ↓reduceIte]
  · simp only [gi_si, gi_sl]
    rw [if_neg (by omega), if_neg (by omega), if_neg (by omega), if_neg (by omega), if_neg (by omega), if_neg (by omega), if_pos (by simp)]
  · simp only [gi_si, gi_sl]
    rw [if_neg (by omega), if_neg (by omega), if_neg (by omega), if_neg (by omega), if_neg (by omega), if_pos (by simp)]
  · simp only [gi_si, gi_sl]
    rw [if_neg (by omega), if_neg (by omega), if_neg (by omega), if_neg (by omega), if_pos (by simp)]
  · simp only [gi_si, gi_sl]
    rw [if_neg (by omega), if_neg (by omega), if_pos (by simp)]
  · simp only [gi_si, gi_sl]
    rw [if_neg (by omega), if_neg (by omega), if_neg (by omega), if_pos (by simp)]
  · simp only [gi_si, gi_sl]
    rw [if_neg (by omega), if_pos (by simp)]
  · simp only [gi_si, gi_sl]
    rw [if_neg h1, if_neg (by omega), if_neg (by omega), if_neg (by omega), if_neg (by omega), if_neg (by omega), if_neg (by omega)]
  · simp only [gl_si, gl_sl]
    rw [if_neg h1]
theorem k_X0add {c : Nat} {a1 : Int64} {a2 a3 a4 a5 a6 : Int32} {Q : xM → Prop} (h0 : gi u (o + 9) 0 = nI c) (hc : c < 10) (hq : ∀ u', gi u' (o + 9) 0 = nI (c + 1) → gl u' (o + 10) c = a1 → gi u' (o + 11) c = a2 → gi u' (o + 12) c = a3 → gi u' (o + 13) c = a4 → gi u' (o + 14) c = a5 → gi u' (o + 15) c = a6 → (∀ k i, ¬ (k = o + 9 ∧ i = 0) → ¬ (o + 11 ≤ k ∧ k ≤ o + 15 ∧ i = c) → gi u' k i = gi u k i) → (∀ k i, ¬ (k = o + 10 ∧ i = c) → gl u' k i = gl u k i) → Q u') : p_X0_add o a1 a2 a3 a4 a5 a6 u Q := by
  unfold p_X0_add
  rw [h0, show ((nI c) < (10 : Int32)) = (c < 10) from cLT (b := 10) (by omega) (by omega), cCL (by omega)]
  refine ⟨fun _ => ⟨cIN hc (by omega), fun u3 q3 => ?_⟩, fun z => absurd hc z⟩
  have h3 : gi u3 (o + 9) 0 = nI c := by rw [q3]; exact h0
  rw [h3, cCL (by omega)]
  refine ⟨cIN hc (by omega), fun u5 q5 => ?_⟩
  have h5 : gi u5 (o + 9) 0 = nI c := by rw [q5, gi_si, if_neg (by omega)]; exact h3
  rw [h5, cCL (by omega)]
  refine ⟨cIN hc (by omega), fun u7 q7 => ?_⟩
  have h7 : gi u7 (o + 9) 0 = nI c := by rw [q7, gi_si, if_neg (by omega)]; exact h5
  rw [h7, cCL (by omega)]
  refine ⟨cIN hc (by omega), fun u9 q9 => ?_⟩
  have h9 : gi u9 (o + 9) 0 = nI c := by rw [q9, gi_si, if_neg (by omega)]; exact h7
  rw [h9, cCL (by omega)]
  refine ⟨cIN hc (by omega), fun u11 q11 => ?_⟩
  have h11 : gi u11 (o + 9) 0 = nI c := by rw [q11, gi_si, if_neg (by omega)]; exact h9
  rw [h11, cCL (by omega)]
  refine ⟨cIN hc (by omega), fun u13 q13 u14 q14 => ?_⟩
  have h13 : gi u13 (o + 9) 0 = nI c := by rw [q13, gi_si, if_neg (by omega)]; exact h11
  rw [h13, l_1, cA] at q14
  subst q14 q13 q11 q9 q7 q5 q3
  refine hq _ (gi_at ..) ?_ ?_ ?_ ?_ ?_ ?_ (fun k i h1 h2 => ?_) (fun k i h1 => ?_)
  · simp only [gl_si, gl_sl, and_self, ↓reduceIte]
  · simp only [gi_si, gi_sl]
    rw [if_neg (by omega), if_neg (by omega), if_neg (by omega), if_neg (by omega), if_neg (by omega), if_pos (by simp)]
  · simp only [gi_si, gi_sl]
    rw [if_neg (by omega), if_neg (by omega), if_neg (by omega), if_neg (by omega), if_pos (by simp)]
  · simp only [gi_si, gi_sl]
    rw [if_neg (by omega), if_neg (by omega), if_neg (by omega), if_pos (by simp)]
  · simp only [gi_si, gi_sl]
    rw [if_neg (by omega), if_neg (by omega), if_pos (by simp)]
  · simp only [gi_si, gi_sl]
    rw [if_neg (by omega), if_pos (by simp)]
  · simp only [gi_si, gi_sl]
    rw [if_neg h1, if_neg (by omega), if_neg (by omega), if_neg (by omega), if_neg (by omega), if_neg (by omega)]
  · simp only [gl_si, gl_sl]
    rw [if_neg h1]
theorem k_addErrand {c : Nat} {a1 : Int64} {a2 a3 a4 : Int32} {Q : xM → Prop} (h0 : gi u o 2 = nI c) (hc : c < 4) (hq : ∀ u', gi u' o 2 = nI (c + 1) → gl u' (o + 17) c = a1 → gi u' (o + 18) c = a2 → gi u' (o + 19) c = a3 → gi u' (o + 20) c = a4 → (∀ k i, ¬ (k = o ∧ i = 2) → ¬ (o + 18 ≤ k ∧ k ≤ o + 20 ∧ i = c) → gi u' k i = gi u k i) → (∀ k i, ¬ (k = o + 17 ∧ i = c) → gl u' k i = gl u k i) → Q u') : p_X1_addErrand o a1 a2 a3 a4 u Q := by
  unfold p_X1_addErrand
  rw [h0, show ((nI c) < (4 : Int32)) = (c < 4) from cLT (b := 4) (by omega) (by omega), cCL (by omega)]
  refine ⟨fun _ => ⟨cIN hc (by omega), fun u3 q3 => ?_⟩, fun z => absurd hc z⟩
  have h3 : gi u3 o 2 = nI c := by rw [q3]; exact h0
  rw [h3, cCL (by omega)]
  refine ⟨cIN hc (by omega), fun u5 q5 => ?_⟩
  have h5 : gi u5 o 2 = nI c := by rw [q5, gi_si, if_neg (by omega)]; exact h3
  rw [h5, cCL (by omega)]
  refine ⟨cIN hc (by omega), fun u7 q7 => ?_⟩
  have h7 : gi u7 o 2 = nI c := by rw [q7, gi_si, if_neg (by omega)]; exact h5
  rw [h7, cCL (by omega)]
  refine ⟨cIN hc (by omega), fun u9 q9 u10 q10 => ?_⟩
  have h9 : gi u9 o 2 = nI c := by rw [q9, gi_si, if_neg (by omega)]; exact h7
  rw [h9, l_1, cA] at q10
  subst q10 q9 q7 q5 q3
  refine hq _ (gi_at ..) ?_ ?_ ?_ ?_ (fun k i h1 h2 => ?_) (fun k i h1 => ?_)
  · simp only [gl_si, gl_sl, and_self, ↓reduceIte]
  · simp only [gi_si, gi_sl]
    rw [if_neg (by omega), if_neg (by omega), if_neg (by omega), if_pos (by simp)]
  · simp only [gi_si, gi_sl]
    rw [if_neg (by omega), if_neg (by omega), if_pos (by simp)]
  · simp only [gi_si, gi_sl]
    rw [if_neg (by omega), if_pos (by simp)]
  · simp only [gi_si, gi_sl]
    rw [if_neg h1, if_neg (by omega), if_neg (by omega), if_neg (by omega)]
  · simp only [gl_si, gl_sl]
    rw [if_neg h1]
theorem rl_f1 : ∀ f, f < 24 → (rlO f = 1 ∧ rlS f = 0 → f = 0) ∧ (rlO f = 9 ∧ rlS f = 0 → f = 1) ∧ (rlO f = 0 ∧ rlS f = 2 → f = 2) := by decide +kernel
theorem rl_f2 : ∀ f, f < 24 → (3 ≤ rlO f ∧ rlO f ≤ 8 → 4 ≤ f ∧ f ≤ 9 ∧ rlS f = 0) ∧ (11 ≤ rlO f ∧ rlO f ≤ 15 → 10 ≤ f ∧ f ≤ 14 ∧ rlS f = 0) ∧ (18 ≤ rlO f ∧ rlO f ≤ 20 → 15 ≤ f ∧ f ≤ 17 ∧ rlS f = 0) := by decide +kernel
theorem rl_f (f : Nat) (h : f < 24) : ((rlO f = 1 ∧ rlS f = 0 → f = 0) ∧ (rlO f = 9 ∧ rlS f = 0 → f = 1) ∧ (rlO f = 0 ∧ rlS f = 2 → f = 2)) ∧ (3 ≤ rlO f ∧ rlO f ≤ 8 → 4 ≤ f ∧ f ≤ 9 ∧ rlS f = 0) ∧ (11 ≤ rlO f ∧ rlO f ≤ 15 → 10 ≤ f ∧ f ≤ 14 ∧ rlS f = 0) ∧ (18 ≤ rlO f ∧ rlO f ≤ 20 → 15 ≤ f ∧ f ≤ 17 ∧ rlS f = 0) := ⟨rl_f1 f h, rl_f2 f h⟩
theorem CL.addR {D : DR} {l : List Nat} {f ar be wa : Nat} (h : CL o D u) (hz : D.1 7 (D.1 0 0) = 0 ∧ D.1 9 (D.1 0 0) = 0) (v0 : gi u' (o + 1) 0 = nI (D.1 0 0 + 1)) (v1 : gl u' (o + 2) (D.1 0 0) = Int64.ofNat (c5 l)) (v2 : gi u' (o + 3) (D.1 0 0) = nI f) (v3 : gi u' (o + 4) (D.1 0 0) = nI ar) (v4 : gi u' (o + 5) (D.1 0 0) = nI be) (v5 : gi u' (o + 6) (D.1 0 0) = nI 0) (v6 : gi u' (o + 7) (D.1 0 0) = nI wa) (v7 : gi u' (o + 8) (D.1 0 0) = nI 0) (hg : ∀ k i, ¬ (k = o + 1 ∧ i = 0) → ¬ (o + 3 ≤ k ∧ k ≤ o + 8 ∧ i = D.1 0 0) → gi u' k i = gi u k i) (hl : ∀ k i, ¬ (k = o + 2 ∧ i = D.1 0 0) → gl u' k i = gl u k i) : CL o (addR D l f ar be wa) u' := by
  have e0 : (Jvm.Pilot.CDryDoorsLaw_law_r2510_4d3eb6.addR D l f ar be wa).1 0 0 = D.1 0 0 + 1 := by simp [Jvm.Pilot.CDryDoorsLaw_law_r2510_4d3eb6.addR, sU_at]
  have e1 : (Jvm.Pilot.CDryDoorsLaw_law_r2510_4d3eb6.addR D l f ar be wa).1 1 0 = D.1 1 0 := by simp [Jvm.Pilot.CDryDoorsLaw_law_r2510_4d3eb6.addR, sU_at]
  have e2 : (Jvm.Pilot.CDryDoorsLaw_law_r2510_4d3eb6.addR D l f ar be wa).1 2 0 = D.1 2 0 := by simp [Jvm.Pilot.CDryDoorsLaw_law_r2510_4d3eb6.addR, sU_at]
  refine ⟨fun g hG i hi => ?_, fun i hi => ?_, fun i hi => ?_, fun i hi => ?_⟩
  · by_cases c : 4 ≤ g ∧ g ≤ 9 ∧ i = D.1 0 0
    · obtain ⟨c1, c2, rfl⟩ := c
      have : g = 4 ∨ g = 5 ∨ g = 6 ∨ g = 7 ∨ g = 8 ∨ g = 9 := by omega
      unfold Jvm.Pilot.CDryDoorsLaw_law_r2510_4d3eb6.addR
      rcases this with rfl | rfl | rfl | rfl | rfl | rfl
      · simpa [rlO, rlS, sU_at] using v2
      · simpa [rlO, rlS, sU_at] using v3
      · simpa [rlO, rlS, sU_at] using v4
      · simpa [rlO, rlS, sU_at, hz.1] using v5
      · simpa [rlO, rlS, sU_at] using v6
      · simpa [rlO, rlS, sU_at, hz.2] using v7
    · by_cases c0 : g = 0
      · subst c0
        have : i = 0 := Nat.lt_one_iff.mp hi
        subst this
        rw [e0]
        exact v0
      · have hf := rl_f g hG
        have es : (Jvm.Pilot.CDryDoorsLaw_law_r2510_4d3eb6.addR D l f ar be wa).1 g i = D.1 g i := by
          unfold Jvm.Pilot.CDryDoorsLaw_law_r2510_4d3eb6.addR
          simp only [sU_at]
          rw [if_neg (by omega), if_neg (by omega), if_neg (by omega), if_neg (by omega), if_neg (by omega)]
        rw [es, hg (o + rlO g) (rlS g + i) (by omega) (by omega)]
        refine h.1 g hG i ?_
        unfold rlN at hi ⊢
        rw [e0, e1, e2] at hi
        split at hi
        · rename_i c3
          rw [if_pos c3]
          omega
        · rename_i c3
          rw [if_neg c3]
          exact hi
  · rw [e0] at hi
    show _ = Int64.ofNat (c5 (nU D.2 0 (D.1 0 0) l 0 i))
    unfold nU
    by_cases c : i = D.1 0 0
    · rw [if_pos ⟨rfl, c⟩, c]; exact v1
    · rw [if_neg (by omega), hl _ _ (by omega)]; exact h.2.1 i (by omega)
  · rw [e1] at hi
    show _ = Int64.ofNat (c5 (nU D.2 0 (D.1 0 0) l 1 i))
    unfold nU
    rw [if_neg (by omega), hl _ _ (by omega)]
    exact h.2.2.1 i hi
  · rw [e2] at hi
    show _ = Int64.ofNat (c5 (nU D.2 0 (D.1 0 0) l 2 i))
    unfold nU
    rw [if_neg (by omega), hl _ _ (by omega)]
    exact h.2.2.2 i hi
theorem CL.addD {D : DR} {l : List Nat} {a b s w lk : Nat} (h : CL o D u) (v0 : gi u' (o + 9) 0 = nI (D.1 1 0 + 1)) (v1 : gl u' (o + 10) (D.1 1 0) = Int64.ofNat (c5 l)) (v2 : gi u' (o + 11) (D.1 1 0) = nI a) (v3 : gi u' (o + 12) (D.1 1 0) = nI b) (v4 : gi u' (o + 13) (D.1 1 0) = nI s) (v5 : gi u' (o + 14) (D.1 1 0) = nI w) (v6 : gi u' (o + 15) (D.1 1 0) = nI lk) (hg : ∀ k i, ¬ (k = o + 9 ∧ i = 0) → ¬ (o + 11 ≤ k ∧ k ≤ o + 15 ∧ i = D.1 1 0) → gi u' k i = gi u k i) (hl : ∀ k i, ¬ (k = o + 10 ∧ i = D.1 1 0) → gl u' k i = gl u k i) : CL o (addD D l a b s w lk) u' := by
  have e0 : (Jvm.Pilot.CDryDoorsLaw_law_r2510_4d3eb6.addD D l a b s w lk).1 0 0 = D.1 0 0 := by simp [Jvm.Pilot.CDryDoorsLaw_law_r2510_4d3eb6.addD, sU_at]
  have e1 : (Jvm.Pilot.CDryDoorsLaw_law_r2510_4d3eb6.addD D l a b s w lk).1 1 0 = D.1 1 0 + 1 := by simp [Jvm.Pilot.CDryDoorsLaw_law_r2510_4d3eb6.addD, sU_at]
  have e2 : (Jvm.Pilot.CDryDoorsLaw_law_r2510_4d3eb6.addD D l a b s w lk).1 2 0 = D.1 2 0 := by simp [Jvm.Pilot.CDryDoorsLaw_law_r2510_4d3eb6.addD, sU_at]
  refine ⟨fun g hG i hi => ?_, fun i hi => ?_, fun i hi => ?_, fun i hi => ?_⟩
  · by_cases c : 10 ≤ g ∧ g ≤ 14 ∧ i = D.1 1 0
    · obtain ⟨c1, c2, rfl⟩ := c
      have : g = 10 ∨ g = 11 ∨ g = 12 ∨ g = 13 ∨ g = 14 := by omega
      unfold Jvm.Pilot.CDryDoorsLaw_law_r2510_4d3eb6.addD
      rcases this with rfl | rfl | rfl | rfl | rfl
      · simpa [rlO, rlS, sU_at] using v2
      · simpa [rlO, rlS, sU_at] using v3
      · simpa [rlO, rlS, sU_at] using v4
      · simpa [rlO, rlS, sU_at] using v5
      · simpa [rlO, rlS, sU_at] using v6
    · by_cases c0 : g = 1
      · subst c0
        have : i = 0 := Nat.lt_one_iff.mp hi
        subst this
        rw [e1]
        exact v0
      · have hf := rl_f g hG
        have es : (Jvm.Pilot.CDryDoorsLaw_law_r2510_4d3eb6.addD D l a b s w lk).1 g i = D.1 g i := by
          unfold Jvm.Pilot.CDryDoorsLaw_law_r2510_4d3eb6.addD
          simp only [sU_at]
          rw [if_neg (by omega), if_neg (by omega), if_neg (by omega), if_neg (by omega), if_neg (by omega), if_neg (by omega)]
        rw [es, hg (o + rlO g) (rlS g + i) (by omega) (by omega)]
        refine h.1 g hG i ?_
        unfold rlN at hi ⊢
        rw [e0, e1, e2] at hi
        split at hi
        · rename_i c3
          rw [if_pos c3]
          exact hi
        · rename_i c3
          rw [if_neg c3]
          split at hi
          · rename_i c4
            rw [if_pos c4]
            omega
          · rename_i c4
            rw [if_neg c4]
            exact hi
  · rw [e0] at hi
    show _ = Int64.ofNat (c5 (nU D.2 1 (D.1 1 0) l 0 i))
    unfold nU
    rw [if_neg (by omega), hl _ _ (by omega)]
    exact h.2.1 i hi
  · rw [e1] at hi
    show _ = Int64.ofNat (c5 (nU D.2 1 (D.1 1 0) l 1 i))
    unfold nU
    by_cases c : i = D.1 1 0
    · rw [if_pos ⟨rfl, c⟩, c]; exact v1
    · rw [if_neg (by omega), hl _ _ (by omega)]; exact h.2.2.1 i (by omega)
  · rw [e2] at hi
    show _ = Int64.ofNat (c5 (nU D.2 1 (D.1 1 0) l 2 i))
    unfold nU
    rw [if_neg (by omega), hl _ _ (by omega)]
    exact h.2.2.2 i hi
theorem CL.addE {D : DR} {l : List Nat} {d f t : Nat} (h : CL o D u) (v0 : gi u' o 2 = nI (D.1 2 0 + 1)) (v1 : gl u' (o + 17) (D.1 2 0) = Int64.ofNat (c5 l)) (v2 : gi u' (o + 18) (D.1 2 0) = nI d) (v3 : gi u' (o + 19) (D.1 2 0) = nI f) (v4 : gi u' (o + 20) (D.1 2 0) = nI t) (hg : ∀ k i, ¬ (k = o ∧ i = 2) → ¬ (o + 18 ≤ k ∧ k ≤ o + 20 ∧ i = D.1 2 0) → gi u' k i = gi u k i) (hl : ∀ k i, ¬ (k = o + 17 ∧ i = D.1 2 0) → gl u' k i = gl u k i) : CL o (addE D l d f t) u' := by
  have e0 : (Jvm.Pilot.CDryDoorsLaw_law_r2510_4d3eb6.addE D l d f t).1 0 0 = D.1 0 0 := by simp [Jvm.Pilot.CDryDoorsLaw_law_r2510_4d3eb6.addE, sU_at]
  have e1 : (Jvm.Pilot.CDryDoorsLaw_law_r2510_4d3eb6.addE D l d f t).1 1 0 = D.1 1 0 := by simp [Jvm.Pilot.CDryDoorsLaw_law_r2510_4d3eb6.addE, sU_at]
  have e2 : (Jvm.Pilot.CDryDoorsLaw_law_r2510_4d3eb6.addE D l d f t).1 2 0 = D.1 2 0 + 1 := by simp [Jvm.Pilot.CDryDoorsLaw_law_r2510_4d3eb6.addE, sU_at]
  refine ⟨fun g hG i hi => ?_, fun i hi => ?_, fun i hi => ?_, fun i hi => ?_⟩
  · by_cases c : 15 ≤ g ∧ g ≤ 17 ∧ i = D.1 2 0
    · obtain ⟨c1, c2, rfl⟩ := c
      have : g = 15 ∨ g = 16 ∨ g = 17 := by omega
      unfold Jvm.Pilot.CDryDoorsLaw_law_r2510_4d3eb6.addE
      rcases this with rfl | rfl | rfl
      · simpa [rlO, rlS, sU_at] using v2
      · simpa [rlO, rlS, sU_at] using v3
      · simpa [rlO, rlS, sU_at] using v4
    · by_cases c0 : g = 2
      · subst c0
        have : i = 0 := Nat.lt_one_iff.mp hi
        subst this
        rw [e2]
        exact v0
      · have hf := rl_f g hG
        have es : (Jvm.Pilot.CDryDoorsLaw_law_r2510_4d3eb6.addE D l d f t).1 g i = D.1 g i := by
          unfold Jvm.Pilot.CDryDoorsLaw_law_r2510_4d3eb6.addE
          simp only [sU_at]
          rw [if_neg (by omega), if_neg (by omega), if_neg (by omega), if_neg (by omega)]
        have c0' : ¬ (rlO g = 0 ∧ rlS g + i = 2) := by
          rintro ⟨x, y⟩
          have := rl_lim (Or.inl x) hG hi
          exact c0 (hf.1.2.2 ⟨x, by omega⟩)
        rw [es, hg (o + rlO g) (rlS g + i) (by omega) (by omega)]
        refine h.1 g hG i ?_
        unfold rlN at hi ⊢
        rw [e0, e1, e2] at hi
        split at hi
        · rename_i c3
          rw [if_pos c3]
          exact hi
        · rename_i c3
          rw [if_neg c3]
          split at hi
          · rename_i c4
            rw [if_pos c4]
            exact hi
          · rename_i c4
            rw [if_neg c4]
            split at hi
            · rename_i c5
              rw [if_pos c5]
              omega
            · rename_i c5
              rw [if_neg c5]
              exact hi
  · rw [e0] at hi
    show _ = Int64.ofNat (c5 (nU D.2 2 (D.1 2 0) l 0 i))
    unfold nU
    rw [if_neg (by omega), hl _ _ (by omega)]
    exact h.2.1 i hi
  · rw [e1] at hi
    show _ = Int64.ofNat (c5 (nU D.2 2 (D.1 2 0) l 1 i))
    unfold nU
    rw [if_neg (by omega), hl _ _ (by omega)]
    exact h.2.2.1 i hi
  · rw [e2] at hi
    show _ = Int64.ofNat (c5 (nU D.2 2 (D.1 2 0) l 2 i))
    unfold nU
    by_cases c : i = D.1 2 0
    · rw [if_pos ⟨rfl, c⟩, c]; exact v1
    · rw [if_neg (by omega), hl _ _ (by omega)]; exact h.2.2.2 i (by omega)
theorem CL.sU {D : DR} {f k v : Nat} {τ : aS} {x : Int32} (h : CL o D u) (hτ : τ = sU D.1 f k v) (hf : f < 24) (h0 : f ≠ 0) (h1 : f ≠ 1) (h2 : f ≠ 2) (hi : k < rlN D.1 f) (hx : x = nI v) {j p : Nat} (hj : j = o + rlO f) (hk : p = rlS f + k) : CL o (τ, D.2) (si u j p x) := by
  subst hτ
  have e0 : ∀ a, a < 3 → Jvm.Pilot.CDryDoorsLaw_law_r2510_4d3eb6.sU D.1 f k v a 0 = D.1 a 0 := fun a ha => by rw [sU_at, if_neg (by omega)]
  refine ⟨h.1.up hf h0 h1 h2 hi hx hj hk, fun i hi => ?_, fun i hi => ?_, fun i hi => ?_⟩
  · rw [show (Jvm.Pilot.CDryDoorsLaw_law_r2510_4d3eb6.sU D.1 f k v, D.2).1 0 0 = D.1 0 0 from e0 0 (by omega)] at hi
    exact h.2.1 i hi
  · rw [show (Jvm.Pilot.CDryDoorsLaw_law_r2510_4d3eb6.sU D.1 f k v, D.2).1 1 0 = D.1 1 0 from e0 1 (by omega)] at hi
    exact h.2.2.1 i hi
  · rw [show (Jvm.Pilot.CDryDoorsLaw_law_r2510_4d3eb6.sU D.1 f k v, D.2).1 2 0 = D.1 2 0 from e0 2 (by omega)] at hi
    exact h.2.2.2 i hi
end DRAFT
