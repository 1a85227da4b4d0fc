/-! ===== land ===== -/
def cf0 (u u' : xM) : Prop := (∀ k i, ¬ (k = 0 ∧ (i = 13 ∨ i = 14 ∨ i = 17 ∨ i = 18)) → ¬ (34 ≤ k ∧ k < 40 ∧ ¬ (k = 34 ∧ i < 6)) → ¬ (164 ≤ k ∧ k ≤ 190) → gi u' k i = gi u k i) ∧ ∀ k i, ¬ (34 ≤ k ∧ k < 40 ∧ k ≠ 35) → ¬ (164 ≤ k ∧ k ≤ 190) → gl u' k i = gl u k i
def cf1 (u u' : xM) : Prop := (∀ k i, ¬ (k = 0 ∧ (i = 13 ∨ i = 14 ∨ i = 17 ∨ i = 18)) → ¬ (34 ≤ k ∧ k < 40 ∧ ¬ (k = 34 ∧ i < 6)) → ¬ (164 ≤ k ∧ k ≤ 190) → ¬ (83 ≤ k ∧ k < 110) → k ≠ 58 → gi u' k i = gi u k i) ∧ ∀ k i, ¬ (34 ≤ k ∧ k < 40 ∧ k ≠ 35) → ¬ (164 ≤ k ∧ k ≤ 190) → ¬ (83 ≤ k ∧ k < 110) → gl u' k i = gl u k i
def fk (B : Nat → Nat) (n k i : Nat) : Nat := if tK B n (pS B n i) = 4 then 1 else k
section LANDK
variable {B : Nat → Nat} {n : Nat} {u u' u0 : xM} {i : Nat} {D : DR}
theorem cf0.tr {w : xM} (h : cf0 u u') (h' : cf0 u' w) : cf0 u w := ⟨fun k i a b c => (h'.1 k i a b c).trans (h.1 k i a b c), fun k i a b => (h'.2 k i a b).trans (h.2 k i a b)⟩
theorem cf0.cf1 (h : cf0 u u') : cf1 u u' := ⟨fun k i a b c _ _ => h.1 k i a b c, fun k i a b _ => h.2 k i a b⟩
theorem cf1.tr {w : xM} (h : cf1 u u') (h' : cf1 u' w) : cf1 u w := ⟨fun k i a b c d e => (h'.1 k i a b c d e).trans (h.1 k i a b c d e), fun k i a b c => (h'.2 k i a b c).trans (h.2 k i a b c)⟩
theorem gn.cf0 (h : gn u u') : cf0 u u' := ⟨fun k i a b c => h.1 k i (by omega) c, fun k i a b => h.2 k i (by omega) b⟩
theorem gf.cf0 (h : gf u u') : cf0 u u' := ⟨fun k i a b c => h.1 k i (by omega) c, fun k i a b => h.2 k i (by omega) b⟩
theorem bf.cf0 (h : bf 34 u u') : cf0 u u' := ⟨fun k i a b c => h.1 k i (by omega) (by omega) (by omega) (by omega), fun k i a b => h.2 k i (by omega) (by omega)⟩
theorem CL.cp (h : CL 164 D u) (hD : okS D.1) (c : cpAll 83 164 u u') : CL 83 D u' := by
  have c0 := hD.r
  have c1 := hD.d
  have c2 := hD.e
  refine ⟨h.1.cp hD c, fun i hi => ?_, fun i hi => ?_, fun i hi => ?_⟩
  · rw [c.2.1 i (by omega)]; exact h.2.1 i hi
  · rw [c.2.2.1 i (by omega)]; exact h.2.2.1 i hi
  · rw [c.2.2.2.1 i (by omega)]; exact h.2.2.2 i hi
theorem k_readLand {Q : Bool → xM → Prop} (hn : n ≤ 900) (hB : ∀ i, i < n → gi u 4 i = sb (B i) ∧ B i < 256) (hW : WRD u) (hq : run (pAll B n 901 D0 0) (fun k i => ∀ u', gi u' 34 14 = nI (fk B n k i) → gi u' 34 15 = nI (tS B n (pS B n i)) → cf0 u u' → Q false u') (fun D => ∀ u', okD D → CL 164 D u' → gi u' 34 14 = 0 → gi u' 34 15 = -1 → cf0 u u' → Q true u')) : p_X2_readAll (nI n) u Q := by
  unfold p_X2_readAll
  refine k_clear (fun u1 h1 x1 => ?_)
  have f1 : cf0 u u1 := ⟨fun k i _ _ c => x1.1 k i c, fun k i _ b => x1.2 k i b⟩
  refine k_begin (mo := 901) (Or.inl rfl) x_len_txt.1 (by omega) hn (by omega) (B := B) (fun i hi => ?_) (fun j hj => ?_) ?_ (fun u2 hT hX h14 h15 hb => ⟨902, ?_⟩)
  · rw [x1.1 4 i (by omega)]; exact hB i hi
  · rw [x1.2 35 j (by omega)]; exact (hW.2.2 j hj).1
  · rw [x1.1 34 1 (by omega)]; exact hW.1
  · have hC : CL 164 D0 u2 := by
      obtain ⟨a1, a2, a3, a4⟩ := h1
      have r21 : ∀ f, f < 24 → rlO f ≤ 26 := by decide
      exact ⟨a1.cg (fun f hf i => hb.1 _ _ (by omega) (by omega) (by omega) (by omega)), fun i hi => absurd hi (Nat.not_lt_zero _), fun i hi => absurd hi (Nat.not_lt_zero _), fun i hi => absurd hi (Nat.not_lt_zero _)⟩
    exact k_reads 901 D0 0 u2 (by omega) hT hX hC D0_ok (fun i hi => (hB i hi).2) (run_mono hq (fun k i hE u' a b => hE u' a.1 a.2 (f1.tr (hb.cf0.tr b.cf0))) (fun D hE u' a b c => hE u' b a ((c.1 34 14 (by omega) (by omega)).trans h14) ((c.1 34 15 (by omega) (by omega)).trans h15) (f1.tr (hb.cf0.tr c.cf0))))
theorem k_land {n0 : Nat} {Q : Int32 → xM → Prop} (h13 : gi u 0 13 = nI n0) (hn : n ≤ n0 ∧ n0 ≤ 900) (hB : ∀ i, i < n → gi u 4 i = sb (B i) ∧ B i < 256) (hW : WRD u) (hq : run (pAll B n 901 D0 0) (fun k i => ∀ u', gi u' 0 17 = nI (fk B n k i) → gi u' 0 18 = nI (tS B n (pS B n i)) → gi u' 0 13 = 0 → gi u' 0 14 = 9 → cf0 u u' → Q (-1) u') (fun D => ∀ u', okD D → CL 83 D u' → gi u' 0 17 = 0 → gi u' 0 18 = -1 → gi u' 0 13 = 0 → gi u' 0 14 = 0 → gi u' 58 0 = 0 → gi u' 58 2 = 0 → cf1 u u' → Q (nI (D.1 1 0)) u')) : p_X10_land (nI n) u Q := by
  unfold p_X10_land
  rw [h13, cLE (by omega) (by omega), show ((nI n < 0) : Prop) = (n < 0) from cLT (b := 0) (by omega) (by omega)]
  refine ⟨fun z => absurd z (by omega), fun _ => ⟨fun _ => ?_, fun z => absurd hn.1 z⟩⟩
  refine k_readLand (by omega) hB hW (run_mono hq (fun k i hE u1 a b c => ?_) (fun D hE u1 hD hC a b c => ?_))
  · intro u2 q2 u3 q3 u4 q4
    refine ⟨fun z => absurd z (by decide), fun _ u5 q5 => hE u5 ?_ ?_ ?_ ?_ (c.tr ⟨fun k i x y _ => ?_, fun k i _ _ => ?_⟩)⟩
    · rw [q5, gi_si, if_neg (by omega), q4, gi_si, if_neg (by omega), q3, gi_at, q2, gi_si, if_neg (by omega), a]
    · rw [q5, gi_si, if_neg (by omega), q4, gi_at, q3, gi_si, if_neg (by omega), q2, gi_si, if_neg (by omega), b]
    · rw [q5, gi_si, if_neg (by omega), q4, gi_si, if_neg (by omega), q3, gi_si, if_neg (by omega), q2, gi_at]
    · rw [q5, gi_at]
    · rw [q5, gi_si, if_neg (by omega), q4, gi_si, if_neg (by omega), q3, gi_si, if_neg (by omega), q2, gi_si, if_neg (by omega)]
    · rw [q5, gl_si, q4, gl_si, q3, gl_si, q2, gl_si]
  · intro u2 q2 u3 q3 u4 q4
    refine ⟨fun _ => ?_, fun z => absurd z (by decide)⟩
    have f4 : ∀ k i, k ≠ 0 → gi u4 k i = gi u1 k i := fun k i hk => by
      rw [q4, gi_si, if_neg (by omega), q3, gi_si, if_neg (by omega), q2, gi_si, if_neg (by omega)]
    have l4 : ∀ k i, gl u4 k i = gl u1 k i := fun k i => by rw [q4, gl_si, q3, gl_si, q2, gl_si]
    have hC4 : CL 164 D u4 := by
      obtain ⟨a1, a2, a3, a4⟩ := hC
      exact ⟨a1.cg (fun f hf i => f4 _ _ (by omega)), fun i hi => by rw [l4]; exact a2 i hi, fun i hi => by rw [l4]; exact a3 i hi, fun i hi => by rw [l4]; exact a4 i hi⟩
    refine k_copyFrom (by omega) (fun u5 c5 => ?_)
    have hC5 := hC4.cp hD.1 c5
    intro u6 q6 u7 q7 u8 q8 u9 q9
    have x5 : xsame (oLand 83) u4 u5 := c5.2.2.2.2
    have g5 : ∀ k i, k < 83 ∨ 110 ≤ k → gi u5 k i = gi u4 k i := fun k i hk => x5.1 k i hk
    have f9 : ∀ k i, ¬ (k = 58) → k ≠ 0 → gi u9 k i = gi u5 k i := fun k i hk h0 => by
      rw [q9, gi_si, if_neg (by omega), q8, gi_si, if_neg (by omega), q7, gi_si, if_neg (by omega), q6, gi_si, if_neg (by omega)]
    have z9 : ∀ i, i ≠ 14 → gi u9 0 i = gi u4 0 i := fun i hi => by
      rw [q9, gi_si, if_neg (by omega), q8, gi_si, if_neg (by omega), q7, gi_si, if_neg (by omega), q6, gi_si, if_neg (by omega)]
      exact g5 0 i (by omega)
    have l9 : ∀ k i, gl u9 k i = gl u5 k i := fun k i => by rw [q9, gl_si, q8, gl_si, q7, gl_si, q6, gl_si]
    have e92 : gi u8 92 0 = nI (D.1 1 0) := by
      rw [q8, gi_si, if_neg (by omega), q7, gi_si, if_neg (by omega), q6, gi_si, if_neg (by omega)]
      exact hC5.1.f1
    rw [e92]
    refine hE u9 hD ?_ ?_ ?_ ?_ ?_ ?_ ?_ (c.cf1.tr ⟨fun k i x y _ v w => ?_, fun k i _ _ x => ?_⟩)
    · obtain ⟨a1, a2, a3, a4⟩ := hC5
      exact ⟨a1.cg (fun f hf i => f9 _ _ (by omega) (by omega)), fun i hi => by rw [l9]; exact a2 i hi, fun i hi => by rw [l9]; exact a3 i hi, fun i hi => by rw [l9]; exact a4 i hi⟩
    · rw [z9 17 (by omega), q4, gi_si, if_neg (by omega), q3, gi_at, q2, gi_si, if_neg (by omega), a]
    · rw [z9 18 (by omega), q4, gi_at, q3, gi_si, if_neg (by omega), q2, gi_si, if_neg (by omega), b]
    · rw [z9 13 (by omega), q4, gi_si, if_neg (by omega), q3, gi_si, if_neg (by omega), q2, gi_at]
    · rw [q9, gi_at]
    · rw [q9, gi_si, if_neg (by omega), q8, gi_si, if_neg (by omega), q7, gi_si, if_neg (by omega), q6, gi_at]
    · rw [q9, gi_si, if_neg (by omega), q8, gi_at]
    · by_cases e0 : k = 0
      · subst e0
        rw [z9 i (by omega), q4, gi_si, if_neg (by omega), q3, gi_si, if_neg (by omega), q2, gi_si, if_neg (by omega)]
      · rw [f9 k i w e0, g5 k i (by omega), f4 k i e0]
    · rw [l9, x5.2 k i (by unfold oLand; omega), l4]
/-- what the reference changes -/
def rl0 (u u' : xM) : Prop := (∀ k i, ¬ (k = 272 ∧ (i = 2 ∨ (10 ≤ i ∧ i ≤ 19))) → ¬ (k = 273 ∧ 2096 ≤ i) → k ≠ 279 → gi u' k i = gi u k i) ∧ ∀ k i, ¬ (k = 274 ∧ 84 ≤ i) → gl u' k i = gl u k i
def rl1 (u u' : xM) : Prop := (∀ k i, ¬ (k = 272 ∧ (i = 2 ∨ (10 ≤ i ∧ i ≤ 19))) → ¬ (k = 273 ∧ (i < 524 ∨ 2096 ≤ i)) → k ≠ 279 → gi u' k i = gi u k i) ∧ ∀ k i, ¬ (k = 274 ∧ (i < 21 ∨ 84 ≤ i)) → gl u' k i = gl u k i
theorem rl0.tr {w : xM} (h : rl0 u u') (h' : rl0 u' w) : rl0 u w := ⟨fun k i a b c => (h'.1 k i a b c).trans (h.1 k i a b c), fun k i a => (h'.2 k i a).trans (h.2 k i a)⟩
theorem rl1.tr {w : xM} (h : rl1 u u') (h' : rl1 u' w) : rl1 u w := ⟨fun k i a b c => (h'.1 k i a b c).trans (h.1 k i a b c), fun k i a => (h'.2 k i a).trans (h.2 k i a)⟩
theorem rl0.rl1 (h : rl0 u u') : rl1 u u' := ⟨fun k i a b c => h.1 k i a (by omega) c, fun k i a => h.2 k i (by omega)⟩
theorem bg.rl0 (h : bg u u') : rl0 u u' := ⟨fun k i a b c => h.1 k i (by omega) c, fun k i _ => h.2 k i⟩
theorem rg.rl0 (h : rg u u') : rl0 u u' := ⟨fun k i a b c => h.1 k i (by omega) b, h.2⟩
theorem rgf.rl0 (h : rgf u u') : rl0 u u' := ⟨fun k i a b c => h.1 k i (by omega) b, h.2⟩
theorem fk_pos {k i : Nat} (h : 1 ≤ k ∧ k ≤ 7) : 1 ≤ fk B n k i ∧ fk B n k i ≤ 7 := by
  unfold fk
  split <;> omega
theorem r_land {n0 : Nat} {Q : Int32 → xM → Prop} (h10 : gi u 272 10 = nI n0) (hn : n ≤ n0 ∧ n0 ≤ 900) (hB : ∀ i, i < n → gi u 278 i = sb (B i) ∧ B i < 256) (hq : run (pAll B n 901 D0 0) (fun k i => 1 ≤ k ∧ k ≤ 7 ∧ ∀ u', gi u' 272 16 = nI (fk B n k i) → gi u' 272 17 = nI (tS B n (pS B n i)) → gi u' 272 10 = 0 → gi u' 272 2 = 9 → rl0 u u' → Q (-1) u') (fun D => ∀ u', okD D → RR 0 D.1 u' → gi u' 273 4 = -1 → (∀ j, j < D.1 0 0 → isNm (D.2 0 j) ∧ gl u' 274 (0 + j) = Int64.ofNat (c8 (D.2 0 j))) → (∀ j, j < D.1 1 0 → isNm (D.2 1 j) ∧ gl u' 274 (0 + 7 + j) = Int64.ofNat (c8 (D.2 1 j))) → (∀ j, j < D.1 2 0 → isNm (D.2 2 j) ∧ gl u' 274 (0 + 17 + j) = Int64.ofNat (c8 (D.2 2 j))) → gi u' 272 16 = 0 → gi u' 272 17 = -1 → gi u' 272 10 = 0 → gi u' 272 2 = 0 → rl1 u u' → Q (nI (D.1 1 0)) u')) : p_X11_land (nI n) u Q := by
  unfold p_X11_land
  refine r_begins (mo := 900) (by omega) hB h10 hn (fun u1 a1 a2 a3 a4 a5 a6 => ⟨fun _ => ?_, fun z => absurd z (by decide)⟩)
  refine r_plain (fun u2 p2 g2 g2i g2l => ⟨902, ?_⟩)
  have hRC : RC B n 0 u2 u2 := by
    obtain ⟨b1, b2, b3, b4, b5, b6⟩ := a1
    refine ⟨⟨b1, ?_, ?_, ?_, fun z => ?_, fun z => ?_⟩, a2.rg g2, ?_, rg.rf⟩
    · rw [g2i 272 12 (by omega)]; exact b2
    · rw [g2i 272 13 (by omega)]; exact b3
    · rw [g2i 272 14 (by omega)]; exact b4
    · rw [g2i 272 15 (by omega)]; exact b5 z
    · rw [g2i 272 15 (by omega)]; exact b6 z
    · rw [g2i 272 18 (by omega)]; exact a3
  refine r_reads 901 D0 0 u2 (by omega) D0_ok p2 hRC (run_mono hq (fun k i hE u3 r3 f3 => ?_) (fun D hE u3 hD p3 e18 f3 => ?_))
  · obtain ⟨k1, k2, hE⟩ := hE
    have hf := fk_pos (B := B) (n := n) (i := i) ⟨k1, k2⟩
    have e18 : gi u3 272 18 = nI (fk B n k i) := r3.1
    unfold p_X11_land_L45
    rw [e18]
    refine ⟨fun _ => ⟨cIN (a := 1) (by omega) (by omega), fun u4 q4 => ?_⟩, fun z => absurd z ?_⟩
    · have g4 : gi u4 272 18 = nI (fk B n k i) := by rw [q4, gi_si, if_neg (by omega), e18]
      rw [g4, show ((nI (fk B n k i) ≤ 0) : Prop) = (fk B n k i ≤ 0) from cLE (b := 0) (by omega) (by omega)]
      refine ⟨fun z => absurd z (by omega), fun _ u5 q5 => hE u5 ?_ ?_ ?_ ?_ (a6.rl0.tr (g2.rl0.tr (f3.rl0.tr ⟨fun k i x _ _ => ?_, fun k i _ => ?_⟩)))⟩
      · rw [q5, gi_si, if_neg (by omega), q4, gi_at, e18]
      · rw [q5, gi_si, if_neg (by omega), q4, gi_si, if_neg (by omega), r3.2]
      · rw [q5, gi_si, if_neg (by omega), q4, gi_si, if_neg (by omega), f3.1 272 10 (by omega) (by omega), g2i 272 10 (by omega), a5]
      · rw [q5, gi_at]
      · rw [q5, gi_si, if_neg (by omega), q4, gi_si, if_neg (by omega)]
      · rw [q5, gl_si, q4, gl_si]
    · rw [show ((nI (fk B n k i) = 0) : Prop) = (fk B n k i = 0) from cEQ (b := 0) (by omega) (by omega)]
      omega
  · have c0 := hD.1.r
    have c1 := hD.1.d
    have c2 := hD.1.e
    unfold p_X11_land_L45
    refine ⟨fun z => absurd e18 z, fun _ => r_keepNew (fun u4 hc => ?_)⟩
    have hR : RR 0 D.1 u4 := fun f hf i hi => by
      have hi' := Nat.lt_of_lt_of_le hi (rrN_le c0 c1 c2 f)
      have := rk_lt f hf i hi'
      rw [hc.1 _ (by omega), Nat.zero_add]
      exact p3.1.2 f hf i hi'
    have e1 : gi u4 273 1 = nI (D.1 1 0) := hR.r1
    unfold p_X11_land_L112
    rw [show ((1 : Int32).toNatClampNeg) = 1 from by decide, e1]
    refine ⟨cIN (a := 1) (by omega) (by omega), fun u5 q5 => ?_⟩
    have e18' : gi u4 272 18 = 0 := by rw [hc.2.2.1 272 18 (by omega), e18]
    have g5 : gi u5 272 18 = 0 := by rw [q5, gi_si, if_neg (by omega), e18']
    rw [g5]
    refine ⟨fun _ u6 q6 => ?_, fun z => absurd (by decide) z⟩
    have f6 : ∀ k i, ¬ (k = 272 ∧ (i = 2 ∨ i = 16)) → gi u6 k i = gi u4 k i := fun k i hk => by rw [q6, gi_si, if_neg (by omega), q5, gi_si, if_neg (by omega)]
    have l6 : ∀ k i, gl u6 k i = gl u4 k i := fun k i => by rw [q6, gl_si, q5, gl_si]
    refine hE u6 hD (hR.cg c0 c1 c2 (fun i _ _ => f6 273 i (by omega))) ?_ (fun j hj => ?_) (fun j hj => ?_) (fun j hj => ?_) ?_ ?_ ?_ ?_ (a6.rl0.rl1.tr (g2.rl0.rl1.tr (f3.rl0.rl1.tr ⟨fun k i x y z => ?_, fun k i x => ?_⟩)))
    · rw [f6 273 4 (by omega), hc.1 4 (by omega)]; exact p3.1.1
    · rw [l6, Nat.zero_add, hc.2.1 j (by omega)]; exact p3.2.1 j hj
    · rw [l6, show 0 + 7 + j = 7 + j by omega, hc.2.1 (7 + j) (by omega), show 84 + (7 + j) = 91 + j by omega]; exact p3.2.2.1 j hj
    · rw [l6, show 0 + 17 + j = 17 + j by omega, hc.2.1 (17 + j) (by omega), show 84 + (17 + j) = 101 + j by omega]; exact p3.2.2.2 j hj
    · rw [q6, gi_si, if_neg (by omega), q5, gi_at, e18']
    · rw [f6 272 17 (by omega), hc.2.2.1 272 17 (by omega), f3.1 272 17 (by omega) (by omega), g2i 272 17 (by omega), a4]
    · rw [f6 272 10 (by omega), hc.2.2.1 272 10 (by omega), f3.1 272 10 (by omega) (by omega), g2i 272 10 (by omega), a5]
    · rw [q6, gi_at]
    · rw [f6 k i (by omega), hc.2.2.1 k i (by omega)]
    · rw [l6, hc.2.2.2 k i (by omega)]
/-- what holds again behind a text -/
theorem INV.txt (h : INV u) (hi : ∀ k i, (k = 0 ∧ i = 10) ∨ (k = 34 ∧ i = 1) ∨ (k = 40 ∧ i = 1) ∨ k = 46 ∨ (50 ≤ k ∧ k < 58) ∨ (68 ≤ k ∧ k < 83) ∨ (191 ≤ k ∧ k < 272) ∨ (k = 272 ∧ (i = 23 ∨ i = 24 ∨ i = 25 ∨ i = 42 ∨ i = 43)) ∨ (k = 273 ∧ 524 ≤ i ∧ i < 2096) ∨ k = 275 ∨ k = 276 ∨ k = 289 → gi u' k i = gi u k i) (hl : ∀ k i, (k = 0 ∧ (i = 15 ∨ i = 16)) ∨ k = 35 ∨ k = 41 ∨ (50 ≤ k ∧ k < 58) ∨ (191 ≤ k ∧ k < 272) ∨ (k = 272 ∧ (i = 3 ∨ i = 4)) ∨ (k = 274 ∧ 21 ≤ i ∧ i < 84) ∨ k = 277 → gl u' k i = gl u k i) (hs : gi u' 0 14 = gi u' 272 2) (hk : gi u' 0 17 = gi u' 272 16) (hp : gi u' 0 18 = gi u' 272 17) (ha : gi u' 0 13 = 0) (hb : gi u' 272 10 = 0) (hsl : ∃ σ, SLT σ 83 58 0 0 u') : INV u' := by
  refine ⟨hs, ?_, ?_, hk, hp, ⟨0, by omega, ha, hb, fun i hi => absurd hi (Nat.not_lt_zero _)⟩, fun t ht => ?_, ?_, ?_, ?_, ?_, hsl⟩
  · rw [hl 0 15 (by omega), hl 272 3 (by omega)]; exact h.tp
  · rw [hl 0 16 (by omega), hl 272 4 (by omega)]; exact h.bt
  · exact (h.tra t ht).cg (fun i => hi _ _ (by omega)) (hi _ _ (by omega)) (hi _ _ (by omega)) (fun i => hl _ _ (by omega)) (fun i _ => hl _ _ (by omega))
  · exact h.lvd.cg (fun i => hi _ _ (by omega)) (hi _ _ (by omega)) (fun i => hi _ _ (by omega))
  · exact h.wrd.cg (hi _ _ (by omega)) (hi _ _ (by omega)) (fun i => hl _ _ (by omega)) (fun i => hl _ _ (by omega))
  · rw [hi 272 23 (by omega), hi 272 24 (by omega), hi 272 25 (by omega)]; exact h.md
  · exact h.mks.cg (hi _ _ (by omega)) (hi _ _ (by omega)) (fun k i c => hi _ _ (by omega)) (fun i c d => hi _ _ (by omega)) (fun k i c d => hl _ _ (by omega)) (fun i c d => hl _ _ (by omega))
theorem tapB (h : TAP u) : ∃ (n0 : Nat) (B : Nat → Nat), n0 ≤ 900 ∧ gi u 0 13 = nI n0 ∧ gi u 272 10 = nI n0 ∧ ∀ i, i < n0 → gi u 4 i = sb (B i) ∧ gi u 278 i = sb (B i) ∧ B i < 256 := by
  obtain ⟨n0, a, b, c, d⟩ := h
  have : ∀ i, ∃ c : Nat, i < n0 → c < 256 ∧ gi u 4 i = sb c := fun i => by
    by_cases hi : i < n0
    · obtain ⟨_, c, h1, h2⟩ := d i hi
      exact ⟨c, fun _ => ⟨h1, h2⟩⟩
    · exact ⟨0, fun z => absurd z hi⟩
  refine ⟨n0, fun i => (this i).choose, a, b, c, fun i hi => ?_⟩
  have h1 := (this i).choose_spec hi
  exact ⟨h1.2, (d i hi).1.symm.trans h1.2, h1.1⟩
def FK7 (k _ : Nat) : Prop := 1 ≤ k ∧ k ≤ 7
theorem run_E {X : Type} {x : EX X} {E E' : Nat → Nat → Prop} {K : X → Prop} (h : run x E K) (he : ∀ k i, E k i → E' k i) : run x E' K := run_mono h he (fun _ x => x)
theorem e_er {X : Type} {k i : Nat} (h : 1 ≤ k ∧ k ≤ 7) : run (er k i : EX X) FK7 (fun _ => True) := h
theorem e_num {a b i : Nat} : run (pNum B n a b i) FK7 (fun _ => True) := run_if (fun _ => run_if (fun _ => e_er (by decide)) (fun _ => trivial)) (fun _ => e_er (by decide))
theorem e_numB {w a b d i : Nat} : run (pNumB B n w a b d i) FK7 (fun _ => True) := run_if (fun _ => e_num) (fun _ => trivial)
theorem e_word {w i : Nat} : run (pWord B n w i) FK7 (fun _ => True) := run_if (fun _ => trivial) (fun _ => e_er (by decide))
theorem e_stop {i : Nat} : run (pStop B n i) FK7 (fun _ => True) := run_if (fun _ => trivial) (fun _ => e_er (by decide))
theorem e_new {i : Nat} : run (pNew B n D i) FK7 (fun _ => True) := run_if (fun _ => run_if (fun _ => e_er (by decide)) (fun _ => trivial)) (fun _ => e_er (by decide))
theorem e_old {nm : Nat → List Nat} {cnt i : Nat} : run (pOld B n nm cnt i) FK7 (fun _ => True) := run_if (fun _ => run_oE (fun _ => e_er (by decide)) (fun _ _ => trivial)) (fun _ => e_er (by decide))
theorem e_end {oth : Option Nat} {i : Nat} : run (pEnd B n D oth i) FK7 (fun _ => True) := run_if (fun _ => run_if (fun _ => e_er (by decide)) (fun _ => trivial)) (fun _ => run_if (fun _ => run_oE (fun _ => e_er (by decide)) (fun _ _ => run_if (fun _ => e_er (by decide)) (fun _ => trivial))) (fun _ => e_er (by decide)))
theorem e_bnd {X Y : Type} {x : EX X} {f : X → EX Y} (h : run x FK7 (fun _ => True)) (h2 : ∀ a, run (f a) FK7 (fun _ => True)) : run (bnd x f) FK7 (fun _ => True) := by
  rw [run_bnd]
  exact run_mono h (fun _ _ x => x) (fun a _ => h2 a)
theorem e_ok {X : Type} {a : X} : run (ok a) FK7 (fun _ => True) := trivial
theorem e_one {i : Nat} : run (pOne B n D i) FK7 (fun _ => True) := run_if (fun _ => run_if (fun _ => e_er (by decide)) (fun _ => e_bnd e_new fun _ => e_bnd e_word fun _ => e_bnd e_num fun _ => e_bnd e_numB fun _ => e_bnd e_numB fun _ => e_bnd e_numB fun _ => e_ok)) (fun _ => run_if (fun _ => run_if (fun _ => e_er (by decide)) (fun _ => e_bnd e_new fun _ => e_bnd e_word fun _ => e_bnd e_end fun _ => e_bnd e_word fun _ => e_bnd e_end fun _ => e_bnd e_word fun _ => e_bnd e_num fun _ => e_bnd e_numB fun _ => e_bnd e_numB fun _ => e_ok)) (fun _ => run_if (fun _ => e_bnd e_num fun _ => e_bnd e_num fun _ => e_ok) (fun _ => run_if (fun _ => e_bnd e_old fun _ => e_bnd e_num fun _ => e_ok) (fun _ => run_if (fun _ => e_bnd e_num fun _ => e_bnd e_old fun _ => e_ok) (fun _ => run_if (fun _ => run_if (fun _ => e_er (by decide)) (fun _ => e_bnd e_new fun _ => e_bnd e_word fun _ => e_bnd e_old fun _ => e_bnd e_word fun _ => e_bnd e_num fun _ => e_bnd e_word fun _ => e_bnd e_num fun _ => e_ok)) (fun _ => e_er (by decide)))))))
theorem e_all : ∀ (f : Nat) (D : DR) (i : Nat), run (pAll B n f D i) FK7 (fun _ => True) := by
  intro f
  induction f with
  | zero => intro D i; exact trivial
  | succ f ih =>
    intro D i
    exact run_if (fun _ => trivial) (fun _ => e_bnd (e_bnd e_one fun _ => e_bnd e_stop fun _ => e_ok) (fun a => ih a.1 a.2))
theorem K_land (I : INV u) (a : Int32) : p_X10_land a u (fun r u1 => p_X11_land a u1 (fun r' u2 => r = r' ∧ INV u2)) := by
  obtain ⟨n0, B, hn0, h13, h10, hB⟩ := tapB I.tap
  obtain ⟨σ, S⟩ := I.sl
  have bad : (a < 0 ∨ ¬ a ≤ gi u 0 13) → p_X10_land a u (fun r u1 => p_X11_land a u1 (fun r' u2 => r = r' ∧ INV u2)) := fun hc => by
    have q : ∀ u1, u1 = si u 0 14 (1 : Int32) → p_X11_land a u1 (fun r' u2 => (-1 : Int32) = r' ∧ INV u2) := fun u1 q1 => by
      have fin : ∀ u2 : xM, u2 = si u1 272 2 (1 : Int32) → (-1 : Int32) = -1 ∧ INV u2 := fun u2 q2 => by
        refine ⟨rfl, I.cg (fun k i c => ?_) (fun k i _ => by rw [q2, gl_si, q1, gl_si]) (by rw [q2, gi_si, if_neg (by omega), q1, gi_at, gi_at])⟩
        unfold cellI at c
        rw [q2, gi_si, if_neg (by omega), q1, gi_si, if_neg (by omega)]
      unfold p_X11_land p_X11_begins
      have e10 : gi u1 272 10 = gi u 0 13 := by rw [q1, gi_si, if_neg (by omega), h10, h13]
      rw [e10]
      refine ⟨fun _ => ⟨fun z => absurd z (by decide), fun _ => fin⟩, fun z => ⟨fun _ => ⟨fun z => absurd z (by decide), fun _ => fin⟩, fun z2 => ?_⟩⟩
      exfalso
      rcases hc with hc | hc
      · exact z hc
      · rw [Int32.lt_iff_toInt_lt] at z2
        rw [Int32.le_iff_toInt_le] at hc
        omega
    unfold p_X10_land
    exact ⟨fun _ => q, fun z => ⟨fun z2 => (hc.elim (fun y => absurd y z) (fun y => absurd z2 y)), fun _ => q⟩⟩
  by_cases c1 : a < 0
  · exact bad (Or.inl c1)
  · by_cases c2 : a ≤ gi u 0 13
    · obtain ⟨n, hn, rfl⟩ := nn_of c1
      rw [h13, cLE (by omega) (by omega)] at c2
      have hE := e_all (B := B) (n := n) 901 D0 0
      refine k_land h13 ⟨c2, hn0⟩ (fun i hi => ⟨(hB i (by omega)).1, (hB i (by omega)).2.2⟩) I.wrd ?_
      cases hx : pAll B n 901 D0 0 with
      | error e =>
        rw [hx] at hE
        intro u1 a1 a2 a3 a4 a5
        refine r_land (n0 := n0) (B := B) (by rw [a5.1 272 10 (by omega) (by omega) (by omega)]; exact h10) ⟨c2, hn0⟩ (fun i hi => ⟨by rw [a5.1 278 i (by omega) (by omega) (by omega)]; exact (hB i (by omega)).2.1, (hB i (by omega)).2.2⟩) ?_
        rw [hx]
        refine ⟨hE.1, hE.2, fun u2 b1 b2 b3 b4 b5 => ⟨rfl, I.txt (fun k i c => ?_) (fun k i c => ?_) ?_ ?_ ?_ ?_ b3 ⟨σ, S.cg (fun k i c d => ?_) (fun k i c d => ?_) (fun i c d => ?_) (fun k i c => ?_) (fun i c d => ?_)⟩⟩⟩
        · rw [b5.1 k i (by omega) (by omega) (by omega), a5.1 k i (by omega) (by omega) (by omega)]
        · rw [b5.2 k i (by omega), a5.2 k i (by omega) (by omega)]
        · rw [b5.1 0 14 (by omega) (by omega) (by omega), a4, b4]
        · rw [b5.1 0 17 (by omega) (by omega) (by omega), a1, b1]
        · rw [b5.1 0 18 (by omega) (by omega) (by omega), a2, b2]
        · rw [b5.1 0 13 (by omega) (by omega) (by omega), a3]
        · rw [b5.1 k i (by omega) (by omega) (by omega), a5.1 k i (by omega) (by omega) (by omega)]
        · rw [b5.1 k i (by omega) (by omega) (by omega), a5.1 k i (by omega) (by omega) (by omega)]
        · rw [b5.1 273 i (by omega) (by omega) (by omega), a5.1 273 i (by omega) (by omega) (by omega)]
        · rw [b5.2 k i (by omega), a5.2 k i (by omega) (by omega)]
        · rw [b5.2 274 i (by omega), a5.2 274 i (by omega) (by omega)]
      | ok D =>
        intro u1 hD hC a1 a2 a3 a4 a5 a6 a7
        refine r_land (n0 := n0) (B := B) (by rw [a7.1 272 10 (by omega) (by omega) (by omega) (by omega) (by omega)]; exact h10) ⟨c2, hn0⟩ (fun i hi => ⟨by rw [a7.1 278 i (by omega) (by omega) (by omega) (by omega) (by omega)]; exact (hB i (by omega)).2.1, (hB i (by omega)).2.2⟩) ?_
        rw [hx]
        intro u2 _ hR h4 n1 n2 n3 b1 b2 b3 b4 b5
        have r21 : ∀ f, f < 24 → rlO f ≤ 26 := by decide
        refine ⟨rfl, I.txt (fun k i c => ?_) (fun k i c => ?_) ?_ ?_ ?_ ?_ b3 ⟨D.1, hC.1.cg (fun f hf i => ?_), hR, hD.1, ?_, hD.2.1.2.2.2.2, ⟨fun j hj => ?_, fun j hj => ?_, fun j hj => ?_⟩, Or.inl ⟨?_, ?_, ?_⟩⟩⟩
        · rw [b5.1 k i (by omega) (by omega) (by omega), a7.1 k i (by omega) (by omega) (by omega) (by omega) (by omega)]
        · rw [b5.2 k i (by omega), a7.2 k i (by omega) (by omega) (by omega)]
        · rw [b5.1 0 14 (by omega) (by omega) (by omega), a4, b4]
        · rw [b5.1 0 17 (by omega) (by omega) (by omega), a1, b1]
        · rw [b5.1 0 18 (by omega) (by omega) (by omega), a2, b2]
        · rw [b5.1 0 13 (by omega) (by omega) (by omega), a3]
        · have := r21 f hf
          exact b5.1 _ _ (by omega) (by omega) (by omega)
        · rw [hD.2.1.1]; omega
        · rw [b5.2 (83 + 2) j (by omega)]
          exact ⟨D.2 0 j, (n1 j hj).1, hC.2.1 j hj, (n1 j hj).2⟩
        · rw [b5.2 (83 + 10) j (by omega)]
          exact ⟨D.2 1 j, (n2 j hj).1, hC.2.2.1 j hj, (n2 j hj).2⟩
        · rw [b5.2 (83 + 17) j (by omega)]
          exact ⟨D.2 2 j, (n3 j hj).1, hC.2.2.2 j hj, (n3 j hj).2⟩
        · rw [b5.1 58 0 (by omega) (by omega) (by omega), a5]
        · rw [b5.1 58 2 (by omega) (by omega) (by omega), a6]
        · exact h4
    · exact bad (Or.inr c2)
end LANDK
