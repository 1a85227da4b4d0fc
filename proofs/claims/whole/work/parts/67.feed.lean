/-! ===== feed ===== -/
section FEED
variable {σ τ ρ : aS} {u u' u0 u1 : xM} {o o1 : Nat}
/-- bytes laid behind the n there are: c of them, kc kn the counter, kt the tape -/
def CF (kc kn kt n c : Nat) (b : Nat → Int32) (u u' : xM) : Prop := gi u' kc kn = nI (n + c) ∧ (∀ i, gi u' kt i = if n ≤ i ∧ i < n + c then b (i - n) else gi u kt i) ∧ (∀ k i, k ≠ kt → ¬ (k = kc ∧ i = kn) → gi u' k i = gi u k i) ∧ ∀ k i, gl u' k i = gl u k i
theorem CF.rf {kc kn kt n : Nat} {b : Nat → Int32} (h : gi u kc kn = nI n) : CF kc kn kt n 0 b u u := ⟨h, fun i => by rw [if_neg (by omega)], fun _ _ _ _ => rfl, fun _ _ => rfl⟩
def apB (c : Nat) (b b' : Nat → Int32) : Nat → Int32 := fun i => if i < c then b i else b' (i - c)
theorem CF.tr {kc kn kt n c c' : Nat} {b b' : Nat → Int32} {w : xM} (h : CF kc kn kt n c b u u') (h' : CF kc kn kt (n + c) c' b' u' w) : CF kc kn kt n (c + c') (apB c b b') u w := by
  refine ⟨by rw [h'.1]; congr 1; omega, fun i => ?_, fun k i h1 h2 => (h'.2.2.1 k i h1 h2).trans (h.2.2.1 k i h1 h2), fun k i => (h'.2.2.2 k i).trans (h.2.2.2 k i)⟩
  rw [h'.2.1, h.2.1]
  unfold apB
  by_cases e1 : n + c ≤ i ∧ i < n + c + c'
  · rw [if_pos e1, if_pos (by omega), if_neg (by omega)]
    congr 1
    omega
  · rw [if_neg e1]
    by_cases e2 : n ≤ i ∧ i < n + c
    · rw [if_pos e2, if_pos (by omega), if_pos (by omega)]
    · rw [if_neg e2, if_neg (by omega)]
def by8 (v : Int32) (j : Nat) : Int32 := ((v >>> (nI (24 - 8 * j) &&& 31)).toInt8.toInt32).toInt8.toInt32
theorem CF.one {kc kn kt n c : Nat} {b : Nat → Int32} {w1 w2 : xM} {x y : Int32} (hk : kc ≠ kt) (h : CF kc kn kt n c b u u') (h1 : w1 = si u' kt (n + c) x) (hx : x = b c) (h2 : w2 = si w1 kc kn y) (hy : y = nI (n + (c + 1))) : CF kc kn kt n (c + 1) b u w2 := by
  refine ⟨by rw [h2, gi_at, hy], fun i => ?_, fun k i a1 a2 => ?_, fun k i => ?_⟩
  · rw [h2, gi_si, if_neg (fun z => hk z.1.symm), h1, gi_si]
    by_cases e : i = n + c
    · rw [if_pos ⟨rfl, e⟩, if_pos (by omega), hx]
      congr 1
      omega
    · rw [if_neg (fun z => e z.2), h.2.1]
      by_cases e2 : n ≤ i ∧ i < n + c
      · rw [if_pos e2, if_pos (by omega)]
      · rw [if_neg e2, if_neg (by omega)]
  · rw [h2, gi_si, if_neg a2, h1, gi_si, if_neg (fun z => a1 z.1), h.2.2.1 k i a1 a2]
  · rw [h2, h1]; exact h.2.2.2 k i
theorem k_four {n : Nat} {v : Int32} {Q : xM → Prop} (h : gi u 0 13 = nI n) (hn : n + 4 ≤ 900) (hq : ∀ u', CF 0 13 4 n 4 (by8 v) u u' → Q u') : p_X10_putOnTape v u Q := by
  unfold p_X10_putOnTape
  refine xloop (fun m i (w : xM) => p_X10_putOnTape_L3 Q m v (iI (24 - 8 * (i : Int))) w) (fun i w => CF 0 13 4 n i (by8 v) u w) 4 0 u (Nat.zero_le _) (CF.rf h) ?_ ?_
  · intro m w hw
    unfold p_X10_putOnTape_L3
    exact ⟨fun _ => hq w hw, fun c => absurd (by decide) c⟩
  · intro m i w _ hi hw kk
    have e : iI (24 - 8 * (i : Int)) = nI (24 - 8 * i) := by rw [nI_iI]; congr 1; omega
    unfold p_X10_putOnTape_L3
    rw [e, hw.1, l_900, cN0 (by omega), cLE (by omega) (by omega), cCL (by omega)]
    refine ⟨fun c => c.elim, fun _ => ⟨fun c => absurd c (by omega), fun _ => ⟨cIN (by omega) (by decide), fun u4 h4 u5 h5 x6 h6 => ?_⟩⟩⟩
    have e6 : x6 = iI (24 - 8 * ((i + 1 : Nat) : Int)) := by
      rw [h6, nI_iI, show (-8 : Int32) = iI (-8) from by decide, iI_add]
      congr 1; omega
    rw [e6]
    refine kk u5 (CF.one (by decide) hw h4 rfl h5 ?_)
    rw [h4, gi_si, if_neg (by omega), hw.1, l_1, cA]
    congr 1
theorem r_four {n : Nat} {v : Int32} {Q : xM → Prop} (h : gi u 272 10 = nI n) (hn : n + 4 ≤ 900) (hq : ∀ u', CF 272 10 278 n 4 (by8 v) u u' → Q u') : p_X11_four v u Q := by
  unfold p_X11_four
  refine xloop (fun m i (w : xM) => p_X11_four_L3 Q m v (iI (24 - 8 * (i : Int))) w) (fun i w => CF 272 10 278 n i (by8 v) u w) 4 0 u (Nat.zero_le _) (CF.rf h) ?_ ?_
  · intro m w hw
    unfold p_X11_four_L3
    exact ⟨fun _ => hq w hw, fun c => absurd (by decide) c⟩
  · intro m i w _ hi hw kk
    have e : iI (24 - 8 * (i : Int)) = nI (24 - 8 * i) := by rw [nI_iI]; congr 1; omega
    unfold p_X11_four_L3
    rw [e, hw.1, cN0 (by omega), cCL (by omega)]
    refine ⟨fun c => c.elim, fun _ => ⟨cIN (by omega) (by decide), fun u4 h4 u5 h5 x6 h6 => ?_⟩⟩
    have e6 : x6 = iI (24 - 8 * ((i + 1 : Nat) : Int)) := by
      rw [h6, nI_iI, show (-8 : Int32) = iI (-8) from by decide, iI_add]
      congr 1; omega
    rw [e6]
    refine kk u5 (CF.one (by decide) hw h4 rfl h5 ?_)
    rw [h4, gi_si, if_neg (by omega), hw.1, l_1, cA]
    congr 1
def bP (x : Int32) : Prop := ∃ c : Nat, c < 256 ∧ x = (nI c).toInt8.toInt32
theorem bP_of (x : Int8) : bP x.toInt32 := by
  refine ⟨x.toBitVec.toNat, x.toBitVec.isLt, ?_⟩
  congr 1
  apply Int8.toBitVec_inj.mp
  show x.toBitVec = BitVec.signExtend 8 (nI x.toBitVec.toNat).toBitVec
  rw [bI]
  apply BitVec.eq_of_toNat_eq
  have := x.toBitVec.isLt
  rw [BitVec.signExtend_eq_setWidth_of_le _ (by decide)]
  simp only [BitVec.toNat_setWidth, BitVec.toNat_ofNat]
  omega
theorem bP_8 (v : Int32) (j : Nat) : bP (by8 v j) := bP_of _
theorem bP_ap {c : Nat} {b b' : Nat → Int32} (h : ∀ i, bP (b i)) (h' : ∀ i, bP (b' i)) (i : Nat) : bP (apB c b b' i) := by
  unfold apB
  split
  · exact h i
  · exact h' _
def by20 (a b c d e : Int32) : Nat → Int32 := apB 16 (apB 12 (apB 8 (apB 4 (by8 a) (by8 b)) (by8 c)) (by8 d)) (by8 e)
theorem bP_20 (a b c d e : Int32) (i : Nat) : bP (by20 a b c d e i) := bP_ap (bP_ap (bP_ap (bP_ap (bP_8 a) (bP_8 b)) (bP_8 c)) (bP_8 d)) (bP_8 e) i
theorem K_feed (I : INV u) (a b c d e : Int32) : p_X10_feed a b c d e u (fun r u1 => p_X11_feed a b c d e u1 (fun r' u2 => r = r' ∧ INV u2)) := by
  obtain ⟨n, h1, h2, h3, h4⟩ := I.tap
  unfold p_X10_feed p_X11_feed
  rw [h2, l_20, l_900, cA, cLE (by omega) (by omega)]
  by_cases hn : n + 20 ≤ 900
  · refine ⟨fun _ => ?_, fun z => absurd hn z⟩
    refine k_four h2 (by omega) (fun u2 c2 => k_four c2.1 (by omega) (fun u3 c3 => k_four c3.1 (by omega) (fun u4 c4 => k_four c4.1 (by omega) (fun u5 c5 => k_four c5.1 (by omega) (fun u6 c6 => ?_)))))
    have cf : CF 0 13 4 n 20 (by20 a b c d e) u u6 := (((c2.tr c3).tr c4).tr c5).tr c6
    have g2 : gi u6 272 10 = nI n := (cf.2.2.1 272 10 (by omega) (by omega)).trans h3
    dsimp only
    rw [g2, cA, cLE (by omega) (by omega)]
    refine ⟨fun _ => ?_, fun z => absurd hn z⟩
    refine r_four g2 (by omega) (fun w2 d2 => r_four d2.1 (by omega) (fun w3 d3 => r_four d3.1 (by omega) (fun w4 d4 => r_four d4.1 (by omega) (fun w5 d5 => r_four d5.1 (by omega) (fun w6 d6 => ?_)))))
    have df : CF 272 10 278 n 20 (by20 a b c d e) u6 w6 := (((d2.tr d3).tr d4).tr d5).tr d6
    have ei : ∀ k i, (cellI k i ∧ k ≠ 4 ∧ k ≠ 278 ∧ ¬ (k = 0 ∧ i = 13) ∧ ¬ (k = 272 ∧ i = 10)) → gi w6 k i = gi u k i := fun k i hk => by
      rw [df.2.2.1 k i (by omega) (by omega), cf.2.2.1 k i (by omega) (by omega)]
    have el : ∀ k i, gl w6 k i = gl u k i := fun k i => (df.2.2.2 k i).trans (cf.2.2.2 k i)
    refine ⟨by rw [cf.1, df.1], ?_, ?_, ?_, ?_, ?_, ?_, fun t ht => ?_, ?_, ?_, ?_, ?_, ?_⟩
    · rw [df.2.2.1 0 14 (by omega) (by omega), cf.2.2.1 0 14 (by omega) (by omega), df.2.2.1 272 2 (by omega) (by omega), cf.2.2.1 272 2 (by omega) (by omega)]; exact I.st
    · rw [el, el]; exact I.tp
    · rw [el, el]; exact I.bt
    · rw [ei 0 17 (by unfold cellI; omega), ei 272 16 (by unfold cellI; omega)]; exact I.fk
    · rw [ei 0 18 (by unfold cellI; omega), ei 272 17 (by unfold cellI; omega)]; exact I.fp
    · refine ⟨n + 20, hn, ?_, df.1, fun i hi => ?_⟩
      · rw [df.2.2.1 0 13 (by omega) (by omega), cf.1]
      · rw [df.2.2.1 4 i (by omega) (by omega), cf.2.1, df.2.1]
        by_cases ei2 : n ≤ i ∧ i < n + 20
        · rw [if_pos ei2, if_pos ei2]
          exact ⟨rfl, bP_20 a b c d e _⟩
        · rw [if_neg ei2, if_neg ei2, cf.2.2.1 278 i (by omega) (by omega)]
          exact h4 i (by omega)
    · exact (I.tra t ht).cg (fun i => ei _ _ (by unfold cellI; omega)) (ei _ _ (by unfold cellI; omega)) (ei _ _ (by unfold cellI; omega)) (fun i => el _ _) (fun i _ => el _ _)
    · exact I.lvd.cg (fun i => ei _ _ (by unfold cellI; omega)) (ei _ _ (by unfold cellI; omega)) (fun i => ei _ _ (by unfold cellI; omega))
    · exact I.wrd.cg (ei _ _ (by unfold cellI; omega)) (ei _ _ (by unfold cellI; omega)) (fun i => el _ _) (fun i => el _ _)
    · rw [ei 272 23 (by unfold cellI; omega), ei 272 24 (by unfold cellI; omega), ei 272 25 (by unfold cellI; omega)]; exact I.md
    · exact I.mks.cg (ei _ _ (by unfold cellI; omega)) (ei _ _ (by unfold cellI; omega)) (fun k i a => ei _ _ (by unfold cellI; omega)) (fun i a b => ei _ _ (by unfold cellI; omega)) (fun k i a b => el _ _) (fun i a b => el _ _)
    · obtain ⟨σ, hσ⟩ := I.sl
      exact ⟨σ, hσ.cg (fun k i a1 a2 => ei k i (by unfold cellI; omega)) (fun k i a1 a2 => ei k i (by unfold cellI; omega)) (fun i a1 a2 => ei 273 i (by unfold cellI; omega)) (fun k i a1 => el k i) (fun i a1 a2 => el 274 i)⟩
  · refine ⟨fun z => absurd z hn, fun _ => ?_⟩
    dsimp only
    rw [h3, cA, cLE (by omega) (by omega)]
    exact ⟨fun z => absurd z hn, fun _ => ⟨rfl, I⟩⟩
end FEED
