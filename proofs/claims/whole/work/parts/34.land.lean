/-! ===== what the class's land answers ===== -/
section LAND
variable {o : Nat} {σ : aS} {u : xM}
theorem k_depth {r : Nat} {Q : Int32 → xM → Prop} (h : LR o σ u) (ok : okS σ) (hr : r < σ 0 0) (hq : Q (nI (dep σ r)) u) : p_X7_depth o (nI r) u Q := by
  have h7 := ok.r
  have hm := ok.rm hr
  have c1 : ¬ 7 ≤ r := by omega
  have c2 : 1 ≤ σ 5 r := by omega
  have c3 : ¬ σ 5 r = 0 := by omega
  have hi : vp_in (nI r) 7 := cIN (by omega) (by decide)
  unfold p_X7_depth
  simp (disch := omega) only [cCL, cN0, c0L, c0P, cE0, cLE, cLT, cEQ, l_1, l_2, l_3, l_4, l_5, l_6, l_7, l_8, l_9, l_10, l_11, l_12, l_13, l_14, l_15, l_16, l_18, l_20, l_24, l_26, l_30, l_31, l_48, l_59, l_60, l_61, l_62, l_97, l_99, l_100, l_120, l_122, l_128, l_200, l_255, l_272, l_300, l_999, l_900, l_1000, l_2096, l_3011, l_9999, l_10000, l_11213, l_65536, l_100000, l_1000000, l_4095, l_55, l_135, l_147, l_523, l_160, l_520, l_524, h.f5 hr, h.f8 hr, c1, c2, c3, hi, forall_eq, forall_eq_apply_imp_iff, true_and, and_true, and_self, not_false_eq_true, not_true_eq_false, false_implies, true_implies, implies_true, forall_const, ↓reduceIte, false_or, or_false, true_or, or_true, cD]
  exact hq
theorem k_isWalled {d : Nat} {Q : Bool → xM → Prop} (h : LR o σ u) (ok : okS σ) (hd : d < 32) (hq : Q ((σ 21 0).testBit d) u) : p_X0_isWalled o (nI d) u Q := by
  have h1 := ok.walled
  have h2 := ok.p10
  unfold p_X0_isWalled
  rw [h.f21, bTST (by omega) hd]
  cases hb : (σ 21 0).testBit d <;> simp [hb] at hq ⊢ <;> exact hq
theorem k_isHeld {d : Nat} {Q : Bool → xM → Prop} (h : LR o σ u) (ok : okS σ) (hd : d < 32) (hq : Q ((σ 20 0).testBit d) u) : p_X0_isHeld o (nI d) u Q := by
  have h1 := ok.held
  have h2 := ok.p10
  unfold p_X0_isHeld
  rw [h.f20, bTST (by omega) hd]
  cases hb : (σ 20 0).testBit d <;> simp [hb] at hq ⊢ <;> exact hq
theorem k_isDrowned {d : Nat} {Q : Bool → xM → Prop} (h : LR o σ u) (ok : okS σ) (hd : d < 32) (hq : Q ((σ 22 0).testBit d) u) : p_X7_isDrowned o (nI d) u Q := by
  have h1 := ok.drowned
  have h2 := ok.p7
  unfold p_X7_isDrowned
  rw [h.f22, bTST (by omega) hd]
  cases hb : (σ 22 0).testBit d <;> simp [hb] at hq ⊢ <;> exact hq
theorem k_allWater {Q : Int32 → xM → Prop} (h : LR o σ u) (ok : okS σ) (hq : Q (nI (allW σ)) u) : p_X7_allWater o u Q := by
  have h7 := ok.r
  unfold p_X7_allWater
  refine xloop (fun n i (s : Int32) => p_X7_allWater_L4 o Q n s (nI i) u) (fun i s => s = nI (sumN (σ 8) i)) (σ 0 0) 0 0 (Nat.zero_le _) rfl ?_ ?_
  · intro n s hs
    subst hs
    unfold p_X7_allWater_L4
    refine ⟨fun _ => hq, fun c => absurd ?_ c⟩
    rw [h.f0, cLE (by omega) (by omega)]
    exact Nat.le_refl _
  · intro n i s _ hi hs k
    subst hs
    unfold p_X7_allWater_L4
    refine ⟨fun c => absurd c ?_, fun _ => ⟨cIN (by omega) (by decide), ?_⟩⟩
    · rw [h.f0, cLE (by omega) (by omega)]
      omega
    · simp (disch := omega) only [cCL, cN0, c0L, c0P, cE0, cLE, cLT, cEQ, l_1, l_2, l_3, l_4, l_5, l_6, l_7, l_8, l_9, l_10, l_11, l_12, l_13, l_14, l_15, l_16, l_18, l_20, l_24, l_26, l_30, l_31, l_48, l_59, l_60, l_61, l_62, l_97, l_99, l_100, l_120, l_122, l_128, l_200, l_255, l_272, l_300, l_999, l_900, l_1000, l_2096, l_3011, l_9999, l_10000, l_11213, l_65536, l_100000, l_1000000, l_4095, l_55, l_135, l_147, l_523, l_160, l_520, l_524, cA, cM, h.f8 hi, forall_eq, forall_eq_apply_imp_iff, true_and, and_true, and_self, not_false_eq_true, not_true_eq_false, false_implies, true_implies, implies_true, forall_const, ↓reduceIte, false_or, or_false, true_or, or_true]
      exact k _ rfl

theorem k_wetOnes {Q : Int32 → xM → Prop} (h : LR o σ u) (ok : okS σ) (hq : Q (nI (mk (fun r => decide (0 < dep σ r)) (σ 0 0))) u) : p_X7_wetOnes o u Q := by
  have h7 := ok.r
  unfold p_X7_wetOnes
  refine xloop (fun n i (s : Int32) => p_X7_wetOnes_L4 o Q n s (nI i) u) (fun i s => s = nI (mk (fun r => decide (0 < dep σ r)) i)) (σ 0 0) 0 0 (Nat.zero_le _) rfl ?_ ?_
  · intro n s hs
    subst hs
    unfold p_X7_wetOnes_L4
    refine ⟨fun _ => hq, fun c => absurd ?_ c⟩
    rw [h.f0, cLE (by omega) (by omega)]
    exact Nat.le_refl _
  · intro n i s _ hi hs k
    subst hs
    have hd := dep_le ok hi
    unfold p_X7_wetOnes_L4
    refine ⟨fun c => absurd c ?_, fun _ => k_depth h ok hi ⟨fun c => ?_, fun c => ?_⟩⟩
    · rw [h.f0, cLE (by omega) (by omega)]
      omega
    · simp (disch := omega) only [cCL, cN0, c0L, c0P, cE0, cLE, cLT, cEQ, l_1, l_2, l_3, l_4, l_5, l_6, l_7, l_8, l_9, l_10, l_11, l_12, l_13, l_14, l_15, l_16, l_18, l_20, l_24, l_26, l_30, l_31, l_48, l_59, l_60, l_61, l_62, l_97, l_99, l_100, l_120, l_122, l_128, l_200, l_255, l_272, l_300, l_999, l_900, l_1000, l_2096, l_3011, l_9999, l_10000, l_11213, l_65536, l_100000, l_1000000, l_4095, l_55, l_135, l_147, l_523, l_160, l_520, l_524, forall_eq, forall_eq_apply_imp_iff, true_and, and_true, and_self, not_false_eq_true, not_true_eq_false, false_implies, true_implies, implies_true, forall_const, ↓reduceIte, false_or, or_false, true_or, or_true] at c ⊢
      simp only [cA, cM]
      refine k _ ?_
      have c2 : ¬ 0 < dep σ i := by
        intro z
        rw [← nI_0, cLE (by omega) (by omega)] at c
        omega
      simp [mk, c2]
    · simp only [l_1, forall_eq, forall_eq_apply_imp_iff, true_and, and_true, and_self, not_false_eq_true, not_true_eq_false, false_implies, true_implies, implies_true, forall_const, ↓reduceIte, false_or, or_false, true_or, or_true, cA, cM]
      have c2 : 0 < dep σ i := by
        apply Nat.pos_of_ne_zero
        intro z
        apply c
        rw [z]
        decide
      rw [← l_1, bPOW (by omega), bOR]
      exact k _ (by simp [mk, c2])
theorem LR.w {w : Nat → Nat} {r v i : Nat} {x : Int32} (h : LR o (sF σ 8 w) u) (hr : r < σ 0 0) (hx : x = nI v) (hi : i = r) : LR o (sF σ 8 (fun a => if a = r then v else w a)) (si u (o + 7) i x) := by
  subst hi
  refine (h.up (f := 8) (i := i) (v := v) (by decide) (by decide) (by decide) (by decide) (by simpa [rlN, sF_at] using hr) hx rfl (by simp [rlS])).eq rfl rfl rfl (fun f hf b hb => ?_)
  rw [sU_at, sF_at, sF_at]
  by_cases e : f = 8
  · subst e
    by_cases e2 : b = i <;> simp [e2]
  · simp [e]
theorem sF_id (σ : aS) (f : Nat) : sF σ f (σ f) = σ := by
  funext a b
  rw [sF_at]
  by_cases e : a = f
  · subst e; simp
  · simp [e]
theorem LR.w0 (h : LR o σ u) : LR o (sF σ 8 (σ 8)) u := by rw [sF_id]; exact h
theorem LR.wc {w v : Nat → Nat} (h : LR o (sF σ 8 w) u) (hv : ∀ r, r < σ 0 0 → v r = w r) : LR o (sF σ 8 v) u := by
  refine h.eq rfl rfl rfl (fun f hf i hi => ?_)
  rw [sF_at, sF_at]
  by_cases e : f = 8
  · subst e
    have hi : i < σ 0 0 := by simpa [rlN, sF_at] using hi
    simp [hv i hi]
  · simp [e]
theorem k_pumpOut {Q : xM → Prop} (h : LR o σ u) (ok : okS σ) (hq : ∀ u', LR o (sF σ 8 (fun r => σ 8 r - σ 7 r)) u' → xsame (fun k => k ≠ o + 7) u u' → Q u') : p_X7_pumpOut o u Q := by
  have h7 := ok.r
  unfold p_X7_pumpOut
  refine xloop (fun n i (s : xM) => p_X7_pumpOut_L2 o Q n (nI i) s) (fun i s => LR o (sF σ 8 (fun r => if r < i then σ 8 r - σ 7 r else σ 8 r)) s ∧ xsame (fun k => k ≠ o + 7) u s) (σ 0 0) 0 u (Nat.zero_le _) ⟨h.w0.wc (fun r _ => by simp), xsame.rf⟩ ?_ ?_
  · intro n s hs
    unfold p_X7_pumpOut_L2
    refine ⟨fun _ => hq s (hs.1.wc (fun r hr => by simp [hr])) hs.2, fun c => absurd ?_ c⟩
    rw [hs.1.f0, sF_at, if_neg (by decide), cLE (by omega) (by omega)]
    exact Nat.le_refl _
  · intro n i s _ hi hs k
    have hm := ok.rm hi
    have hc : gi s (o + 1) 0 = nI (σ 0 0) := by rw [hs.1.f0]; rfl
    have h7 : gi s (o + 7) i = nI (σ 8 i) := by
      have := hs.1.f8 (i := i) hi
      rw [this]; simp [sF_at]
    have h6 : gi s (o + 6) i = nI (σ 7 i) := by
      have := hs.1.f7 (i := i) hi
      rw [this]; simp [sF_at]
    unfold p_X7_pumpOut_L2
    refine ⟨fun c => absurd c ?_, fun _ => ?_⟩
    · rw [hc, cLE (by omega) (by omega)]
      omega
    · simp (disch := omega) only [cCL, cN0, c0L, c0P, cE0, cLE, cLT, cEQ, l_1, l_2, l_3, l_4, l_5, l_6, l_7, l_8, l_9, l_10, l_11, l_12, l_13, l_14, l_15, l_16, l_18, l_20, l_24, l_26, l_30, l_31, l_48, l_59, l_60, l_61, l_62, l_97, l_99, l_100, l_120, l_122, l_128, l_200, l_255, l_272, l_300, l_999, l_900, l_1000, l_2096, l_3011, l_9999, l_10000, l_11213, l_65536, l_100000, l_1000000, l_4095, l_55, l_135, l_147, l_523, l_160, l_520, l_524, h7, h6, cIN, forall_eq, forall_eq_apply_imp_iff, true_and, and_true, and_self, not_false_eq_true, not_true_eq_false, false_implies, true_implies, implies_true, forall_const, ↓reduceIte, false_or, or_false, true_or, or_true, cA, cM]
      refine k _ ⟨?_, hs.2.tr (xsame.si (by simp))⟩
      refine (hs.1.w (v := σ 8 i - σ 7 i) hi ?_ rfl).wc (v := fun r => if r < i + 1 then σ 8 r - σ 7 r else σ 8 r) (fun r hr => ?_)
      · by_cases c : σ 8 i < σ 7 i
        · rw [if_pos c, cS (Nat.le_refl _)]
          congr 1; omega
        · rw [if_neg c, cS (by omega)]
      · by_cases e : r = i
        · subst e; simp
        · have : (r < i + 1) = (r < i) := by apply propext; omega
          simp [e, this]

/-- the looks at depths of the first n rooms -/
def lk (σ : aS) (n : Nat) : aS := fun f i => if f = 9 then (if i < n then max (σ 9 i) (dep σ i) else σ 9 i) else if f = 22 then (if i = 0 then σ 22 0 ||| mk (fun r => decide (σ 6 r < dep σ r)) n else σ 22 i) else σ f i
theorem lk_0 (σ : aS) : lk σ 0 = σ := by
  funext f i
  unfold lk
  by_cases e : f = 9
  · subst e; simp
  · by_cases e2 : f = 22
    · subst e2
      by_cases e3 : i = 0
      · subst e3; simp [mk]
      · simp [e3]
    · simp [e, e2]
theorem k_lookAtDepths_L38 {Q : xM → Prop} {K : Int32 → xM → Prop} {i v : Nat} (hi7 : i < 7) (hv : v ≤ 9999) {m : Nat} (hm : gi u (o + 8) i = nI m) (hm2 : m ≤ 9999) (hk : ∀ u', (m < v → u' = si u (o + 8) i (nI v)) → (v ≤ m → u' = u) → K (nI (i + 1)) u') : p_X7_lookAtDepths_L38 o Q K (nI i) (nI v) u := by
  unfold p_X7_lookAtDepths_L38
  simp (disch := omega) only [cCL, cN0, c0L, c0P, cE0, cLE, cLT, cEQ, l_1, l_2, l_3, l_4, l_5, l_6, l_7, l_8, l_9, l_10, l_11, l_12, l_13, l_14, l_15, l_16, l_18, l_20, l_24, l_26, l_30, l_31, l_48, l_59, l_60, l_61, l_62, l_97, l_99, l_100, l_120, l_122, l_128, l_200, l_255, l_272, l_300, l_999, l_900, l_1000, l_2096, l_3011, l_9999, l_10000, l_11213, l_65536, l_100000, l_1000000, l_4095, l_55, l_135, l_147, l_523, l_160, l_520, l_524, hm, cIN, forall_eq, forall_eq_apply_imp_iff, true_and, and_true, and_self, not_false_eq_true, not_true_eq_false, false_implies, true_implies, implies_true, forall_const, ↓reduceIte, false_or, or_false, true_or, or_true, cA, cM]
  refine ⟨fun c => hk _ (fun z => by omega) (fun _ => rfl), fun c => hk _ (fun _ => rfl) (fun z => by omega)⟩
theorem k_lookAtDepths {Q : xM → Prop} (h : LR o σ u) (ok : okS σ) (hq : ∀ u', LR o (lk σ (σ 0 0)) u' → xsame (fun k => k ≠ o + 8 ∧ k ≠ o + 1) u u' → Q u') : p_X7_lookAtDepths o u Q := by
  have h7 := ok.r
  unfold p_X7_lookAtDepths
  refine xloop (fun n i (s : xM) => p_X7_lookAtDepths_L2 o Q n (nI i) s) (fun i s => LR o (lk σ i) s ∧ xsame (fun k => k ≠ o + 8 ∧ k ≠ o + 1) u s) (σ 0 0) 0 u (Nat.zero_le _) ⟨by rw [lk_0]; exact h, xsame.rf⟩ ?_ ?_
  · intro n s hs
    unfold p_X7_lookAtDepths_L2
    refine ⟨fun _ => hq s hs.1 hs.2, fun c => absurd ?_ c⟩
    rw [hs.1.f0, show lk σ (σ 0 0) 0 0 = σ 0 0 from rfl, cLE (by omega) (by omega)]
    exact Nat.le_refl _
  · intro n i s _ hi hs k
    have hm := ok.rm hi
    have hdl := dep_le ok hi
    have hc : gi s (o + 1) 0 = nI (σ 0 0) := hs.1.f0
    have ok' : okS (lk σ i) := by
      refine ⟨ok.r, ok.d, ok.e, ok.h, fun r hr => ?_, fun d hd => ok.dr hd, fun e he => ok.er he, fun k hk => ok.hr hk, ok.held, ok.walled, ?_, ok.ph⟩
      · have hr : r < σ 0 0 := hr
        have a := ok.rm hr
        have b := dep_le ok hr
        refine ⟨a.1, a.2.1, a.2.2.1, a.2.2.2.1, a.2.2.2.2.1, a.2.2.2.2.2.1, a.2.2.2.2.2.2.1, ?_⟩
        show (if r < i then max (σ 9 r) (dep σ r) else σ 9 r) ≤ 9999
        split <;> omega
      · show lk σ i 22 0 < 2 ^ σ 0 0
        exact or_lt2 ok.drowned (Nat.lt_of_lt_of_le (mk_lt _ _) (p2le (by omega)))
    have hd0 := ok'.drowned
    have h128 := ok.p7
    have hd0 : lk σ i 22 0 < 2 ^ σ 0 0 := hd0
    have e9 : gi s (o + 8) i = nI (σ 9 i) := by
      rw [hs.1.f9 (i := i) hi]
      simp [lk]
    have fin : ∀ s1, LR o (lk σ i) s1 ∨ True → True := fun _ _ => trivial
    unfold p_X7_lookAtDepths_L2
    refine ⟨fun c => absurd c ?_, fun _ => k_depth hs.1 ok' hi ⟨cIN (by omega) (by decide), ?_, ?_⟩⟩
    · rw [hc, cLE (by omega) (by omega)]
      omega
    · intro c
      have c : dep σ i ≤ σ 6 i := by
        have e6 : gi s (o + 5) i = nI (σ 6 i) := hs.1.f6 (i := i) hi
        rw [cCL (by omega), e6, show dep (lk σ i) i = dep σ i from rfl, cLE (by omega) (by omega)] at c
        exact c
      refine k_lookAtDepths_L38 (v := dep σ i) (by omega) hdl e9 hm.2.2.2.2.2.2.2 (fun s1 g1 g2 => k s1 ?_)
      have base : LR o (sU (lk σ i) 9 i (max (σ 9 i) (dep σ i))) s1 := by
        rcases Nat.lt_or_ge (σ 9 i) (dep σ i) with z | z
        · rw [g1 z]
          exact hs.1.up (f := 9) (by decide) (by decide) (by decide) (by decide) (by simpa [rlN, lk] using hi) (by congr 1; omega) rfl (by simp [rlS])
        · rw [g2 z]
          refine hs.1.eq rfl rfl rfl (fun f hf b hb => ?_)
          rw [sU_at]
          by_cases e : f = 9 ∧ b = i
          · rw [if_pos e, e.1, e.2]
            simp [lk]; omega
          · rw [if_neg e]
      refine ⟨base.eq rfl rfl rfl (fun f hf b hb => ?_), hs.2.tr ?_⟩
      · have hmk : mk (fun r => decide (σ 6 r < dep σ r)) (i + 1) = mk (fun r => decide (σ 6 r < dep σ r)) i := by
          simp [mk, show ¬ σ 6 i < dep σ i by omega]
        rw [sU_at]
        unfold lk
        rw [hmk]
        by_cases e : f = 9
        · subst e
          by_cases e2 : b = i
          · subst e2; simp
          · have : (b < i + 1) = (b < i) := by apply propext; omega
            simp [e2, this]
        · simp [e]
      · rcases Nat.lt_or_ge (σ 9 i) (dep σ i) with z | z
        · rw [g1 z]; exact xsame.si (by simp)
        · rw [g2 z]; exact xsame.rf
    · intro c
      have c : σ 6 i < dep σ i := by
        have e6 : gi s (o + 5) i = nI (σ 6 i) := hs.1.f6 (i := i) hi
        rw [cCL (by omega), e6, show dep (lk σ i) i = dep σ i from rfl, cLE (by omega) (by omega)] at c
        omega
      intro s0 hs0
      have e22 : gi s (o + 1) 1 = nI (lk σ i 22 0) := hs.1.f22
      have L0 : LR o (sU (lk σ i) 22 0 (lk σ i 22 0 ||| 2 ^ i)) s0 := by
        rw [hs0, e22, bPOW (by omega), bOR]
        exact hs.1.up (f := 22) (by decide) (by decide) (by decide) (by decide) (by simp [rlN]) rfl rfl (by simp [rlS])
      have e90 : gi s0 (o + 8) i = nI (σ 9 i) := by
        rw [hs0, gi_si, if_neg (by simp)]
        exact e9
      refine k_lookAtDepths_L38 (v := dep σ i) (by omega) hdl e90 hm.2.2.2.2.2.2.2 (fun s1 g1 g2 => k s1 ?_)
      have base : LR o (sU (sU (lk σ i) 22 0 (lk σ i 22 0 ||| 2 ^ i)) 9 i (max (σ 9 i) (dep σ i))) s1 := by
        rcases Nat.lt_or_ge (σ 9 i) (dep σ i) with z | z
        · rw [g1 z]
          exact L0.up (f := 9) (by decide) (by decide) (by decide) (by decide) (by simpa [rlN, sU_at, lk] using hi) (by congr 1; omega) rfl (by simp [rlS])
        · rw [g2 z]
          refine L0.eq rfl rfl rfl (fun f hf b hb => ?_)
          rw [sU_at]
          by_cases e : f = 9 ∧ b = i
          · rw [if_pos e, e.1, e.2, sU_at]
            simp [lk]; omega
          · rw [if_neg e]
      refine ⟨base.eq rfl rfl rfl (fun f hf b hb => ?_), hs.2.tr ?_⟩
      · have hmk : mk (fun r => decide (σ 6 r < dep σ r)) (i + 1) = mk (fun r => decide (σ 6 r < dep σ r)) i ||| 2 ^ i := by
          simp [mk, c]
        rw [sU_at, sU_at]
        unfold lk
        rw [hmk]
        by_cases e : f = 9
        · subst e
          by_cases e2 : b = i
          · subst e2; simp
          · have : (b < i + 1) = (b < i) := by apply propext; omega
            simp [e2, this]
        · by_cases e3 : f = 22
          · subst e3
            by_cases e4 : b = 0
            · subst e4; simp [Nat.or_assoc]
            · simp [e4]
          · simp [e, e3]
      · have s01 : xsame (fun k => k ≠ o + 8 ∧ k ≠ o + 1) s s0 := by rw [hs0]; exact xsame.si (by simp)
        refine s01.tr ?_
        rcases Nat.lt_or_ge (σ 9 i) (dep σ i) with z | z
        · rw [g1 z]; exact xsame.si (by simp)
        · rw [g2 z]; exact xsame.rf
end LAND
