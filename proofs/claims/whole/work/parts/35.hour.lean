/-! ===== an hour of the class's land ===== -/
section HOUR
variable {o : Nat} {σ : aS} {u : xM}
theorem k_hourOfDay {Q : Int32 → xM → Prop} (h : LR o σ u) (ok : okS σ) (hq : Q (nI (hod σ)) u) : p_X1_hourOfDay o u Q := by
  have hh := ok.h
  unfold p_X1_hourOfDay
  simp (disch := omega) only [cCL, cN0, c0L, c0P, cE0, cLE, cLT, cEQ, l_1, l_2, l_3, l_4, l_5, l_6, l_7, l_8, l_9, l_10, l_11, l_12, l_13, l_14, l_15, l_16, l_18, l_20, l_24, l_26, l_30, l_31, l_48, l_59, l_60, l_61, l_62, l_97, l_99, l_100, l_120, l_122, l_128, l_200, l_255, l_272, l_300, l_999, l_900, l_1000, l_2096, l_3011, l_9999, l_10000, l_11213, l_65536, l_100000, l_1000000, l_4095, l_55, l_135, l_147, l_523, l_160, l_520, l_524, h.f3, cR, forall_eq, forall_eq_apply_imp_iff, true_and, and_true, and_self, not_false_eq_true, not_true_eq_false, false_implies, true_implies, implies_true, forall_const, ↓reduceIte, false_or, or_false, true_or, or_true]
  exact hq
theorem k_openNow {Q : Int32 → xM → Prop} (h : LR o σ u) (ok : okS σ) (hq : Q (nI (opn σ)) u) : p_X1_openNow o u Q := by
  have hh := ok.h
  have h1 := hod_lt σ
  have h2 := or_lt2 ok.held (ok.hr h1).2
  have h3 := ok.p10
  unfold p_X1_openNow
  intro x hx
  have hx : x = nI (hod σ) := by
    rw [hx, h.f3, l_12, cR (by omega) (by omega) (by omega)]
    rfl
  subst hx
  rw [h.f20, cCL (by omega), h.f19 h1, h.f21, bOR, bNOT (by omega)]
  exact ⟨cIN h1 (by decide), hq⟩
/-- surfaces are found -/
def SFF (o : Nat) (σ : aS) (u : xM) : Prop := ∀ e, e < σ 0 0 ∨ e = 7 → gi u (o + 22) e = nI (sur σ e)
theorem k_findSurfaces {Q : xM → Prop} (h : LR o σ u) (ok : okS σ) (hq : ∀ u', LR o σ u' → SFF o σ u' → xsame (fun k => k ≠ o + 22) u u' → Q u') : p_X1_findSurfaces o u Q := by
  have h7 := ok.r
  have hh := ok.h
  have h1 := hod_lt σ
  unfold p_X1_findSurfaces
  refine xloop (fun n i (s : xM) => p_X1_findSurfaces_L2 o Q n (nI i) s) (fun i s => LR o σ s ∧ (∀ e, e < i → gi s (o + 22) e = nI (sur σ e)) ∧ xsame (fun k => k ≠ o + 22) u s) (σ 0 0) 0 u (Nat.zero_le _) ⟨h, fun e he => by omega, xsame.rf⟩ ?_ ?_
  · intro n s hs
    unfold p_X1_findSurfaces_L2
    refine ⟨fun _ => ?_, fun c => absurd ?_ c⟩
    · intro x hx
      have hx : x = nI (hod σ) := by
        rw [hx, hs.1.f3, l_12, cR (by omega) (by omega) (by omega)]
        rfl
      subst hx
      refine ⟨cIN h1 (by decide), by rw [l_7]; exact cIN (by omega) (by decide), ?_⟩
      intro s1 hs1
      rw [cCL (by omega), hs.1.f18 h1, l_7, cCL (by omega)] at hs1
      subst hs1
      refine hq _ (hs.1.scr' (n := 22) (by omega) rfl) (fun e he => ?_) (hs.2.2.tr (xsame.si (by simp)))
      rw [gi_si]
      rcases he with he | rfl
      · rw [if_neg (by omega)]
        exact hs.2.1 e he
      · rw [if_pos ⟨rfl, rfl⟩]
        rfl
    · rw [hs.1.f0, cLE (by omega) (by omega)]
      exact Nat.le_refl _
  · intro n i s _ hi hs k
    have hd := dep_le ok hi
    have hm := ok.rm hi
    unfold p_X1_findSurfaces_L2
    refine ⟨fun c => absurd c ?_, fun _ => ⟨cIN (by omega) (by decide), k_depth hs.1 ok hi ⟨cIN (by omega) (by decide), ?_⟩⟩⟩
    · rw [hs.1.f0, cLE (by omega) (by omega)]
      omega
    · intro s1 hs1
      rw [cCL (by omega), hs.1.f4 hi, cA] at hs1
      subst hs1
      intro x hx
      rw [l_1, cA] at hx
      subst hx
      refine k _ ⟨hs.1.scr' (n := 22) (by omega) rfl, fun e he => ?_, hs.2.2.tr (xsame.si (by simp))⟩
      rw [gi_si]
      by_cases c : e = i
      · subst c
        rw [if_pos ⟨rfl, rfl⟩]
        unfold sur
        rw [if_pos (by omega)]
      · rw [if_neg (by rintro ⟨-, z⟩; exact c z)]
        exact hs.2.1 e (by omega)
theorem k_surfaceOf {e : Nat} {Q : Int32 → xM → Prop} (hs : SFF o σ u) (ok : okS σ) (he : e < σ 0 0 ∨ e = 7) (hq : Q (nI (sur σ e)) u) : p_X1_surfaceOf o (nI e) u Q := by
  have h7 := ok.r
  unfold p_X1_surfaceOf
  have c1 : ¬ 7 < e := by omega
  simp (disch := omega) only [cCL, cN0, c0L, c0P, cE0, cLE, cLT, cEQ, l_1, l_2, l_3, l_4, l_5, l_6, l_7, l_8, l_9, l_10, l_11, l_12, l_13, l_14, l_15, l_16, l_18, l_20, l_24, l_26, l_30, l_31, l_48, l_59, l_60, l_61, l_62, l_97, l_99, l_100, l_120, l_122, l_128, l_200, l_255, l_272, l_300, l_999, l_900, l_1000, l_2096, l_3011, l_9999, l_10000, l_11213, l_65536, l_100000, l_1000000, l_4095, l_55, l_135, l_147, l_523, l_160, l_520, l_524, cIN, hs e he, c1, forall_eq, forall_eq_apply_imp_iff, true_and, and_true, and_self, not_false_eq_true, not_true_eq_false, false_implies, true_implies, implies_true, forall_const, ↓reduceIte, false_or, or_false, true_or, or_true]
  exact hq
/-- flows are found -/
def FFF (o : Nat) (σ : aS) (n : Nat) (u : xM) : Prop := ∀ d, d < n → gi u (o + 23) d = nI (drv σ d) ∧ gi u (o + 24) d = iI (sgn σ d (fop σ d)) ∧ gi u (o + 25) d = iI (sfl (opn σ) σ d)
theorem iteMin {a b : Nat} (ha : a < 2147483648) (hb : b < 2147483648) : (if nI b < nI a then nI b else nI a) = nI (min a b) := by
  by_cases c : b < a
  · rw [if_pos ((nI_ltI hb ha).mpr c)]; congr 1; omega
  · rw [if_neg (fun z => c ((nI_ltI hb ha).mp z))]; congr 1; omega
theorem iteMax {a b : Nat} (ha : a < 2147483648) (hb : b < 2147483648) : (if nI a < nI b then nI b else nI a) = nI (max a b) := by
  by_cases c : a < b
  · rw [if_pos ((nI_ltI ha hb).mpr c)]; congr 1; omega
  · rw [if_neg (fun z => c ((nI_ltI ha hb).mp z))]; congr 1; omega
theorem iteI {a b : Int} (ha : -2147483648 ≤ a ∧ a < 2147483648) (hb : -2147483648 ≤ b ∧ b < 2147483648) (x y : Int32) : (if iI a < iI b then x else y) = if a < b then x else y := by
  by_cases c : a < b
  · rw [if_pos (by rw [iI_lt ha.1 ha.2 hb.1 hb.2]; exact c), if_pos c]
  · rw [if_neg (by rw [iI_lt ha.1 ha.2 hb.1 hb.2]; exact c), if_neg c]
theorem nI_sub_min {a b s : Nat} (ha : a < 1073741824) (hb : b ≤ a) (hs : s < 1073741824) {x : Int32} (hx : x = (if (nI a - nI b) < (nI a - nI s) then (nI a - nI b) else (nI a - nI s))) {y : Int32} (hy : y = (if (0 : Int32) < x then x else (0 : Int32))) : y = nI (min (a - s) (a - b)) := by
  simp only [l_0, nI_iI, iI_sub] at hx hy ⊢
  rw [iteI (by omega) (by omega)] at hx
  by_cases c : (a : Int) - (b : Int) < (a : Int) - (s : Int)
  · rw [if_pos c] at hx
    subst hx
    rw [iteI (by omega) (by omega)] at hy
    rw [hy]
    split <;> congr 1 <;> omega
  · rw [if_neg c] at hx
    subst hx
    rw [iteI (by omega) (by omega)] at hy
    rw [hy]
    split <;> congr 1 <;> omega
theorem k_ff_L183 {Q : xM → Prop} {K : Int32 → Int32 → xM → Prop} {v1 w2 : Int32} {d a b m : Nat} (hd : d < 10) (ha : a < 1073741824) (hb : b < 1073741824) (hk : K v1 (nI (d + 1)) (si (si u (o + 24) d w2) (o + 25) d (if b ≤ a then nI m else -nI m))) : p_X1_findFlows_L183 o Q K v1 (nI d) (nI a) (nI b) (nI m) (nI d) w2 u := by
  unfold p_X1_findFlows_L183
  simp (disch := omega) only [cCL, cN0, c0L, c0P, cE0, cLE, cLT, cEQ, l_1, l_2, l_3, l_4, l_5, l_6, l_7, l_8, l_9, l_10, l_11, l_12, l_13, l_14, l_15, l_16, l_18, l_20, l_24, l_26, l_30, l_31, l_48, l_59, l_60, l_61, l_62, l_97, l_99, l_100, l_120, l_122, l_128, l_200, l_255, l_272, l_300, l_999, l_900, l_1000, l_2096, l_3011, l_9999, l_10000, l_11213, l_65536, l_100000, l_1000000, l_4095, l_55, l_135, l_147, l_523, l_160, l_520, l_524, cIN, forall_eq, forall_eq_apply_imp_iff, true_and, and_true, and_self, not_false_eq_true, not_true_eq_false, false_implies, true_implies, implies_true, forall_const, ↓reduceIte, false_or, or_false, true_or, or_true, cA, cM]
  refine ⟨fun c => ?_, fun c => ?_⟩
  · rw [if_neg (by omega)] at hk; exact hk
  · rw [if_pos (by omega)] at hk; exact hk
theorem k_ff_L162 {Q : xM → Prop} {K : Int32 → Int32 → xM → Prop} {v1 : Int32} {d a b m n : Nat} (hd : d < 10) (ha : a < 1073741824) (hb : b < 1073741824) (hk : K v1 (nI (d + 1)) (si (si u (o + 24) d (if b ≤ a then nI n else -nI n)) (o + 25) d (if b ≤ a then nI m else -nI m))) : p_X1_findFlows_L162 o Q K v1 (nI d) (nI a) (nI b) (nI n) (nI m) u := by
  unfold p_X1_findFlows_L162
  simp (disch := omega) only [cCL, cN0, c0L, c0P, cE0, cLE, cLT, cEQ, l_1, l_2, l_3, l_4, l_5, l_6, l_7, l_8, l_9, l_10, l_11, l_12, l_13, l_14, l_15, l_16, l_18, l_20, l_24, l_26, l_30, l_31, l_48, l_59, l_60, l_61, l_62, l_97, l_99, l_100, l_120, l_122, l_128, l_200, l_255, l_272, l_300, l_999, l_900, l_1000, l_2096, l_3011, l_9999, l_10000, l_11213, l_65536, l_100000, l_1000000, l_4095, l_55, l_135, l_147, l_523, l_160, l_520, l_524]
  refine ⟨fun c => k_ff_L183 hd ha hb ?_, fun c => k_ff_L183 hd ha hb ?_⟩
  · rw [if_neg (by omega)] at hk; rw [if_neg (by omega)]; rw [if_neg (by omega)] at hk; exact hk
  · rw [if_pos (by omega)] at hk; rw [if_pos (by omega)]; rw [if_pos (by omega)] at hk; exact hk
theorem sgn_I (σ : aS) (d n : Nat) : (if sB σ d ≤ sA σ d then nI n else -nI n) = iI (sgn σ d n) := by
  unfold sgn
  split
  · exact nI_iI n
  · rw [nI_iI, iI_neg]
theorem k_findFlows {Q : xM → Prop} (h : LR o σ u) (ok : okS σ) (hS : SFF o σ u) (hq : ∀ u', LR o σ u' → FFF o σ (σ 1 0) u' → xsame (fun k => k ≠ o + 23 ∧ k ≠ o + 24 ∧ k ≠ o + 25) u u' → Q u') : p_X1_findFlows o u Q := by
  have h10 := ok.d
  have hop := opn_lt ok
  have hp := ok.p10
  unfold p_X1_findFlows
  refine k_openNow h ok ?_
  refine xloop (fun n i (s : xM) => p_X1_findFlows_L7 o Q n (nI (opn σ)) (nI i) s) (fun i s => LR o σ s ∧ FFF o σ i s ∧ xsame (fun k => k ≠ o + 23 ∧ k ≠ o + 24 ∧ k ≠ o + 25) u s) (σ 1 0) 0 u (Nat.zero_le _) ⟨h, fun d hd => by omega, xsame.rf⟩ ?_ ?_
  · intro n s hs
    unfold p_X1_findFlows_L7
    refine ⟨fun _ => hq s hs.1 hs.2.1 hs.2.2, fun c => absurd ?_ c⟩
    rw [hs.1.f1, cLE (by omega) (by omega)]
    exact Nat.le_refl _
  · intro n i s _ hi hs k
    have hm := ok.dr hi
    have hS2 : SFF o σ s := fun e he => by rw [hs.2.2.1 _ _ ⟨by omega, by omega, by omega⟩]; exact hS e he
    have hA : sA σ i ≤ 10098 := sur_le ok hm.1
    have hB : sB σ i ≤ 10098 := sur_le ok hm.2.1
    have hdr := drv_le ok hi
    have hfo := fop_le ok hi
    unfold p_X1_findFlows_L7
    refine ⟨fun c => absurd c ?_, fun _ => ⟨cIN (by omega) (by decide), ?_⟩⟩
    · rw [hs.1.f1, cLE (by omega) (by omega)]
      omega
    rw [cCL (by omega), hs.1.f10 hi]
    refine k_surfaceOf hS2 ok hm.1 ⟨cIN (by omega) (by decide), ?_⟩
    rw [hs.1.f11 hi]
    refine k_surfaceOf hS2 ok hm.2.1 ?_
    rw [hs.1.f12 hi]
    intro x8 hx8
    have hx8 : x8 = nI (max (sA σ i) (sB σ i)) := by
      rw [hx8]
      exact iteMax (a := sA σ i) (b := sB σ i) (by omega) (by omega)
    subst hx8
    refine ⟨cIN (by omega) (by decide), ?_⟩
    intro x10 hx10
    have hx10 : x10 = nI (min (sA σ i) (sB σ i)) := by
      rw [hx10]
      exact iteMin (a := sA σ i) (b := sB σ i) (by omega) (by omega)
    subst hx10
    intro x11 hx11 x12 hx12
    have hx12 : x12 = nI (drv σ i) := nI_sub_min (by omega) (by omega) (by omega) hx11 hx12
    subst hx12
    refine ⟨cIN (by omega) (by decide), ?_⟩
    intro s1 hs1
    have L1 : LR o σ s1 := by rw [hs1]; exact hs.1.scr' (n := 23) (by omega) rfl
    refine ⟨cIN (by omega) (by decide), cIN (by omega) (by decide), ?_⟩
    have e23 : gi s1 (o + 23) i = nI (drv σ i) := by rw [hs1, gi_si, if_pos ⟨rfl, rfl⟩]
    rw [e23, L1.f13 hi, cM]
    intro x17 hx17
    have hx17 : x17 = nI (fop σ i) := hx17
    subst hx17
    refine ⟨cIN (by omega) (by decide), ?_⟩
    rw [L1.f14 hi]
    intro x19 hx19
    have hx19 : x19 = nI (min (fop σ i) (σ 14 i)) := by
      rw [hx19]
      exact iteMin (by omega) (by omega)
    subst hx19
    have key : p_X1_findFlows_L144 o Q (p_X1_findFlows_L7 o Q n) (nI (opn σ)) (nI i) (nI (sur σ (σ 10 i))) (nI (sur σ (σ 11 i))) (nI (fop σ i)) (nI (fsh σ i)) s1 := by
      unfold p_X1_findFlows_L144
      rw [bTST (by omega) (by omega)]
      have fin : ∀ m, m = flo (opn σ) σ i → p_X1_findFlows_L162 o Q (p_X1_findFlows_L7 o Q n) (nI (opn σ)) (nI i) (nI (sur σ (σ 10 i))) (nI (sur σ (σ 11 i))) (nI (fop σ i)) (nI m) s1 := by
        intro m hme
        refine k_ff_L162 (a := sur σ (σ 10 i)) (b := sur σ (σ 11 i)) (by omega) (by show sA σ i < _; omega) (by show sB σ i < _; omega) (k _ ⟨(L1.scr' (n := 24) (by omega) rfl).scr' (n := 25) (by omega) rfl, fun d hd => ?_, ?_⟩)
        · rw [gi_si, gi_si, gi_si, gi_si, gi_si, gi_si]
          by_cases c : d = i
          · subst c
            refine ⟨?_, ?_, ?_⟩
            · rw [if_neg (by omega), if_neg (by omega)]; exact e23
            · rw [if_neg (by omega), if_pos ⟨rfl, rfl⟩]; exact sgn_I σ d _
            · rw [if_pos ⟨rfl, rfl⟩, hme]; exact sgn_I σ d _
          · have hd2 := hs.2.1 d (by omega)
            rw [if_neg (by omega), if_neg (by omega), if_neg (by omega), if_neg (by omega), if_neg (by omega), if_neg (by omega), hs1, gi_si, gi_si, gi_si, if_neg (by omega), if_neg (by omega), if_neg (by omega)]
            exact hd2
        · refine hs.2.2.tr ?_
          rw [hs1]
          exact (xsame.si (by simp)).tr ((xsame.si (by simp)).tr (xsame.si (by simp)))
      refine ⟨fun c => fin _ (by unfold flo; rw [if_neg c]), fun c => fin _ (by unfold flo; rw [if_pos c])⟩
    refine k_isWalled L1 ok (by omega) ⟨fun c => ?_, fun c => ?_⟩
    · have : fsh σ i = min (fop σ i) (σ 14 i) := by unfold fsh; simp [c]
      rw [← this]; exact key
    · have : fsh σ i = 0 := by unfold fsh; simp [c]
      rw [l_0, ← this]; exact key
end HOUR
