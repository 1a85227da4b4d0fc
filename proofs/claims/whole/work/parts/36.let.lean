/-! ===== water through the doors; an hour ===== -/
section LET
variable {o : Nat} {σ : aS} {u : xM}
theorem k_isRoomEnd {e : Nat} {Q : Bool → xM → Prop} (he : e < 2147483648) (hq : Q (decide (e < 7)) u) : p_X1_isRoomEnd (nI e) u Q := by
  unfold p_X1_isRoomEnd
  simp (disch := omega) only [cCL, cN0, c0L, c0P, cE0, cLE, cLT, cEQ, l_1, l_2, l_3, l_4, l_5, l_6, l_7, l_8, l_9, l_10, l_11, l_12, l_13, l_14, l_15, l_16, l_18, l_20, l_24, l_26, l_30, l_31, l_48, l_59, l_60, l_61, l_62, l_97, l_99, l_100, l_120, l_122, l_128, l_200, l_255, l_272, l_300, l_999, l_900, l_1000, l_2096, l_3011, l_9999, l_10000, l_11213, l_65536, l_100000, l_1000000, l_4095, l_55, l_135, l_147, l_523, l_160, l_520, l_524, forall_eq, forall_eq_apply_imp_iff, true_and, and_true, and_self, not_false_eq_true, not_true_eq_false, false_implies, true_implies, implies_true, forall_const, ↓reduceIte, false_or, or_false, true_or, or_true]
  refine ⟨fun c => ?_, fun c => ?_⟩
  · rw [show decide (e < 7) = false from decide_eq_false (by omega)] at hq; exact hq
  · rw [show decide (e < 7) = true from decide_eq_true (by omega)] at hq; exact hq
theorem k_let_L145 {Q : xM → Prop} {K : Int32 → xM → Prop} {d : Nat} {x : Int32} (hd : d < 10) (hk : K (nI (d + 1)) (si u (o + 26) d x)) : p_X1_letThrough_L145 o Q K (nI d) x u := by
  unfold p_X1_letThrough_L145
  simp (disch := omega) only [cCL, cN0, c0L, c0P, cE0, cLE, cLT, cEQ, l_1, l_2, l_3, l_4, l_5, l_6, l_7, l_8, l_9, l_10, l_11, l_12, l_13, l_14, l_15, l_16, l_18, l_20, l_24, l_26, l_30, l_31, l_48, l_59, l_60, l_61, l_62, l_97, l_99, l_100, l_120, l_122, l_128, l_200, l_255, l_272, l_300, l_999, l_900, l_1000, l_2096, l_3011, l_9999, l_10000, l_11213, l_65536, l_100000, l_1000000, l_4095, l_55, l_135, l_147, l_523, l_160, l_520, l_524, cIN, forall_eq, forall_eq_apply_imp_iff, true_and, and_true, and_self, not_false_eq_true, not_true_eq_false, false_implies, true_implies, implies_true, forall_const, ↓reduceIte, false_or, or_false, true_or, or_true, cA, cM]
  exact hk
theorem k_let_L120 {Q : xM → Prop} {K : Int32 → xM → Prop} {d t m : Nat} {w : Nat → Nat} (h : LR o (sF σ 8 w) u) (h7 : σ 0 0 ≤ 7) (hd : d < 10) (ht : t < σ 0 0 ∨ t = 7) (hw : t < σ 0 0 → w t ≤ 9999) (hm : m ≤ 100000)
    (hk : ∀ u', LR o (sF σ 8 (fun r => if r = t then min 9999 (w r + m) else w r)) u' → xsame (fun k => k ≠ o + 7) u u' → K (nI (d + 1)) (si u' (o + 26) d (nI m))) : p_X1_letThrough_L120 o Q K (nI d) (nI t) (nI m) u := by
  unfold p_X1_letThrough_L120
  refine k_isRoomEnd (by omega) ⟨fun c => ?_, fun c => ?_⟩
  · have c := of_decide_eq_false c
    refine k_let_L145 hd (hk u (h.wc (fun r hr => ?_)) xsame.rf)
    rw [if_neg (by omega)]
  · have c := of_decide_eq_true c
    have hr : t < σ 0 0 := by omega
    have hw := hw hr
    have e7 : gi u (o + 7) t = nI (w t) := by
      rw [h.f8 (i := t) hr]; simp [sF_at]
    refine ⟨cIN (by omega) (by decide), ?_⟩
    intro x hx
    rw [cCL (by omega), e7, cA] at hx
    have hx : x = nI (min 9999 (w t + m)) := by
      rw [hx]
      exact (iteMin (a := 9999) (b := w t + m) (by omega) (by omega)).trans (by congr 1)
    subst hx
    refine ⟨cIN (by omega) (by decide), ?_⟩
    intro u1 hu1
    rw [cCL (by omega)] at hu1
    subst hu1
    refine k_let_L145 hd (hk _ ((h.w (v := min 9999 (w t + m)) hr rfl rfl).wc (fun r _ => ?_)) (xsame.si (by simp)))
    by_cases e : r = t
    · subst e; simp
    · simp [e]
theorem iI_abs {z : Int} (h1 : -1000000 ≤ z) (h2 : z ≤ 1000000) : (if 0 ≤ iI z then iI z else 0 - iI z) = nI z.natAbs := by
  by_cases c : 0 ≤ z
  · rw [if_pos (by rw [show (0 : Int32) = iI 0 from rfl, iI_le (by omega) (by omega) (by omega) (by omega)]; exact c), nI_iI]
    congr 1; omega
  · rw [if_neg (by rw [show (0 : Int32) = iI 0 from rfl, iI_le (by omega) (by omega) (by omega) (by omega)]; exact c), show (0 : Int32) = iI 0 from rfl, iI_sub, nI_iI]
    congr 1; omega
theorem iI_n0 {z : Int} (h1 : -1000000 ≤ z) (h2 : z ≤ 1000000) : (iI z < 0) = (z < 0) := by
  rw [show (0 : Int32) = iI 0 from rfl, iI_lt (by omega) (by omega) (by omega) (by omega)]
theorem k_let_L82 {Q : xM → Prop} {K : Int32 → xM → Prop} {d f t : Nat} {z : Int} {w : Nat → Nat} (h : LR o (sF σ 8 w) u) (h7 : σ 0 0 ≤ 7) (hd : d < 10) (hz : gi u (o + 25) d = iI z) (h1 : -100000 ≤ z) (h2 : z ≤ 100000) (hf : f < σ 0 0 ∨ f = 7) (ht : t < σ 0 0 ∨ t = 7) (hw : ∀ r, r < σ 0 0 → w r ≤ 9999)
    (hk : ∀ u' m, m = (if f < 7 then min z.natAbs (w f) else z.natAbs) → LR o (sF σ 8 (fun r => if r = t then min 9999 ((if r = f then w r - m else w r) + m) else (if r = f then w r - m else w r))) u' → xsame (fun k => k ≠ o + 7) u u' → K (nI (d + 1)) (si u' (o + 26) d (nI m))) : p_X1_letThrough_L82 o Q K (nI d) (nI f) (nI t) u := by
  unfold p_X1_letThrough_L82
  rw [cCL (by omega), hz]
  refine ⟨cIN (by omega) (by decide), ?_⟩
  intro x hx
  rw [iI_abs (by omega) (by omega)] at hx
  subst hx
  refine k_isRoomEnd (by omega) ⟨fun c => ?_, fun c => ?_⟩
  · have c := of_decide_eq_false c
    have hf7 : f = 7 := by omega
    have h' : LR o (sF σ 8 (fun r => if r = f then w r - z.natAbs else w r)) u := h.wc (fun r hr => by rw [if_neg (by omega)])
    refine k_let_L120 h' h7 hd ht (fun hr => ?_) (by omega) (fun u' g1 g2 => hk u' _ (by rw [if_neg (by omega)]) g1 g2)
    have := hw t hr
    split <;> omega
  · have c := of_decide_eq_true c
    have hr : f < σ 0 0 := by omega
    have hwf := hw f hr
    have e7 : gi u (o + 7) f = nI (w f) := by
      rw [h.f8 (i := f) hr]; simp [sF_at]
    refine ⟨cIN (by omega) (by decide), ?_⟩
    intro x hx
    rw [cCL (by omega), e7, iteMin (by omega) (by omega)] at hx
    subst hx
    refine ⟨cIN (by omega) (by decide), cIN (by omega) (by decide), ?_⟩
    intro u1 hu1
    rw [cCL (by omega), e7, cS (by omega)] at hu1
    subst hu1
    have h' : LR o (sF σ 8 (fun r => if r = f then w r - min z.natAbs (w f) else w r)) (si u (o + 7) f (nI (w f - min z.natAbs (w f)))) := (h.w (v := w f - min z.natAbs (w f)) hr rfl rfl).wc (fun r _ => by
      by_cases e : r = f
      · subst e; simp
      · simp [e])
    refine k_let_L120 h' h7 hd ht (fun hr => ?_) (by omega) (fun u' g1 g2 => hk u' _ (by rw [if_pos c]) g1 ((xsame.si (by simp)).tr g2))
    have := hw t hr
    split <;> omega
theorem k_letThrough {Q : xM → Prop} (h : LR o σ u) (ok : okS σ) (hF : FFF o σ (σ 1 0) u) (hq : ∀ u', LR o (sF σ 8 (aW (sfl (opn σ) σ) (σ 10) (σ 11) (σ 8) (σ 1 0))) u' → (∀ d, d < σ 1 0 → gi u' (o + 26) d = nI (pas (opn σ) σ d)) → xsame (fun k => k ≠ o + 7 ∧ k ≠ o + 26) u u' → Q u') : p_X1_letThrough o u Q := by
  have h10 := ok.d
  have h7 := ok.r
  unfold p_X1_letThrough
  refine xloop (fun n i (s : xM) => p_X1_letThrough_L10 o Q n (nI i) s) (fun i s => LR o (sF σ 8 (aW (sfl (opn σ) σ) (σ 10) (σ 11) (σ 8) i)) s ∧ (∀ d, d < i → gi s (o + 26) d = nI (pas (opn σ) σ d)) ∧ xsame (fun k => k ≠ o + 7 ∧ k ≠ o + 26) u s) (σ 1 0) 0 u (Nat.zero_le _) ⟨h.w0, fun d hd => by omega, xsame.rf⟩ ?_ ?_
  · intro n s hs
    unfold p_X1_letThrough_L10
    refine ⟨fun _ => hq s hs.1 hs.2.1 hs.2.2, fun c => absurd ?_ c⟩
    rw [hs.1.f1, show sF σ 8 (aW (sfl (opn σ) σ) (σ 10) (σ 11) (σ 8) (σ 1 0)) 1 0 = σ 1 0 from rfl, cLE (by omega) (by omega)]
    exact Nat.le_refl _
  · intro n i s _ hi hs k
    have hm := ok.dr hi
    have hfl := flo_le ok hi (opn σ)
    have hz1 : -100000 ≤ sfl (opn σ) σ i ∧ sfl (opn σ) σ i ≤ 100000 := by
      unfold sfl sgn
      split <;> omega
    have hw : ∀ r, r < σ 0 0 → aW (sfl (opn σ) σ) (σ 10) (σ 11) (σ 8) i r ≤ 9999 := fun r hr => aW_le (ok.rm hr).2.2.2.2.2.2.1 i
    have hz : gi s (o + 25) i = iI (sfl (opn σ) σ i) := by
      rw [hs.2.2.1 _ _ ⟨by omega, by omega⟩]
      exact (hF i hi).2.2
    have e11 : gi s (o + 11) i = nI (σ 10 i) := hs.1.f10 (i := i) hi
    have e12 : gi s (o + 12) i = nI (σ 11 i) := hs.1.f11 (i := i) hi
    have go : ∀ f t, f = pFr (sfl (opn σ) σ) (σ 10) (σ 11) i → t = pTo (sfl (opn σ) σ) (σ 10) (σ 11) i → (f < σ 0 0 ∨ f = 7) → (t < σ 0 0 ∨ t = 7) → p_X1_letThrough_L82 o Q (p_X1_letThrough_L10 o Q n) (nI i) (nI f) (nI t) s := by
      intro f t hf ht hf2 ht2
      refine k_let_L82 hs.1 h7 (by omega) hz hz1.1 hz1.2 hf2 ht2 hw (fun u' m hm2 g1 g2 => k _ ?_)
      have hma : m = pAm (sfl (opn σ) σ) (σ 10) (σ 11) i (aW (sfl (opn σ) σ) (σ 10) (σ 11) (σ 8) i) := by
        rw [hm2]; unfold pAm; rw [← hf]
      refine ⟨?_, fun d hd => ?_, hs.2.2.tr ((g2.mono (fun k hk => hk.1)).tr (xsame.si (by simp)))⟩
      · refine (LR.scr' (n := 26) g1 (by omega) rfl).wc (fun r _ => ?_)
        show pW (sfl (opn σ) σ) (σ 10) (σ 11) i (aW (sfl (opn σ) σ) (σ 10) (σ 11) (σ 8) i) r = _
        unfold pW pW1
        rw [← hf, ← ht, ← hma]
      · rw [gi_si]
        by_cases e : d = i
        · subst e
          rw [if_pos ⟨rfl, rfl⟩, hma]
          rfl
        · rw [if_neg (by omega), g2.1 _ _ (by show o + 26 ≠ o + 7; omega)]
          exact hs.2.1 d (by omega)
    unfold p_X1_letThrough_L10
    refine ⟨fun c => absurd c ?_, fun _ => ⟨cIN (by omega) (by decide), ?_⟩⟩
    · rw [hs.1.f1, show sF σ 8 (aW (sfl (opn σ) σ) (σ 10) (σ 11) (σ 8) i) 1 0 = σ 1 0 from rfl, cLE (by omega) (by omega)]
      omega
    unfold p_X1_letThrough_L51
    rw [cCL (by omega), hz, iI_n0 (by omega) (by omega), e11, e12]
    refine ⟨fun c => ⟨cIN (by omega) (by decide), cIN (by omega) (by decide), fun _ => ⟨cIN (by omega) (by decide), ?_⟩, fun c2 => absurd c c2⟩, fun c => ⟨cIN (by omega) (by decide), cIN (by omega) (by decide), fun c2 => absurd c2 c, fun _ => ⟨cIN (by omega) (by decide), ?_⟩⟩⟩
    · exact go _ _ (by unfold pFr; rw [if_neg (by omega)]) (by unfold pTo; rw [if_neg (by omega)]) hm.2.1 hm.1
    · exact go _ _ (by unfold pFr; rw [if_pos (by omega)]) (by unfold pTo; rw [if_pos (by omega)]) hm.1 hm.2.1
def oLand (o k : Nat) : Prop := k < o ∨ o + 27 ≤ k
/-- what an hour leaves as it is -/
def hrP (o k : Nat) : Prop := k ≠ o ∧ k ≠ o + 1 ∧ k ≠ o + 7 ∧ k ≠ o + 8 ∧ ¬ (o + 22 ≤ k ∧ k < o + 27)
/-- an hour -/
theorem k_goOneHour {Q : xM → Prop} (h : LR o σ u) (ok : okS σ) (hh : σ 3 0 < 20000) (hq : ∀ u', LR o (hr1 σ) u' → (∀ d, d < σ 1 0 → gi u' (o + 26) d = nI (pas (opn σ) σ d)) → xsame (hrP o) u u' → Q u') : p_X1_goOneHour o u Q := by
  have h10 := ok.d
  have h7 := ok.r
  have hp := hod_lt σ
  have hph := ok.ph
  unfold p_X1_goOneHour
  refine k_findSurfaces h ok (fun u1 L1 S1 x1 => k_findFlows L1 ok S1 (fun u2 L2 F2 x2 => k_letThrough L2 ok F2 (fun u3 L3 P3 x3 => ?_)))
  have w3 : ∀ r, r < σ 0 0 → aW (sfl (opn σ) σ) (σ 10) (σ 11) (σ 8) (σ 1 0) r ≤ 9999 := fun r hr => aW_le (ok.rm hr).2.2.2.2.2.2.1 _
  have okw : ∀ w : Nat → Nat, (∀ r, r < σ 0 0 → w r ≤ 9999) → okS (sF σ 8 w) := by
    intro w hw
    refine ⟨ok.r, ok.d, ok.e, ok.h, fun r hr => ?_, fun d hd => ok.dr hd, fun e he => ok.er he, fun k hk => ok.hr hk, ok.held, ok.walled, ok.drowned, ok.ph⟩
    have hr : r < σ 0 0 := hr
    have a := ok.rm hr
    exact ⟨a.1, a.2.1, a.2.2.1, a.2.2.2.1, a.2.2.2.2.1, a.2.2.2.2.2.1, hw r hr, a.2.2.2.2.2.2.2⟩
  have ok3 := okw _ w3
  have xs : xsame (fun k => k ≠ o + 22 ∧ k ≠ o + 23 ∧ k ≠ o + 24 ∧ k ≠ o + 25 ∧ k ≠ o + 7 ∧ k ≠ o + 26) u u3 := (x1.mono (fun k hk => hk.1)).tr ((x2.mono (fun k hk => ⟨hk.2.1, hk.2.2.1, hk.2.2.2.1⟩)).tr (x3.mono (fun k hk => hk.2.2.2.2)))
  have e23 : gi u3 o 9 = nI (σ 23 0) := L3.f23
  have ehod : hod (sF σ 8 (aW (sfl (opn σ) σ) (σ 10) (σ 11) (σ 8) (σ 1 0))) = hod σ := rfl
  have last : ∀ u4, ∀ pu : Bool, (pu = (σ 23 0).testBit (hod σ)) → LR o (sF σ 8 (fun r => wat (opn σ) pu σ r)) u4 → xsame (fun k => k ≠ o + 7) u3 u4 → p_X1_goOneHour_L34 o Q u4 := by
    intro u4 pu hpu L4 x4
    have ok4 : okS (sF σ 8 (fun r => wat (opn σ) pu σ r)) := okw _ (fun r hr => wat_le ok hr _ _)
    unfold p_X1_goOneHour_L34
    refine k_lookAtDepths L4 ok4 (fun u5 L5 x5 => ?_)
    intro u6 hu6
    have e3 : gi u5 o 8 = nI (σ 3 0) := L5.f3
    rw [e3, l_1, cA] at hu6
    have L6 := L5.up (f := 3) (i := 0) (v := σ 3 0 + 1) (x := nI (σ 3 0 + 1)) (j := o) (k := 8) (by decide) (by decide) (by decide) (by decide) (by simp [rlN]) rfl rfl rfl
    rw [← hu6] at L6
    refine hq u6 (L6.eq rfl rfl rfl (fun f hf i hi => ?_)) (fun d hd => ?_) ⟨fun k i hk => ?_, fun k i hk => ?_⟩
    · have hdp : dep (sF σ 8 (fun r => wat (opn σ) pu σ r)) = dpt (opn σ) pu σ := rfl
      rw [sU_at]
      unfold hr1 stp lk
      rw [← hpu, hdp]
      have hnr : sF σ 8 (fun r => wat (opn σ) pu σ r) 0 0 = σ 0 0 := rfl
      by_cases a3 : f = 3
      · subst a3
        have : i = 0 := by
          have : i < 1 := by simpa [rlN] using hi
          omega
        subst this
        simp
      · by_cases a8 : f = 8
        · subst a8
          have hi : i < σ 0 0 := by simpa [rlN, sU_at, lk, sF_at] using hi
          simp [sF_at, hi]
        · by_cases a9 : f = 9
          · subst a9; simp [sF_at]
          · by_cases a22 : f = 22
            · subst a22
              simp [sF_at, drw]
            · simp [a3, a8, a9, a22, sF_at]
    · rw [hu6, gi_si, if_neg (by omega), x5.1 _ _ ⟨by omega, by omega⟩, x4.1 _ _ (by show o + 26 ≠ o + 7; omega)]
      exact P3 d hd
    · unfold hrP at hk
      rw [hu6, gi_si, if_neg (by omega), x5.1 _ _ ⟨by omega, by omega⟩, x4.1 _ _ (by show k ≠ o + 7; omega), xs.1 _ _ ⟨by omega, by omega, by omega, by omega, by omega, by omega⟩]
    · unfold hrP at hk
      rw [hu6, gl_si, x5.2 _ _ ⟨by omega, by omega⟩, x4.2 _ _ (by show k ≠ o + 7; omega), xs.2 _ _ ⟨by omega, by omega, by omega, by omega, by omega, by omega⟩]
  refine k_hourOfDay L3 ok3 ⟨fun c => ?_, fun c => ?_⟩
  · rw [e23, ehod, bTST (by omega) (by omega)] at c
    refine last u3 false (by simpa using c) (L3.wc (fun r _ => by simp [wat])) xsame.rf
  · rw [e23, ehod, bTST (by omega) (by omega)] at c
    refine k_pumpOut L3 ok3 (fun u4 L4 x4 => last u4 true c.symm ?_ x4)
    exact L4.eq rfl rfl rfl (fun f hf i hi => by
      rw [sF_at, sF_at, sF_at]
      by_cases e : f = 8
      · subst e; simp [wat, sF_at]
      · simp [e, sF_at])
end LET
