/-! ===== what the reference's helpers answer ===== -/
section REF
variable {σ : aS} {u : xM}
theorem r_at {a : Int32} {n : Nat} (ha : a = nI n) (hn : n < 3668) : vp_in a 3668 ∧ a.toNatClampNeg = n := by
  subst ha
  exact ⟨cIN hn (by decide), cCL (by omega)⟩
theorem r_roomV {r w f : Nat} {a2 v : Int32} {Q : Int32 → xM → Prop} (h : RR 0 σ u) (ok : okS σ) (hr : r < σ 0 0) (ha : a2 = nI w) (hw : w < 7) (hf : f < 23) (hl : rrN σ f = σ 0 0) (hrk : 6 + 7 * r + w = rk f r) (hv : rv σ f r = v) (hq : Q v u) : p_X11_roomOf (nI r) a2 u Q := by
  have h7 := ok.r
  subst ha
  unfold p_X11_roomOf p_X11_roomRow
  rw [l_6, l_7, cM, cA]
  dsimp only
  rw [cA]
  refine ⟨cIN (by omega) (by decide), ?_⟩
  rw [cCL (by omega), h.g hf (i := r) (by rw [hl]; exact hr) (by omega), hv]
  exact hq
theorem r_doorV {d w f : Nat} {a2 v : Int32} {Q : Int32 → xM → Prop} (h : RR 0 σ u) (ok : okS σ) (hd : d < σ 1 0) (ha : a2 = nI w) (hw : w < 8) (hf : f < 23) (hl : rrN σ f = σ 1 0) (hrk : 55 + 8 * d + w = rk f d) (hv : rv σ f d = v) (hq : Q v u) : p_X11_doorOf (nI d) a2 u Q := by
  have h7 := ok.d
  subst ha
  unfold p_X11_doorOf p_X11_doorRow
  rw [l_55, l_8, cM, cA]
  dsimp only
  rw [cA]
  refine ⟨cIN (by omega) (by decide), ?_⟩
  rw [cCL (by omega), h.g hf (i := d) (by rw [hl]; exact hd) (by omega), hv]
  exact hq
theorem r_depthOf {r : Nat} {Q : Int32 → xM → Prop} (h : RR 0 σ u) (ok : okS σ) (hr : r < σ 0 0) (hq : Q (nI (dep σ r)) u) : p_X11_depthOf (nI r) u Q := by
  have hm := ok.rm hr
  unfold p_X11_depthOf
  refine r_roomV (w := 4) (f := 8) h ok hr rfl (by decide) (by decide) rfl (by simp [rk]; omega) rfl ?_
  refine r_roomV (w := 1) (f := 5) h ok hr rfl (by decide) (by decide) rfl (by simp [rk]; omega) rfl ?_
  show ¬ nI (σ 5 r) = 0 ∧ Q (nI (σ 8 r) / nI (σ 5 r)) u
  rw [cD (by omega) (by omega) (by omega), cE0 (by omega)]
  exact ⟨by omega, hq⟩
theorem r_now {Q : Int32 → xM → Prop} (h : RR 0 σ u) (ok : okS σ) (hq : Q (nI (hod σ)) u) : p_X11_now u Q := by
  have hh := ok.h
  unfold p_X11_now
  simp (disch := omega) only [cCL, cN0, c0L, c0P, cE0, cLE, cLT, cEQ, l_1, l_2, l_3, l_4, l_5, l_6, l_7, l_8, l_9, l_10, l_11, l_12, l_13, l_14, l_15, l_16, l_18, l_20, l_24, l_26, l_30, l_31, l_48, l_59, l_60, l_61, l_62, l_97, l_99, l_100, l_120, l_122, l_128, l_200, l_255, l_272, l_300, l_999, l_900, l_1000, l_2096, l_3011, l_9999, l_10000, l_11213, l_65536, l_100000, l_1000000, l_4095, l_55, l_135, l_147, l_523, l_160, l_520, l_524, h.r3, cR, cIN, forall_eq, forall_eq_apply_imp_iff, true_and, and_true, and_self, not_false_eq_true, not_true_eq_false, false_implies, true_implies, implies_true, forall_const, ↓reduceIte, false_or, or_false, true_or, or_true]
  exact hq
theorem eR_m1 {e : Nat} (he : e ≤ 7) : (eR e = -1) = (e = 7) := by
  unfold eR
  by_cases c : e = 7
  · simp [c]
  · rw [if_neg c, m1_nI]
    apply propext
    constructor
    · intro z
      have := congrArg (fun x : Int32 => x.toInt) z
      rw [← m1_nI] at this
      simp only [nI_toInt (show e < 2 ^ 31 by omega)] at this
      have h1 : (-1 : Int32).toInt = -1 := by decide
      omega
    · intro z; exact absurd z c
theorem r_surfaceOf {e : Nat} {Q : Int32 → xM → Prop} (h : RR 0 σ u) (ok : okS σ) (he : e < σ 0 0 ∨ e = 7) (hq : Q (nI (sur σ e)) u) : p_X11_surfaceOf (eR e) u Q := by
  have h7 := ok.r
  have h1 := hod_lt σ
  unfold p_X11_surfaceOf
  rw [eR_m1 (by omega)]
  refine ⟨fun c => ?_, fun c => ?_⟩
  · have hr : e < σ 0 0 := by omega
    have : eR e = nI e := if_neg c
    rw [this]
    refine r_roomV (w := 0) (f := 4) h ok hr rfl (by decide) (by decide) rfl (by simp [rk]) rfl ?_
    refine r_depthOf h ok hr ?_
    show Q (nI (σ 4 e) + nI (dep σ e)) u
    rw [cA]
    have e2 : sur σ e = σ 4 e + dep σ e := by unfold sur; rw [if_pos (by omega)]
    rw [← e2]; exact hq
  · refine r_now h ok ?_
    rw [l_135, cA]
    refine ⟨cIN (by omega) (by decide), ?_⟩
    rw [cCL (by omega), h.r18 h1]
    have e2 : sur σ e = σ 18 (hod σ) := by unfold sur; rw [if_neg (by omega)]
    rw [← e2]; exact hq
theorem r_isIn {m d : Nat} {Q : Bool → xM → Prop} (hm : m < 2147483648) (hd : d < 32) (hq : Q (m.testBit d) u) : p_X11_isIn (nI m) (nI d) u Q := by
  unfold p_X11_isIn
  rw [bTST hm hd]
  cases hb : m.testBit d <;> simp [hb] at hq ⊢ <;> exact hq
/-- which doors are open, by the mode -/
def MO (σ : aS) (op : Nat) (u : xM) : Prop := (gi u 272 23 = -1 ∧ gi u 272 24 = -1 ∧ op = opn σ) ∨ (∃ j, gi u 272 23 = nI j ∧ j < 1024 ∧ op = ndf j (σ 21 0)) ∨ (∃ j, gi u 272 23 = -1 ∧ gi u 272 24 = nI j ∧ j < 1024 ∧ op = ndf (σ 20 0 ||| j) (σ 21 0))
theorem nI_ne_m1 {n : Nat} (h : n < 2147483648) : ¬ nI n = -1 := fun z => by
  have := congrArg (fun x : Int32 => x.toInt) z
  simp only [nI_toInt (show n < 2 ^ 31 by omega)] at this
  have h1 : (-1 : Int32).toInt = -1 := by decide
  omega
theorem bitN_1 (m i : Nat) : (nI (bitN m i) = 1) = (m.testBit i = true) := by
  rw [l_1, cEQ (by have := bitN_le m i; omega) (by omega)]
  unfold bitN
  cases m.testBit i <;> simp
theorem rotD_lt (σ : aS) (d : Nat) : rotD σ d < 4096 := mk_lt _ 12
theorem r_isOpen {d op : Nat} {Q : Bool → xM → Prop} (h : RR 0 σ u) (ok : okS σ) (hd : d < σ 1 0) (hM : MO σ op u) (hq : Q (op.testBit d) u) : p_X11_isOpen (nI d) u Q := by
  have h10 := ok.d
  have h1 := hod_lt σ
  unfold p_X11_isOpen
  refine r_doorV (w := 7) (f := 21) h ok hd rfl (by decide) (by decide) rfl (by simp [rk]; omega) rfl ?_
  show (_ → _) ∧ _
  have e21 : rv σ 21 d = nI (bitN (σ 21 0) d) := rfl
  rw [e21, bitN_1]
  refine ⟨fun c => ?_, fun c => ?_⟩
  · have c : (σ 21 0).testBit d = false := by simpa using c
    rcases hM with ⟨a, b, e⟩ | ⟨j, a, b, e⟩ | ⟨j, a, b, b2, e⟩
    · refine ⟨fun _ => ⟨fun _ => ?_, fun z => absurd b z⟩, fun z => absurd a z⟩
      refine r_doorV (w := 6) (f := 20) h ok hd rfl (by decide) (by decide) rfl (by simp [rk]; omega) rfl ?_
      have e20 : rv σ 20 d = nI (bitN (σ 20 0) d) := rfl
      show (_ → _) ∧ _
      rw [e20, bitN_1]
      have hop : op.testBit d = ((σ 20 0).testBit d || (σ 19 (hod σ)).testBit d) := by
        rw [e]; unfold opn; rw [ndf_testBit, Nat.testBit_or, c]; simp
      refine ⟨fun z => by rw [hop, z] at hq; exact hq, fun z => ?_⟩
      refine r_doorV (w := 5) (f := 19) h ok hd rfl (by decide) (by decide) rfl (by simp [rk]; omega) rfl ?_
      refine r_now h ok (r_isIn (m := rotD σ d) (by have := rotD_lt σ d; omega) (by omega) ?_)
      have hr : (rotD σ d).testBit (hod σ) = (σ 19 (hod σ)).testBit d := by
        unfold rotD; rw [mk_testBit]; simp [h1]
      have z : (σ 20 0).testBit d = false := by simpa using z
      rw [hr]
      rw [hop, z] at hq
      refine ⟨fun y => by rw [y] at hq; exact hq, fun y => by rw [y] at hq; exact hq⟩
    · refine ⟨fun z => absurd (a.symm.trans z) (nI_ne_m1 (by omega)), fun _ => ?_⟩
      rw [a]
      refine r_isIn (by omega) (by omega) ?_
      have hop : op.testBit d = j.testBit d := by rw [e, ndf_testBit, c]; simp
      rw [hop] at hq; exact hq
    · refine ⟨fun _ => ⟨fun z => absurd (b.symm.trans z) (nI_ne_m1 (by omega)), fun _ => ?_⟩, fun z => absurd a z⟩
      refine r_doorV (w := 6) (f := 20) h ok hd rfl (by decide) (by decide) rfl (by simp [rk]; omega) rfl ?_
      have e20 : rv σ 20 d = nI (bitN (σ 20 0) d) := rfl
      show (_ → _) ∧ _
      rw [e20, bitN_1]
      have hop : op.testBit d = ((σ 20 0).testBit d || j.testBit d) := by
        rw [e, ndf_testBit, Nat.testBit_or, c]; simp
      refine ⟨fun z => by rw [hop, z] at hq; exact hq, fun z => ?_⟩
      rw [b]
      have z : (σ 20 0).testBit d = false := by simpa using z
      refine r_isIn (by omega) (by omega) ?_
      rw [hop, z] at hq
      refine ⟨fun y => by rw [y] at hq; exact hq, fun y => by rw [y] at hq; exact hq⟩
  · have hop : op.testBit d = false := by
      rcases hM with ⟨a, b, e⟩ | ⟨j, a, b, e⟩ | ⟨j, a, b, b2, e⟩ <;> rw [e] <;> (try unfold opn) <;> rw [ndf_testBit, c] <;> simp
    rw [hop] at hq; exact hq
theorem nI_drv {a b s : Nat} (ha : a < 1073741824) (hb : b < 1073741824) (hs : s < 1073741824) {x9 x12 x13 x14 : Int32} (h9 : x9 = (if nI a < nI b then nI b else nI a)) (h12 : x12 = (if 0 ≤ (nI a - nI b) then (nI a - nI b) else 0 - (nI a - nI b))) (h13 : x13 = (if x12 < (x9 - nI s) then x12 else (x9 - nI s))) (h14 : x14 = (if (0 : Int32) < x13 then x13 else (0 : Int32))) : x14 = nI (min (max a b - s) (max a b - min a b)) := by
  rw [iteMax (by omega) (by omega)] at h9
  subst h9
  have h12 : x12 = nI (max a b - min a b) := by
    rw [h12]
    simp only [l_0, nI_iI, iI_sub]
    by_cases c : b ≤ a
    · rw [if_pos (by rw [iI_le (by omega) (by omega) (by omega) (by omega)]; omega)]; congr 1; omega
    · rw [if_neg (by rw [iI_le (by omega) (by omega) (by omega) (by omega)]; omega)]; congr 1; omega
  subst h12
  simp only [l_0, nI_iI, iI_sub] at h13 h14 ⊢
  rw [iteI (by omega) (by omega)] at h13
  by_cases c : ((max a b - min a b : Nat) : Int) < ((max a b : Nat) : Int) - (s : Int)
  · rw [if_pos c] at h13
    subst h13
    rw [iteI (by omega) (by omega)] at h14
    rw [h14]
    split <;> congr 1 <;> omega
  · rw [if_neg c] at h13
    subst h13
    rw [iteI (by omega) (by omega)] at h14
    rw [h14]
    split <;> congr 1 <;> omega
theorem r_driveOf {d : Nat} {Q : Int32 → xM → Prop} (h : RR 0 σ u) (ok : okS σ) (hd : d < σ 1 0) (hq : Q (nI (drv σ d)) u) : p_X11_driveOf (nI d) u Q := by
  have hm := ok.dr hd
  have hA : sA σ d ≤ 10098 := sur_le ok hm.1
  have hB : sB σ d ≤ 10098 := sur_le ok hm.2.1
  unfold p_X11_driveOf
  refine r_doorV (w := 0) (f := 10) h ok hd rfl (by decide) (by decide) rfl (by simp [rk]) rfl (r_surfaceOf h ok hm.1 ?_)
  refine r_doorV (w := 1) (f := 11) h ok hd rfl (by decide) (by decide) rfl (by simp [rk]; omega) rfl (r_surfaceOf h ok hm.2.1 ?_)
  intro x9 h9
  refine r_doorV (w := 2) (f := 12) h ok hd rfl (by decide) (by decide) rfl (by simp [rk]; omega) rfl ?_
  intro x12 h12 x13 h13 x14 h14
  have := nI_drv (a := sA σ d) (b := sB σ d) (s := σ 12 d) (by omega) (by omega) (by omega) h9 h12 h13 h14
  rw [this]; exact hq
theorem r_fb_L43 {d : Nat} {m : Nat} {Q : Int32 → xM → Prop} (h : RR 0 σ u) (ok : okS σ) (hd : d < σ 1 0) (hq : Q (iI (sgn σ d m)) u) : p_X11_flowBy_L43 Q (nI d) (nI m) u := by
  have hm := ok.dr hd
  have hA : sA σ d ≤ 10098 := sur_le ok hm.1
  have hB : sB σ d ≤ 10098 := sur_le ok hm.2.1
  unfold p_X11_flowBy_L43
  refine r_doorV (w := 0) (f := 10) h ok hd rfl (by decide) (by decide) rfl (by simp [rk]) rfl (r_surfaceOf h ok hm.1 ?_)
  refine r_doorV (w := 1) (f := 11) h ok hd rfl (by decide) (by decide) rfl (by simp [rk]; omega) rfl (r_surfaceOf h ok hm.2.1 ?_)
  have e := sgn_I σ d m
  show (nI (sA σ d) < nI (sB σ d) → _) ∧ (¬ nI (sA σ d) < nI (sB σ d) → _)
  rw [cLT (by omega) (by omega)]
  refine ⟨fun c => ?_, fun c => ?_⟩
  · rw [if_neg (by omega)] at e; rw [e]; exact hq
  · rw [if_pos (by omega)] at e; rw [e]; exact hq
theorem r_flowBy {d : Nat} {op : Bool} {Q : Int32 → xM → Prop} (h : RR 0 σ u) (ok : okS σ) (hd : d < σ 1 0) (hq : Q (iI (sgn σ d (if op then fop σ d else fsh σ d))) u) : p_X11_flowBy (nI d) op u Q := by
  have hm := ok.dr hd
  have hf := fop_le ok hd
  unfold p_X11_flowBy
  refine r_driveOf h ok hd (r_doorV (w := 3) (f := 13) h ok hd rfl (by decide) (by decide) rfl (by simp [rk]; omega) rfl ?_)
  intro x hx
  have hx : x = nI (fop σ d) := by
    rw [hx]
    show nI (drv σ d) * nI (σ 13 d) = _
    rw [cM]; rfl
  subst hx
  refine ⟨fun c => r_fb_L43 h ok hd (by subst c; exact hq), fun c => ?_⟩
  subst c
  have hq : Q (iI (sgn σ d (fsh σ d))) u := hq
  refine r_doorV (w := 7) (f := 21) h ok hd rfl (by decide) (by decide) rfl (by simp [rk]; omega) rfl ?_
  have e21 : rv σ 21 d = nI (bitN (σ 21 0) d) := rfl
  show (_ → _) ∧ _
  rw [e21, bitN_1]
  refine ⟨fun c => ?_, fun c => ?_⟩
  · refine r_doorV (w := 4) (f := 14) h ok hd rfl (by decide) (by decide) rfl (by simp [rk]; omega) rfl ?_
    intro y hy
    have hy : y = nI (min (fop σ d) (σ 14 d)) := by
      rw [hy]
      exact (iteMin (a := fop σ d) (b := σ 14 d) (by omega) (by omega))
    subst hy
    unfold p_X11_flowBy_L42
    refine r_fb_L43 h ok hd ?_
    have : fsh σ d = min (fop σ d) (σ 14 d) := by unfold fsh; rw [if_neg c]
    rw [← this]; exact hq
  · unfold p_X11_flowBy_L42
    refine r_fb_L43 (m := 0) h ok hd ?_
    have : fsh σ d = 0 := by unfold fsh; rw [if_pos c]
    rw [← this]; exact hq
theorem r_flowOf {d op : Nat} {Q : Int32 → xM → Prop} (h : RR 0 σ u) (ok : okS σ) (hd : d < σ 1 0) (hM : MO σ op u) (hq : Q (iI (sfl op σ d)) u) : p_X11_flowOf (nI d) u Q := by
  unfold p_X11_flowOf
  refine r_isOpen h ok hd hM (r_flowBy h ok hd ?_)
  unfold sfl flo at hq
  exact hq
end REF
