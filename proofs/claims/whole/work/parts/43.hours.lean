/-! ===== many hours; what is kept and laid back ===== -/
section HRS
variable {o : Nat} {σ : aS} {u : xM}
theorem k_goOn {n : Nat} {Q : xM → Prop} (h : LR o σ u) (ok : okS σ) (hn : σ 3 0 + n ≤ 20000) (hq : ∀ u', LR o (hrs n σ) u' → xsame (hrP o) u u' → Q u') : p_X1_goOn o (nI n) u Q := by
  unfold p_X1_goOn
  refine xloop (fun m i (s : xM) => p_X1_goOn_L2 o Q m (nI n) (nI i) s) (fun i s => LR o (hrs i σ) s ∧ xsame (hrP o) u s) n 0 u (Nat.zero_le _) ⟨h, xsame.rf⟩ ?_ ?_
  · intro m s hs
    unfold p_X1_goOn_L2
    exact ⟨fun _ => hq s hs.1 hs.2, fun c => absurd (by rw [cLE (by omega) (by omega)]; exact Nat.le_refl _) c⟩
  · intro m i s _ hi hs k
    unfold p_X1_goOn_L2
    refine ⟨fun c => absurd c (by rw [cLE (by omega) (by omega)]; omega), fun _ => ?_⟩
    refine k_goOneHour hs.1 (hrs_ok ok i (by omega)) (by rw [hrs_hour]; omega) (fun u' L P x => ?_)
    intro x3 hx
    rw [l_1, cA] at hx
    subst hx
    exact k u' ⟨L, hs.2.tr x⟩
theorem k_waterIn {n : Nat} {Q : Int32 → xM → Prop} (h : LR o σ u) (ok : okS σ) (hn : σ 3 0 + n ≤ 20000) (hq : ∀ u', LR o (hrs n σ) u' → xsame (hrP o) u u' → Q (nI (allW (hrs n σ))) u') : p_X1_waterIn o (nI n) u Q := by
  unfold p_X1_waterIn
  exact k_goOn h ok hn (fun u' L x => k_allWater L (hrs_ok ok n (by omega)) (hq u' L x))
/-- the mode: as the doors are, or just these -/
def MD (md : Option Nat) (u : xM) : Prop := match md with
  | none => gi u 272 23 = -1 ∧ gi u 272 24 = -1
  | some j => gi u 272 23 = nI j ∧ j < 1024
def omd (md : Option Nat) (σ : aS) : Nat := match md with
  | none => opn σ
  | some j => ndf j (σ 21 0)
theorem MD.mo {md : Option Nat} (h : MD md u) : MO σ (omd md σ) u := by
  cases md with
  | none => exact Or.inl ⟨h.1, h.2, rfl⟩
  | some j => exact Or.inr (Or.inl ⟨j, h.1, h.2, rfl⟩)
theorem MD.cg {md : Option Nat} {u' : xM} (h : MD md u) (h1 : gi u' 272 23 = gi u 272 23) (h2 : gi u' 272 24 = gi u 272 24) : MD md u' := by
  cases md with
  | none => exact ⟨h1.trans h.1, h2.trans h.2⟩
  | some j => exact ⟨h1.trans h.1, h.2⟩
def hrsB (md : Option Nat) : Nat → aS → aS
  | 0, σ => σ
  | n + 1, σ => stp (omd md (hrsB md n σ)) true (hrsB md n σ)
theorem hrsB_hour (md : Option Nat) (n : Nat) (σ : aS) : hrsB md n σ 3 0 = σ 3 0 + n := by
  induction n with
  | zero => rfl
  | succ n ih =>
    show hrsB md n σ 3 0 + 1 = _
    rw [ih]; omega
theorem hrsB_ok {md : Option Nat} (h : okS σ) (n : Nat) (hh : σ 3 0 + n ≤ 20000) : okS (hrsB md n σ) := by
  induction n with
  | zero => exact h
  | succ n ih => exact stp_ok (ih (by omega)) (by rw [hrsB_hour]; omega) _ _
/-- what hours leave as it is -/
abbrev kept (f : Nat) : Prop := f ≠ 3 ∧ f ≠ 8 ∧ f ≠ 9 ∧ f ≠ 22
theorem stp_kept (op : Nat) (pu : Bool) (σ : aS) {f : Nat} (hf : kept f) (i : Nat) : stp op pu σ f i = σ f i := by
  unfold stp
  rw [if_neg hf.1, if_neg hf.2.1, if_neg hf.2.2.1, if_neg hf.2.2.2]
theorem hrs_kept (n : Nat) (σ : aS) {f : Nat} (hf : kept f) (i : Nat) : hrs n σ f i = σ f i := by
  induction n with
  | zero => rfl
  | succ n ih => exact (stp_kept _ _ _ hf i).trans ih
theorem hrsB_kept (md : Option Nat) (n : Nat) (σ : aS) {f : Nat} (hf : kept f) (i : Nat) : hrsB md n σ f i = σ f i := by
  induction n with
  | zero => rfl
  | succ n ih => exact (stp_kept _ _ _ hf i).trans ih
theorem t4095 {i : Nat} (h : i < 12) : (4095 : Nat).testBit i = true := by
  have : ∀ i, i < 12 → (4095 : Nat).testBit i = true := by decide +kernel
  exact this i h
theorem hrs_B (h : σ 23 0 = 4095) (n : Nat) : hrs n σ = hrsB none n σ := by
  induction n with
  | zero => rfl
  | succ n ih =>
    show stp (opn (hrs n σ)) ((hrs n σ 23 0).testBit (hod (hrs n σ))) (hrs n σ) = stp (opn (hrsB none n σ)) true (hrsB none n σ)
    rw [hrs_kept n σ (by decide : kept 23), h, t4095 (hod_lt _), ih]
theorem drown_up (op : Nat) (pu : Bool) (σ : aS) (i : Nat) (h : (σ 22 0).testBit i = true) : (drw op pu σ).testBit i = true := by
  unfold drw
  rw [Nat.testBit_or, h, Bool.true_or]
theorem hrsB_up (md : Option Nat) (n : Nat) (i : Nat) (h : (σ 22 0).testBit i = true) : (hrsB md n σ 22 0).testBit i = true := by
  induction n with
  | zero => exact h
  | succ n ih => exact drown_up _ _ _ i ih
theorem ndf_or {a b c : Nat} (h1 : ∀ i, c.testBit i = true → b.testBit i = true) (h2 : ∀ i, b.testBit i = true → a.testBit i = true) : ndf b c ||| ndf a b = ndf a c := by
  apply Nat.eq_of_testBit_eq
  intro i
  rw [Nat.testBit_or, ndf_testBit, ndf_testBit, ndf_testBit]
  have a1 := h1 i
  have a2 := h2 i
  cases ha : a.testBit i <;> cases hb : b.testBit i <;> cases hc : c.testBit i <;> simp_all
theorem ndf_self (a : Nat) : ndf a a = 0 := by
  apply Nat.eq_of_testBit_eq
  intro i
  rw [ndf_testBit, Nat.zero_testBit]
  cases a.testBit i <;> rfl
theorem r_goes {md : Option Nat} {n : Nat} {Q : Int32 → xM → Prop} (h : RR 0 σ u) (ok : okS σ) (hn : σ 3 0 + n ≤ 20000) (hM : MD md u) (hst : gi u 272 25 = xb false)
    (hq : ∀ u', RR 0 (hrsB md n σ) u' → gsame u u' → (∀ d, d < σ 1 0 → gi u' 282 d = gi u 282 d + nI (sumN (fun k => pas (omd md (hrsB md k σ)) (hrsB md k σ) d) n)) → Q (nI (ndf (hrsB md n σ 22 0) (σ 22 0))) u') : p_X11_goes (nI n) u Q := by
  unfold p_X11_goes
  refine xloop (fun m i (s : Int32 × xM) => p_X11_goes_L4 Q m (nI n) s.1 (nI i) s.2) (fun i s => s.1 = nI (ndf (hrsB md i σ 22 0) (σ 22 0)) ∧ RR 0 (hrsB md i σ) s.2 ∧ gsame u s.2 ∧ ∀ d, d < σ 1 0 → gi s.2 282 d = gi u 282 d + nI (sumN (fun k => pas (omd md (hrsB md k σ)) (hrsB md k σ) d) i)) n 0 (0, u) (Nat.zero_le _) ⟨?_, h, gsame.rf, fun d _ => ?_⟩ ?_ ?_
  · show (0 : Int32) = nI (ndf (σ 22 0) (σ 22 0))
    rw [ndf_self]; rfl
  · show gi u 282 d = gi u 282 d + nI 0
    rw [nI_0, Int32.add_zero]
  · intro m s hs
    unfold p_X11_goes_L4
    refine ⟨fun _ => ?_, fun c => absurd (by rw [cLE (by omega) (by omega)]; exact Nat.le_refl _) c⟩
    rw [hs.1]
    exact hq s.2 hs.2.1 hs.2.2.1 hs.2.2.2
  · intro m i s _ hi hs k
    unfold p_X11_goes_L4
    refine ⟨fun c => absurd c (by rw [cLE (by omega) (by omega)]; omega), fun _ => ?_⟩
    have g := hs.2.2.1
    have hM2 : MD md s.2 := hM.cg (g.1.1 272 23 (by simp [gP])) (g.1.1 272 24 (by simp [gP]))
    have hst2 : gi s.2 272 25 = xb (!true) := (g.1.1 272 25 (by simp [gP])).trans hst
    refine r_goesBy hs.2.1 (hrsB_ok ok i (by omega)) (by rw [hrsB_hour]; omega) hM2.mo hst2 (fun u' R' g' m' => ?_)
    intro x4 h4 x5 h5
    rw [l_1, cA] at h5
    subst h5
    refine k (x4, u') ⟨?_, R', g.tr g', fun d hd => ?_⟩
    · show x4 = nI (ndf (drw _ true (hrsB md i σ)) (σ 22 0))
      rw [h4, hs.1, bOR, ndf_or (fun j hj => hrsB_up md i j hj) (fun j hj => drown_up _ _ _ j hj)]
    · have hd' : d < hrsB md i σ 1 0 := by rw [hrsB_kept md i σ (by decide : kept 1)]; exact hd
      show gi u' 282 d = gi u 282 d + nI (sumN _ i + _)
      rw [m' d hd', hs.2.2.2 d hd, ← cA, Int32.add_assoc]
theorem r_allWater {Q : Int32 → xM → Prop} (h : RR 0 σ u) (ok : okS σ) (hq : Q (nI (allW σ)) u) : p_X11_allWater u Q := by
  have h7 := ok.r
  unfold p_X11_allWater
  refine xloop (fun m i (s : Int32) => p_X11_allWater_L4 Q m s (nI i) u) (fun i s => s = nI (sumN (σ 8) i)) (σ 0 0) 0 0 (Nat.zero_le _) (by rfl) ?_ ?_
  · intro m s hs
    unfold p_X11_allWater_L4
    rw [(r_at l_0 (by decide)).2, h.r0, hs]
    refine ⟨(r_at l_0 (by decide)).1, fun _ => hq, fun c => absurd ?_ c⟩
    rw [cLE (by omega) (by omega)]
    exact Nat.le_refl _
  · intro m i s _ hi hs k
    unfold p_X11_allWater_L4
    rw [(r_at l_0 (by decide)).2, h.r0]
    refine ⟨(r_at l_0 (by decide)).1, fun c => absurd c (by rw [cLE (by omega) (by omega)]; omega), fun _ => ?_⟩
    refine r_roomV (w := 4) (f := 8) h ok hi rfl (by decide) (by decide) rfl (by simp [rk]; omega) rfl ?_
    intro x5 h5 x6 h6
    rw [l_1, cA] at h6
    subst h6
    refine k x5 ?_
    rw [h5, hs]
    show nI _ + nI (σ 8 i) = _
    rw [cA]; rfl
/-- kept: the first 160 are at t, too -/
theorem r_keeps {t : Nat} {a : Int32} {Q : xM → Prop} (ha : a = nI t) (ht : 160 ≤ t) (ht2 : t + 160 ≤ 3668) (hq : ∀ u', xsame (fun k => k ≠ 273) u u' → (∀ i, i < 160 → gi u' 273 (t + i) = gi u 273 i) → (∀ i, i < t ∨ t + 160 ≤ i → gi u' 273 i = gi u 273 i) → Q u') : p_X11_keeps a u Q := by
  subst ha
  unfold p_X11_keeps
  refine xloop (fun m i (s : xM) => p_X11_keeps_L2 Q m (nI t) (nI i) s) (fun i s => xsame (fun k => k ≠ 273) u s ∧ (∀ j, j < i → gi s 273 (t + j) = gi u 273 j) ∧ (∀ j, j < t ∨ t + i ≤ j → gi s 273 j = gi u 273 j)) 160 0 u (by decide) ⟨xsame.rf, fun j hj => by omega, fun j hj => rfl⟩ ?_ ?_
  · intro m s hs
    unfold p_X11_keeps_L2
    refine ⟨fun _ => hq s hs.1 hs.2.1 hs.2.2, fun c => absurd ?_ c⟩
    exact Int32.le_refl _
  · intro m i s _ hi hs k
    unfold p_X11_keeps_L2
    refine ⟨fun c => absurd c ?_, fun _ => ⟨cIN (by omega) (by decide), ?_⟩⟩
    · rw [l_160, cLE (by omega) (by omega)]; omega
    rw [cA]
    refine ⟨cIN (by omega) (by decide), ?_⟩
    intro u4 h4 x5 h5
    rw [cCL (by omega), cCL (by omega)] at h4
    rw [l_1, cA] at h5
    subst h5
    subst h4
    refine k _ ⟨hs.1.tr (xsame.si (by simp)), fun j hj => ?_, fun j hj => ?_⟩
    · rw [gi_si]
      by_cases e : j = i
      · subst e
        rw [if_pos ⟨rfl, rfl⟩]
        exact hs.2.2 j (by omega)
      · rw [if_neg (by omega)]
        exact hs.2.1 j (by omega)
    · rw [gi_si, if_neg (by omega)]
      exact hs.2.2 j (by omega)
theorem r_restores {t : Nat} {a : Int32} {Q : xM → Prop} (ha : a = nI t) (ht : 160 ≤ t) (ht2 : t + 160 ≤ 3668) (hq : ∀ u', xsame (fun k => k ≠ 273) u u' → (∀ i, i < 160 → gi u' 273 i = gi u 273 (t + i)) → (∀ i, 160 ≤ i → gi u' 273 i = gi u 273 i) → Q u') : p_X11_restores a u Q := by
  subst ha
  unfold p_X11_restores
  refine xloop (fun m i (s : xM) => p_X11_restores_L2 Q m (nI t) (nI i) s) (fun i s => xsame (fun k => k ≠ 273) u s ∧ (∀ j, j < i → gi s 273 j = gi u 273 (t + j)) ∧ (∀ j, i ≤ j → gi s 273 j = gi u 273 j)) 160 0 u (by decide) ⟨xsame.rf, fun j hj => by omega, fun j hj => rfl⟩ ?_ ?_
  · intro m s hs
    unfold p_X11_restores_L2
    refine ⟨fun _ => hq s hs.1 hs.2.1 hs.2.2, fun c => absurd ?_ c⟩
    exact Int32.le_refl _
  · intro m i s _ hi hs k
    unfold p_X11_restores_L2
    refine ⟨fun c => absurd c ?_, fun _ => ?_⟩
    · rw [l_160, cLE (by omega) (by omega)]; omega
    rw [cA]
    refine ⟨cIN (by omega) (by decide), cIN (by omega) (by decide), ?_⟩
    intro u4 h4 x5 h5
    rw [cCL (by omega), cCL (by omega)] at h4
    rw [l_1, cA] at h5
    subst h5
    subst h4
    refine k _ ⟨hs.1.tr (xsame.si (by simp)), fun j hj => ?_, fun j hj => ?_⟩
    · rw [gi_si]
      by_cases e : j = i
      · subst e
        rw [if_pos ⟨rfl, rfl⟩]
        exact hs.2.2 (t + j) (by omega)
      · rw [if_neg (by omega)]
        exact hs.2.1 j (by omega)
    · rw [gi_si, if_neg (by omega)]
      exact hs.2.2 j (by omega)
end HRS
