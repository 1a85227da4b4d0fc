/-! ===== just some doors open: damage ===== -/
def jF (τ : aS) (a b : Nat → Nat) : aS := sF (sF τ 19 a) 20 b
def jd (σ : aS) (j : Nat) : aS := jF σ (fun _ => 0) (fun _ => j)
theorem jF_at (τ : aS) (a b : Nat → Nat) (f i : Nat) : jF τ a b f i = if f = 20 then b i else if f = 19 then a i else τ f i := by
  unfold jF
  rw [sF_at, sF_at]
theorem jF_r {τ : aS} {a b : Nat → Nat} {f : Nat} (h19 : f ≠ 19) (h20 : f ≠ 20) : jF τ a b f = τ f := by
  funext i
  rw [jF_at, if_neg h20, if_neg h19]
theorem sur_jF (τ : aS) (a b : Nat → Nat) : sur (jF τ a b) = sur τ := by
  funext e
  unfold sur dep hod
  rw [jF_r (f := 4) (by decide) (by decide), jF_r (f := 8) (by decide) (by decide), jF_r (f := 5) (by decide) (by decide), jF_r (f := 18) (by decide) (by decide), jF_r (f := 3) (by decide) (by decide)]
theorem flo_jF (op : Nat) (τ : aS) (a b : Nat → Nat) : flo op (jF τ a b) = flo op τ := by
  funext d
  unfold flo fop fsh fop drv sA sB
  rw [sur_jF, jF_r (f := 10) (by decide) (by decide), jF_r (f := 11) (by decide) (by decide), jF_r (f := 12) (by decide) (by decide), jF_r (f := 13) (by decide) (by decide), jF_r (f := 14) (by decide) (by decide), jF_r (f := 21) (by decide) (by decide)]
theorem sfl_jF (op : Nat) (τ : aS) (a b : Nat → Nat) : sfl op (jF τ a b) = sfl op τ := by
  funext d
  unfold sfl sgn sA sB
  rw [flo_jF, sur_jF, jF_r (f := 10) (by decide) (by decide), jF_r (f := 11) (by decide) (by decide)]
theorem wat_jF (op : Nat) (pu : Bool) (τ : aS) (a b : Nat → Nat) : wat op pu (jF τ a b) = wat op pu τ := by
  funext r
  unfold wat
  rw [sfl_jF, jF_r (f := 10) (by decide) (by decide), jF_r (f := 11) (by decide) (by decide), jF_r (f := 8) (by decide) (by decide), jF_r (f := 1) (by decide) (by decide), jF_r (f := 7) (by decide) (by decide)]
theorem dpt_jF (op : Nat) (pu : Bool) (τ : aS) (a b : Nat → Nat) : dpt op pu (jF τ a b) = dpt op pu τ := by
  funext r
  unfold dpt
  rw [wat_jF, jF_r (f := 5) (by decide) (by decide)]
theorem drw_jF (op : Nat) (pu : Bool) (τ : aS) (a b : Nat → Nat) : drw op pu (jF τ a b) = drw op pu τ := by
  unfold drw
  rw [dpt_jF, jF_r (f := 22) (by decide) (by decide), jF_r (f := 6) (by decide) (by decide), jF_r (f := 0) (by decide) (by decide)]
theorem stp_jF (op : Nat) (pu : Bool) (τ : aS) (a b : Nat → Nat) : stp op pu (jF τ a b) = jF (stp op pu τ) a b := by
  funext f i
  rw [jF_at]
  unfold stp
  rw [wat_jF, dpt_jF, drw_jF, jF_r (f := 3) (by decide) (by decide), jF_r (f := 0) (by decide) (by decide), jF_r (f := 8) (by decide) (by decide), jF_r (f := 9) (by decide) (by decide), jF_r (f := 22) (by decide) (by decide), jF_at]
  by_cases e20 : f = 20
  · subst e20; simp
  · by_cases e19 : f = 19
    · subst e19; simp
    · simp only [if_neg e20, if_neg e19]
section DAMAGE
variable {σ τ ρ : aS} {u u' u0 : xM} {o o1 : Nat}
theorem allW_jF (τ : aS) (a b : Nat → Nat) : allW (jF τ a b) = allW τ := by
  unfold allW
  rw [jF_r (f := 8) (by decide) (by decide), jF_r (f := 0) (by decide) (by decide)]
theorem opn_jF (τ : aS) (a b : Nat → Nat) : opn (jF τ a b) = ndf (b 0 ||| a (hod τ)) (τ 21 0) := by
  unfold opn hod
  rw [jF_r (f := 3) (by decide) (by decide), jF_r (f := 21) (by decide) (by decide), jF_at, jF_at, if_pos rfl, if_neg (by decide), if_pos rfl]
theorem hrs_s (n : Nat) (τ : aS) : hrs (n + 1) τ = stp (opn (hrs n τ)) ((hrs n τ 23 0).testBit (hod (hrs n τ))) (hrs n τ) := rfl
theorem hrsB_s (md : Option Nat) (n : Nat) (τ : aS) : hrsB md (n + 1) τ = stp (omd md (hrsB md n τ)) true (hrsB md n τ) := rfl
theorem hrs_jd (h : σ 23 0 = 4095) (j n : Nat) : hrs n (jd σ j) = jd (hrsB (some j) n σ) j := by
  induction n with
  | zero => rfl
  | succ n ih =>
    have hk := hrsB_kept (some j) n σ (by decide : kept 23) 0
    rw [hrs_s, hrsB_s, ih]
    generalize hrsB (some j) n σ = ρ at hk
    have e1 : opn (jd ρ j) = omd (some j) ρ := by
      unfold jd
      rw [opn_jF]
      show ndf (j ||| 0) (ρ 21 0) = ndf j (ρ 21 0)
      rw [Nat.or_zero]
    have e2 : (jd ρ j 23 0).testBit (hod (jd ρ j)) = true := by
      unfold jd
      rw [jF_r (by decide) (by decide), hk, h, t4095 (hod_lt _)]
    rw [e1, e2]
    unfold jd
    rw [stp_jF]
theorem okS_jd (ok : okS σ) {j : Nat} (hj : j < 2 ^ σ 1 0) : okS (jd σ j) := by
  have e : ∀ f, f ≠ 19 → f ≠ 20 → jd σ j f = σ f := fun f a b => jF_r a b
  have e19 : jd σ j 19 = fun _ => 0 := by
    funext i
    unfold jd
    rw [jF_at, if_neg (by decide), if_pos rfl]
  have e20 : jd σ j 20 = fun _ => j := by
    funext i
    unfold jd
    rw [jF_at, if_pos rfl]
  have a8 := ok.held
  unfold okS
  rw [e 0 (by decide) (by decide), e 1 (by decide) (by decide), e 2 (by decide) (by decide), e 3 (by decide) (by decide), e 4 (by decide) (by decide), e 5 (by decide) (by decide), e 6 (by decide) (by decide), e 7 (by decide) (by decide), e 8 (by decide) (by decide), e 9 (by decide) (by decide), e 10 (by decide) (by decide), e 11 (by decide) (by decide), e 12 (by decide) (by decide), e 13 (by decide) (by decide), e 14 (by decide) (by decide), e 15 (by decide) (by decide), e 16 (by decide) (by decide), e 17 (by decide) (by decide), e 18 (by decide) (by decide), e19, e20, e 21 (by decide) (by decide), e 22 (by decide) (by decide), e 23 (by decide) (by decide)]
  exact ⟨ok.r, ok.d, ok.e, ok.h, fun r hr => ok.rm hr, fun d hd => ok.dr hd, fun e he => ok.er he, fun k hk => ⟨(ok.hr hk).1, Nat.two_pow_pos _⟩, hj, ok.walled, ok.drowned, ok.ph⟩
def cR0 (σ : aS) (n : Nat) : aS := sF σ 19 (fun k => if k < n then 0 else σ 19 k)
theorem cR0_s {i : Nat} : sU (cR0 σ i) 19 i 0 = cR0 σ (i + 1) := by
  funext f j
  rw [sU_at]
  unfold cR0
  rw [sF_at, sF_at]
  by_cases e : f = 19
  · subst e
    rw [if_pos rfl, if_pos rfl]
    by_cases e2 : j = i
    · subst e2
      rw [if_pos ⟨rfl, rfl⟩, if_pos (by omega)]
    · rw [if_neg (fun z => e2 z.2)]
      by_cases e3 : j < i
      · rw [if_pos e3, if_pos (by omega)]
      · rw [if_neg e3, if_neg (by omega)]
  · rw [if_neg (fun z => e z.1), if_neg e, if_neg e]
theorem cR0_0 : cR0 σ 0 = σ := by
  unfold cR0
  have : (fun k => if k < 0 then 0 else σ 19 k) = σ 19 := by
    funext r
    rw [if_neg (by omega)]
  rw [this, sF_id]
theorem k_clearRota {Q : xM → Prop} (L : LR o σ u) (hq : ∀ u', LR o (cR0 σ 12) u' → xsame (fun k => k ≠ o + 16) u u' → Q u') : p_X0_clearRota o u Q := by
  unfold p_X0_clearRota
  refine xloop (fun m i (s : xM) => p_X0_clearRota_L2 o Q m (nI i) s) (fun i s => LR o (cR0 σ i) s ∧ xsame (fun k => k ≠ o + 16) u s) 12 0 u (Nat.zero_le _) ⟨by rw [cR0_0]; exact L, xsame.rf⟩ ?_ ?_
  · intro m s hs
    unfold p_X0_clearRota_L2
    exact ⟨fun _ => hq s hs.1 hs.2, fun c => absurd (by decide) c⟩
  · intro m i s _ hi hs k
    unfold p_X0_clearRota_L2
    refine ⟨fun c => absurd c (by rw [l_12, cLE (by omega) (by omega)]; omega), fun _ => ⟨cIN (by omega) (by decide), fun u3 h3 x4 h4 => ?_⟩⟩
    rw [cCL (by omega)] at h3
    rw [l_1, cA] at h4
    subst h4
    refine k u3 ⟨?_, ?_⟩
    · rw [h3, ← cR0_s]
      exact hs.1.up (f := 19) (i := i) (by decide) (by decide) (by decide) (by decide) (by simpa [rlN] using hi) rfl rfl (by simp [rlS])
    · rw [h3]
      exact hs.2.tr (xsame.si (by simp))
theorem k_openJust {j : Nat} {Q : xM → Prop} (L : LR o σ u) (hq : ∀ u', LR o (jd σ j) u' → xsame (fun k => k ≠ o + 16 ∧ k ≠ o + 9) u u' → Q u') : p_X0_openJust o (nI j) u Q := by
  unfold p_X0_openJust
  refine k_clearRota L (fun u1 L1 x1 u2 h2 => hq u2 ?_ ?_)
  · rw [h2]
    refine (L1.up (f := 20) (i := 0) (v := j) (by decide) (by decide) (by decide) (by decide) (by simp [rlN]) rfl rfl rfl).eq rfl rfl rfl (fun f _ i hi => ?_)
    unfold jd
    rw [jF_at, sU_at]
    by_cases e20 : f = 20
    · subst e20
      have hi : i < 1 := by simpa [rlN] using hi
      rw [if_pos rfl, if_pos ⟨rfl, by omega⟩]
    · rw [if_neg e20, if_neg (c := f = 20 ∧ i = 0) (fun z => e20 z.1)]
      unfold cR0
      rw [sF_at]
      by_cases e19 : f = 19
      · subst e19
        have hi : i < 12 := by simpa [rlN] using hi
        rw [if_pos rfl, if_pos rfl, if_pos hi]
      · rw [if_neg e19, if_neg e19]
  · rw [h2]
    exact (x1.mono (fun k hk => hk.1)).tr (xsame.si (by simp))
theorem k_damageBy {j : Nat} {Q : Int32 → xM → Prop} (L : LR 83 σ u) (ok : okS σ) (hp : σ 23 0 = 4095) (h3 : σ 3 0 ≤ 9999) (hj : j < 2 ^ σ 1 0) (hq : ∀ u', LR 83 σ u' → cq u u' → Q (nI (allW (hrsB (some j) 12 σ))) u') : p_X6_damageBy 83 (nI j) u Q := by
  unfold p_X6_damageBy
  refine k_copyFrom (by omega) (fun u1 c1 => k_openJust (L.cp ok c1) (fun u2 L2 x2 => k_waterIn (n := 12) L2 (okS_jd ok hj) (by rw [show jd σ j 3 = σ 3 from jF_r (by decide) (by decide)]; omega) (fun u3 _ x3 => ?_)))
  rw [hrs_jd hp, show allW (jd (hrsB (some j) 12 σ) j) = allW (hrsB (some j) 12 σ) from allW_jF _ _ _]
  refine hq u3 (((L.same (oLand 137) c1.2.2.2.2 (fun n hn => by unfold oLand; omega)).same _ x2 (fun n hn => by omega)).hr x3 (by omega)) (((cq.xs c1.2.2.2.2 (fun k hk => by unfold oLand; omega)).tr (cq.xs x2 (fun k hk => by omega))).tr (cq.xs x3 (fun k hk => by unfold hrP; omega)))
theorem r_damageOf {j : Nat} {Q : Int32 → xM → Prop} (R : RS σ u) (ok : okS σ) (h3 : σ 3 0 ≤ 9999) (hj : j < 2 ^ σ 1 0) (hq : ∀ u', rq u u' → Q (nI (allW (hrsB (some j) 12 σ))) u') : p_X11_damageOf (nI j) u Q := by
  have hp := ok.p10
  unfold p_X11_damageOf
  intro u1 h1
  have R1 : RR 0 σ u1 := R.1.k ok (fun i _ => by rw [h1, gi_si, if_neg (by omega)])
  refine r_waterIn R1 ok (n := 12) (md := some j) (by omega) ⟨by rw [h1, gi_at], by omega⟩ (by rw [h1, gi_si, if_neg (by omega)]; exact R.2.2) (Or.inl ⟨rfl, rfl⟩) (fun u2 q2 _ u4 h4 => hq u4 ⟨fun k i hk => ?_, fun k i hk => ?_⟩)
  · rw [h4, gi_si]
    by_cases e : k = 272 ∧ i = 23
    · rw [if_pos e, e.1, e.2]; exact R.2.1.1.symm
    · rw [if_neg e, q2.1 k i hk, h1, gi_si, if_neg e]
  · rw [h4, gl_si, q2.2 k i hk, h1, gl_si]
end DAMAGE
