/-! ===== plans of the class: a tree of hours ===== -/
def vD (D : Nat → Nat) : Option Nat → Nat
  | none => 8
  | some b => D b
def vW (W : Nat → Nat) : Option Nat → Nat
  | none => 0
  | some b => W b
def QC (D W : Nat → Nat) (acc : Option Nat) (u : xM) : Prop := gi u 5 4 = nI (vD D acc) ∧ gi u 5 5 = nI (vW W acc) ∧ gi u 5 6 = nI (acc.getD 0)
def fr (u u' : xM) : Prop := (∀ k i, ¬ (k = 5 ∧ 4 ≤ i ∧ i ≤ 6) → ¬ (18 ≤ k ∧ k ≤ 30) → ¬ (137 ≤ k ∧ k < 164) → gi u' k i = gi u k i) ∧ ∀ k i, ¬ (137 ≤ k ∧ k < 164) → gl u' k i = gl u k i
def stg (g : Nat) (u u' : xM) : Prop := (∀ g' i, g' < g → gi u' (18 + g') i = gi u (18 + g') i) ∧ ∀ g', g' < g → gi u' 30 g' = gi u 30 g'
def tBk (θ ρ : aS) : aS := fun f i => if f = 3 ∨ f = 8 ∨ f = 22 then θ f i else ρ f i
section PLANC
variable {σ τ ρ θ : aS} {u u' u0 u1 : xM} {D W : Nat → Nat}
theorem fr.rf : fr u u := ⟨fun _ _ _ _ _ => rfl, fun _ _ _ => rfl⟩
theorem fr.tr {w : xM} (h : fr u u') (h' : fr u' w) : fr u w := ⟨fun k i a b c => (h'.1 k i a b c).trans (h.1 k i a b c), fun k i a => (h'.2 k i a).trans (h.2 k i a)⟩
theorem stg.rf {g : Nat} : stg g u u := ⟨fun _ _ _ => rfl, fun _ _ => rfl⟩
theorem stg.tr {g : Nat} {w : xM} (h : stg g u u') (h' : stg g u' w) : stg g u w := ⟨fun k i a => (h'.1 k i a).trans (h.1 k i a), fun k a => (h'.2 k a).trans (h.2 k a)⟩
theorem stg.le {g g' : Nat} (h : stg g u u') (hg : g' ≤ g) : stg g' u u' := ⟨fun k i a => h.1 k i (by omega), fun k a => h.2 k (by omega)⟩
theorem fr.hr (x : xsame (hrP 137) u u') : fr u u' := ⟨fun k i _ _ c => x.1 k i (by unfold hrP; omega), fun k i c => x.2 k i (by unfold hrP; omega)⟩
theorem stg.hr {g : Nat} (hg : g ≤ 12) (x : xsame (hrP 137) u u') : stg g u u' := ⟨fun k i a => x.1 _ i (by unfold hrP; omega), fun k a => x.1 _ _ (by unfold hrP; omega)⟩
theorem QC.cg {acc : Option Nat} (h : QC D W acc u) (e : ∀ i, gi u' 5 i = gi u 5 i) : QC D W acc u' := ⟨(e 4).trans h.1, (e 5).trans h.2.1, (e 6).trans h.2.2⟩
theorem tBk_f {f : Nat} (h : ¬ (f = 3 ∨ f = 8 ∨ f = 22)) : tBk θ ρ f = ρ f := by
  funext i
  unfold tBk
  rw [if_neg h]
theorem tBk_t {f : Nat} (h : f = 3 ∨ f = 8 ∨ f = 22) : tBk θ ρ f = θ f := by
  funext i
  unfold tBk
  rw [if_pos h]
theorem LR.tBk {x : Int32} (L : LR 137 ρ u) (okr : ρ 0 0 ≤ 7) (h8 : ∀ i, i < ρ 0 0 → gi u' 144 i = nI (θ 8 i)) (h22 : gi u' 138 1 = nI (θ 22 0)) (h3 : gi u' 137 8 = nI (θ 3 0)) (hs : ∀ k i, k ≠ 144 → ¬ (k = 138 ∧ i = 1) → ¬ (k = 137 ∧ i = 8) → gi u' k i = gi u k i) : LR 137 (tBk θ ρ) u' := fun f hf i hi => by
  have e0 : Jvm.Pilot.CDryDoorsLaw_law_r2510_4d3eb6.tBk θ ρ 0 = ρ 0 := tBk_f (by decide)
  have e1 : Jvm.Pilot.CDryDoorsLaw_law_r2510_4d3eb6.tBk θ ρ 1 = ρ 1 := tBk_f (by decide)
  have e2 : Jvm.Pilot.CDryDoorsLaw_law_r2510_4d3eb6.tBk θ ρ 2 = ρ 2 := tBk_f (by decide)
  have hn : rlN (Jvm.Pilot.CDryDoorsLaw_law_r2510_4d3eb6.tBk θ ρ) f = rlN ρ f := by
    unfold rlN
    rw [e0, e1, e2]
  rw [hn] at hi
  by_cases k3 : f = 3
  · subst k3
    have : i = 0 := rl_lim (Or.inl rfl) hf hi
    subst this
    rw [tBk_t (by decide)]
    exact h3
  · by_cases k22 : f = 22
    · subst k22
      have : i = 0 := rl_lim (Or.inr (Or.inl rfl)) hf hi
      subst this
      rw [tBk_t (by decide)]
      exact h22
    · by_cases k8 : f = 8
      · subst k8
        have hi2 : i < ρ 0 0 := by simpa [rlN] using hi
        rw [tBk_t (by decide)]
        have := h8 i hi2
        simpa [rlO, rlS] using this
      · rw [tBk_f (by omega), ← L f hf i hi]
        by_cases k9 : f = 9
        · subst k9
          exact hs _ _ (by simp [rlO]) (by simp [rlO]) (by simp [rlO])
        · obtain ⟨n7, n8, n0, n1⟩ := rl_ne f hf k3 k22 k8 k9
          have hlim := rl_lim (σ := ρ) (f := f) (i := i)
          refine hs _ _ (by omega) ?_ ?_
          · rintro ⟨z1, z2⟩
            have z0 : rlO f = 1 := by omega
            have := hlim (Or.inr (Or.inl z0)) hf hi
            have := n1 z0
            omega
          · rintro ⟨z1, z2⟩
            have z0 : rlO f = 0 := by omega
            have := hlim (Or.inl z0) hf hi
            have := n0 z0
            omega
theorem okS_tBk (ok : okS ρ) (okt : okS θ) (h0 : θ 0 0 = ρ 0 0) : okS (tBk θ ρ) := by
  have e := fun f (h : ¬ (f = 3 ∨ f = 8 ∨ f = 22)) => tBk_f (θ := θ) (ρ := ρ) h
  have t := fun f (h : f = 3 ∨ f = 8 ∨ f = 22) => tBk_t (θ := θ) (ρ := ρ) h
  have d := okt.drowned
  rw [h0] at d
  unfold okS
  rw [e 0 (by decide), e 1 (by decide), e 2 (by decide), t 3 (by decide), e 4 (by decide), e 5 (by decide), e 6 (by decide), e 7 (by decide), t 8 (by decide), e 9 (by decide), e 10 (by decide), e 11 (by decide), e 12 (by decide), e 13 (by decide), e 14 (by decide), e 15 (by decide), e 16 (by decide), e 17 (by decide), e 18 (by decide), e 19 (by decide), e 20 (by decide), e 21 (by decide), t 22 (by decide), e 23 (by decide)]
  exact ⟨ok.r, ok.d, ok.e, okt.h, fun r hr => ⟨(ok.rm hr).1, (ok.rm hr).2.1, (ok.rm hr).2.2.1, (ok.rm hr).2.2.2.1, (ok.rm hr).2.2.2.2.1, (ok.rm hr).2.2.2.2.2.1, (okt.rm (by rw [h0]; exact hr)).2.2.2.2.2.2.1, (ok.rm hr).2.2.2.2.2.2.2⟩, fun d hd => ok.dr hd, fun e he => ok.er he, fun k hk => ok.hr hk, ok.held, ok.walled, d, ok.ph⟩
/-! the small steps -/
theorem k_errandsAt {left h : Nat} {Q : Int32 → xM → Prop} (L : LR 137 ρ u) (ok : okS ρ) (hl : left < 16) (hh : h < 12) (hq : Q (nI (eA ρ left h)) u) : p_X6_errandsAt (nI left) (nI h) u Q := by
  have h4 := ok.e
  unfold p_X6_errandsAt
  refine xloop (fun m i (s : Int32) => p_X6_errandsAt_L5 Q m (nI left) (nI h) s (nI i) u) (fun i s => s = nI (mk (fun e => left.testBit e && decide (ρ 16 e ≤ h) && decide (h ≤ ρ 17 e)) i)) (ρ 2 0) 0 0 (Nat.zero_le _) rfl ?_ ?_
  · intro m s hs
    unfold p_X6_errandsAt_L5
    rw [show gi u 137 2 = nI (ρ 2 0) from L.f2, hs]
    exact ⟨fun _ => hq, fun c => absurd (by rw [cLE (by omega) (by omega)]; exact Nat.le_refl _) c⟩
  · intro m i s _ hi hs k
    have he := ok.er hi
    have hd := ok.d
    unfold p_X6_errandsAt_L5
    rw [show gi u 137 2 = nI (ρ 2 0) from L.f2, bTST (by omega) (by omega), cCL (by omega), show gi u 156 i = nI (ρ 16 i) from L.f16 hi, show gi u 157 i = nI (ρ 17 i) from L.f17 hi, cLT (by omega) (by omega), cLT (by omega) (by omega)]
    have no : ∀ x : Int32, x = nI i + 1 → (left.testBit i && decide (ρ 16 i ≤ h) && decide (h ≤ ρ 17 i)) = false → p_X6_errandsAt_L5 Q m (nI left) (nI h) s x u := fun x hx hb => by
      rw [l_1, cA] at hx
      subst hx
      exact k s (by rw [mk_n hb]; exact hs)
    refine ⟨fun c => absurd c (by rw [cLE (by omega) (by omega)]; omega), fun _ => ⟨fun c x3 h3 => no x3 h3 (by rw [Bool.not_eq_true] at c; rw [c]; rfl), fun c => ⟨cIN (by omega) (by decide), fun c2 x6 h6 => no x6 h6 (by rw [decide_eq_false (show ¬ ρ 16 i ≤ h by omega)]; simp), fun c2 => ⟨cIN (by omega) (by decide), fun c3 x9 h9 => no x9 h9 (by rw [decide_eq_false (show ¬ h ≤ ρ 17 i by omega)]; simp), fun c3 x10 h10 x11 h11 => ?_⟩⟩⟩⟩
    rw [l_1, cA] at h11
    subst h11
    rw [hs, bPOW (by omega), bOR] at h10
    refine k x10 ?_
    rw [mk_s (by rw [c, decide_eq_true (show ρ 16 i ≤ h by omega), decide_eq_true (show h ≤ ρ 17 i by omega)]; rfl)]
    exact h10
theorem k_later {left g x : Nat} {Q : Int32 → xM → Prop} (L : LR 137 ρ u) (ok : okS ρ) (e16 : ρ 16 = σ 16) (e17 : ρ 17 = σ 17) (e2 : ρ 2 0 = σ 2 0) (hl : left < 16) (hg : g ≤ 12) (h1 : 1 ≤ g) (hx : x = (σ 3 0 + (g - 1)) % 12 + 1) (hq : Q (nI (eL σ left g (12 - g))) u) : p_X6_errandsLater (nI left) (nI g) (nI x) u Q := by
  have h4 := ok.e
  have hp : 2 ^ ρ 2 0 ≤ 16 := p2le (b := 4) h4
  have eAe : ∀ h, eA ρ left h = eA σ left h := fun h => by
    unfold eA
    rw [e16, e17, e2]
  unfold p_X6_errandsLater
  refine xloop (fun m i (s : Int32) => p_X6_errandsLater_L6 Q m (nI left) (nI g) (nI x) s (nI i) u) (fun i s => s = nI (eL σ left g i)) (12 - g) 0 0 (Nat.zero_le _) rfl ?_ ?_
  · intro m s hs
    unfold p_X6_errandsLater_L6
    rw [l_12, cS (by omega), hs]
    exact ⟨fun _ => hq, fun c => absurd (by rw [cLE (by omega) (by omega)]; exact Nat.le_refl _) c⟩
  · intro m i s _ hi hs k
    unfold p_X6_errandsLater_L6
    rw [l_12, cS (by omega), cA, cR (by omega) (by omega) (by omega)]
    refine ⟨fun c => absurd c (by rw [cLE (by omega) (by omega)]; omega), fun _ x2 h2 => ?_⟩
    subst h2
    refine k_errandsAt L ok hl (Nat.mod_lt _ (by omega)) (fun x5 h5 x6 h6 => ?_)
    rw [l_1, cA] at h6
    subst h6
    rw [hs, bOR, eAe] at h5
    refine k x5 ?_
    rw [h5]
    show _ = nI (eL σ left g i ||| eA σ left ((σ 3 0 + g + i) % 12))
    rw [show (x + i) % 12 = (σ 3 0 + g + i) % 12 by omega]
theorem k_doorsOf {now : Nat} {Q : Int32 → xM → Prop} (L : LR 137 ρ u) (ok : okS ρ) (hn : now < 16) (hq : Q (nI (dN now.testBit (ρ 15) (ρ 2 0))) u) : p_X6_doorsOf (nI now) u Q := by
  have h4 := ok.e
  have hd := ok.d
  unfold p_X6_doorsOf
  refine xloop (fun m i (s : Int32) => p_X6_doorsOf_L4 Q m (nI now) s (nI i) u) (fun i s => s = nI (dN now.testBit (ρ 15) i)) (ρ 2 0) 0 0 (Nat.zero_le _) rfl ?_ ?_
  · intro m s hs
    unfold p_X6_doorsOf_L4
    rw [show gi u 137 2 = nI (ρ 2 0) from L.f2, hs]
    exact ⟨fun _ => hq, fun c => absurd (by rw [cLE (by omega) (by omega)]; exact Nat.le_refl _) c⟩
  · intro m i s _ hi hs k
    have he := ok.er hi
    unfold p_X6_doorsOf_L4
    rw [show gi u 137 2 = nI (ρ 2 0) from L.f2, bTST (by omega) (by omega), cCL (by omega), show gi u 155 i = nI (ρ 15 i) from L.f15 hi]
    refine ⟨fun c => absurd c (by rw [cLE (by omega) (by omega)]; omega), fun _ => ⟨fun c x3 h3 => ?_, fun c => ⟨cIN (by omega) (by decide), fun x5 h5 x6 h6 => ?_⟩⟩⟩
    · rw [l_1, cA] at h3
      subst h3
      refine k s ?_
      show s = nI (dN now.testBit (ρ 15) i ||| (if now.testBit i then 2 ^ (ρ 15 i) else 0))
      rw [hs, if_neg c, Nat.or_zero]
    · rw [l_1, cA] at h6
      subst h6
      rw [hs, bPOW (by omega), bOR] at h5
      refine k x5 ?_
      rw [h5]
      show _ = nI (dN now.testBit (ρ 15) i ||| (if now.testBit i then 2 ^ (ρ 15 i) else 0))
      rw [if_pos c]
theorem k_hoursOf {now h : Nat} {Q : Int32 → xM → Prop} (L : LR 137 ρ u) (ok : okS ρ) (hn : now < 16) (hh : h < 12) (hq : Q (nI (hO now h (ρ 2 0))) u) : p_X6_hoursOf (nI now) (nI h) u Q := by
  have h4 := ok.e
  unfold p_X6_hoursOf
  refine xloop (fun m i (s : Int32) => p_X6_hoursOf_L5 Q m (nI now) (nI h) s (nI i) u) (fun i s => s = nI (hO now h i)) (ρ 2 0) 0 0 (Nat.zero_le _) rfl ?_ ?_
  · intro m s hs
    unfold p_X6_hoursOf_L5
    rw [show gi u 137 2 = nI (ρ 2 0) from L.f2, hs]
    exact ⟨fun _ => hq, fun c => absurd (by rw [cLE (by omega) (by omega)]; exact Nat.le_refl _) c⟩
  · intro m i s _ hi hs k
    unfold p_X6_hoursOf_L5 p_X6_shiftOf
    rw [show gi u 137 2 = nI (ρ 2 0) from L.f2, bTST (by omega) (by omega)]
    refine ⟨fun c => absurd c (by rw [cLE (by omega) (by omega)]; omega), fun _ => ⟨fun c x3 h3 => ?_, fun c x6 h6 x7 h7 => ?_⟩⟩
    · rw [l_1, cA] at h3
      subst h3
      refine k s ?_
      show s = nI (hO now h i ||| (if now.testBit i then h * 2 ^ (4 * (3 - i)) else 0))
      rw [hs, if_neg c, Nat.or_zero]
    · rw [l_1, cA] at h7
      subst h7
      have hb : h * 2 ^ (4 * (3 - i)) < 4294967296 := by
        have : 2 ^ (4 * (3 - i)) ≤ 2 ^ 12 := p2le (by omega)
        have h2 := Nat.mul_le_mul (show h ≤ 12 by omega) this
        have h3 : 12 * 2 ^ 12 < 4294967296 := by decide
        omega
      rw [hs, l_4, l_3, cS (by omega), cM, bSHL (by omega) hb, bOR] at h6
      refine k x6 ?_
      rw [h6]
      show _ = nI (hO now h i ||| (if now.testBit i then h * 2 ^ (4 * (3 - i)) else 0))
      rw [if_pos c]
end PLANC
