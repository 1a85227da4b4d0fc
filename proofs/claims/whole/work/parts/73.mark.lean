/-! ===== mark, undo ===== -/
section MARKU
variable {σ τ ρ : aS} {u u' u0 u1 : xM} {o o1 o' p p' b b' nb nb' : Nat}
theorem SLT.copy (h : SLT σ o p b nb u) (hl : LR o' σ u') (n1 : ∀ i, i < 7 → gl u' (o' + 2) i = gl u (o + 2) i) (n2 : ∀ i, i < 10 → gl u' (o' + 10) i = gl u (o + 10) i) (n3 : ∀ i, i < 4 → gl u' (o' + 17) i = gl u (o + 17) i)
    (g0 : gi u' p' 0 = gi u p 0) (g2 : gi u' p' 2 = gi u p 2) (gk : ∀ k i, 1 ≤ k → k ≤ 4 → i < 60 → gi u' (p' + k) i = gi u (p + k) i) (hr : ∀ i, i < 524 → gi u' 273 (b' + i) = gi u 273 (b + i)) (hn : ∀ i, i < 21 → gl u' 274 (nb' + i) = gl u 274 (nb + i)) : SLT σ o' p' b' nb' u' := by
  obtain ⟨_, hrr, ok, hh, hp, hm, hg⟩ := h
  have a0 := ok.r
  have a1 := ok.d
  have a2 := ok.e
  refine ⟨hl, fun f hf i hi => ?_, ok, hh, hp, ⟨fun i hi => ?_, fun i hi => ?_, fun i hi => ?_⟩, ?_⟩
  · have := rk_lt f hf i (Nat.lt_of_lt_of_le hi (rrN_le a0 a1 a2 f))
    rw [hr _ (by omega)]
    exact hrr f hf i hi
  · rw [n1 i (by omega), hn i (by omega)]; exact hm.1 i hi
  · rw [n2 i (by omega), show nb' + 7 + i = nb' + (7 + i) by omega, hn (7 + i) (by omega), show nb + (7 + i) = nb + 7 + i by omega]; exact hm.2.1 i hi
  · rw [n3 i (by omega), show nb' + 17 + i = nb' + (17 + i) by omega, hn (17 + i) (by omega), show nb + (17 + i) = nb + 17 + i by omega]; exact hm.2.2 i hi
  · rcases hg with ⟨e1, e2, e3⟩ | ⟨L, K, T, N, P, e1, e2, e3, e4, e5, e6⟩
    · exact Or.inl ⟨g0.trans e1, g2.trans e2, (hr 4 (by omega)).trans e3⟩
    · refine Or.inr ⟨L, K, T, N, P, g0.trans e1, e2, g2.trans e3, (hr 4 (by omega)).trans e4, fun k hk => ?_, e6⟩
      have := e5 k hk
      have r0 := hr (160 + 6 * k) (by omega)
      have r1 := hr (161 + 6 * k) (by omega)
      have r2 := hr (162 + 6 * k) (by omega)
      have r4 := hr (164 + 6 * k) (by omega)
      have r5 := hr (165 + 6 * k) (by omega)
      rw [← Nat.add_assoc, ← Nat.add_assoc] at r0 r1 r2 r4 r5
      rw [gk 1 k (by omega) (by omega) (by omega), gk 2 k (by omega) (by omega) (by omega), gk 3 k (by omega) (by omega) (by omega), gk 4 k (by omega) (by omega) (by omega), r0, r1, r2, r4, r5]
      exact this
def cpN (p' p : Nat) (u u' : xM) : Prop := gi u' p' 0 = gi u p 0 ∧ gi u' p' 2 = gi u p 2 ∧ (∀ k i, 1 ≤ k → k ≤ 4 → i < 60 → gi u' (p' + k) i = gi u (p + k) i) ∧ gi u' p' 1 = gi u p 1 ∧ xsame (fun k => k < p' ∨ p' + 5 ≤ k) u u'
theorem k_copyNights {Q : xM → Prop} (hpp : p' + 5 ≤ p ∨ p + 5 ≤ p') (h01 : gi u p 0 = 0 ∨ gi u p 0 = 1) (hq : ∀ u', cpN p' p u u' → Q u') : p_X4_copyFrom p' p u Q := by
  unfold p_X4_copyFrom
  refine ⟨h01, fun u2 h2 u3 h3 u4 h4 u5 h5 u6 h6 u7 h7 u8 h8 => hq u8 ⟨?_, ?_, fun k i k1 k2 hi => ?_, ?_, ?_, ?_⟩⟩
  · rw [h8, gi_cpi, if_neg (by omega), h7, gi_cpi, if_neg (by omega), h6, gi_cpi, if_neg (by omega), h5, gi_cpi, if_neg (by omega), h4, gi_si, if_neg (by omega), h3, gi_si, if_neg (by omega), h2, gi_at]
  · rw [h8, gi_cpi, if_neg (by omega), h7, gi_cpi, if_neg (by omega), h6, gi_cpi, if_neg (by omega), h5, gi_cpi, if_neg (by omega), h4, gi_at, h3, gi_si, if_neg (by omega), h2, gi_si, if_neg (by omega)]
  · have e4 : ∀ k j, k ≠ p' → gi u4 k j = gi u k j := fun k j hk => by
      rw [h4, gi_si, if_neg (by omega), h3, gi_si, if_neg (by omega), h2, gi_si, if_neg (by omega)]
    have z : ∀ j, 0 + (j - 0) = j := fun j => by omega
    rcases (by omega : k = 1 ∨ k = 2 ∨ k = 3 ∨ k = 4) with e | e | e | e
    · subst e
      rw [h8, gi_cpi, if_neg (by omega), h7, gi_cpi, if_neg (by omega), h6, gi_cpi, if_neg (by omega), h5, gi_cpi, if_pos ⟨rfl, by omega, by omega⟩, z, e4 _ _ (by omega)]
    · subst e
      rw [h8, gi_cpi, if_neg (by omega), h7, gi_cpi, if_neg (by omega), h6, gi_cpi, if_pos ⟨rfl, by omega, by omega⟩, z, h5, gi_cpi, if_neg (by omega), e4 _ _ (by omega)]
    · subst e
      rw [h8, gi_cpi, if_neg (by omega), h7, gi_cpi, if_pos ⟨rfl, by omega, by omega⟩, z, h6, gi_cpi, if_neg (by omega), h5, gi_cpi, if_neg (by omega), e4 _ _ (by omega)]
    · subst e
      rw [h8, gi_cpi, if_pos ⟨rfl, by omega, by omega⟩, z, h7, gi_cpi, if_neg (by omega), h6, gi_cpi, if_neg (by omega), h5, gi_cpi, if_neg (by omega), e4 _ _ (by omega)]
  · rw [h8, gi_cpi, if_neg (by omega), h7, gi_cpi, if_neg (by omega), h6, gi_cpi, if_neg (by omega), h5, gi_cpi, if_neg (by omega), h4, gi_si, if_neg (by omega), h3, gi_at, h2, gi_si, if_neg (by omega)]
  · intro k i hk
    rw [h8, gi_cpi, if_neg (by omega), h7, gi_cpi, if_neg (by omega), h6, gi_cpi, if_neg (by omega), h5, gi_cpi, if_neg (by omega), h4, gi_si, if_neg (by omega), h3, gi_si, if_neg (by omega), h2, gi_si, if_neg (by omega)]
  · intro k i hk
    rw [h8, h7, h6, h5, h4, h3, h2]
    rfl
def cpR (a c : Nat) (u u' : xM) : Prop := (∀ i, i < 524 → gi u' 273 (524 * c + i) = gi u 273 (524 * a + i)) ∧ (∀ i, i < 21 → gl u' 274 (21 * c + i) = gl u 274 (21 * a + i)) ∧ (∀ k i, ¬ (k = 273 ∧ 524 * c ≤ i ∧ i < 524 * c + 524) → gi u' k i = gi u k i) ∧ ∀ k i, ¬ (k = 274 ∧ 21 * c ≤ i ∧ i < 21 * c + 21) → gl u' k i = gl u k i
theorem r_copies {a c : Nat} {Q : xM → Prop} (ha : a ≤ 5) (hc : c ≤ 5) (hac : a ≠ c) (hq : ∀ u', cpR a c u u' → Q u') : p_X11_copies (nI a) (nI c) u Q := by
  unfold p_X11_copies
  refine xloop (fun m i (w : xM) => p_X11_copies_L2 Q m (nI a) (nI c) (nI i) w) (fun i w => (∀ j, j < i → gi w 273 (524 * c + j) = gi u 273 (524 * a + j)) ∧ (∀ k j, ¬ (k = 273 ∧ 524 * c ≤ j ∧ j < 524 * c + 524) → gi w k j = gi u k j) ∧ ∀ k j, gl w k j = gl u k j) 524 0 u (Nat.zero_le _) ⟨fun j hj => by omega, fun _ _ _ => rfl, fun _ _ => rfl⟩ ?_ ?_
  · intro m w hw
    unfold p_X11_copies_L2
    refine ⟨fun _ => ?_, fun z => absurd (by decide) z⟩
    refine xloop (fun m i (v : xM) => p_X11_copies_L41 Q m (nI a) (nI c) (nI i) v) (fun i v => (∀ k j, gi v k j = gi w k j) ∧ (∀ j, j < i → gl v 274 (21 * c + j) = gl u 274 (21 * a + j)) ∧ ∀ k j, ¬ (k = 274 ∧ 21 * c ≤ j ∧ j < 21 * c + 21) → gl v k j = gl u k j) 21 0 w (Nat.zero_le _) ⟨fun _ _ => rfl, fun j hj => by omega, fun k j _ => hw.2.2 k j⟩ ?_ ?_
    · intro m v hv
      unfold p_X11_copies_L41
      exact ⟨fun _ => hq v ⟨fun i hi => by rw [hv.1]; exact hw.1 i hi, hv.2.1, fun k i hk => by rw [hv.1]; exact hw.2.1 k i hk, hv.2.2⟩, fun z => absurd (by decide) z⟩
    · intro m i v _ hi hv kk
      unfold p_X11_copies_L41
      rw [show (21 : Int32) = nI 21 from rfl, cM, cM, cA, cA, cLE (by omega) (by omega), cCL (by omega), cCL (by omega)]
      refine ⟨fun z => absurd z (by omega), fun _ => ⟨cIN (by omega) (by decide), cIN (by omega) (by decide), fun u4 h4 x5 h5 => ?_⟩⟩
      rw [l_1, cA] at h5
      subst h5
      refine kk u4 ⟨fun k j => by rw [h4]; exact hv.1 k j, fun j hj => ?_, fun k j hk => ?_⟩
      · rw [h4, gl_sl]
        by_cases e : j = i
        · rw [if_pos ⟨rfl, by omega⟩, e, hv.2.2 _ _ (by omega)]
        · rw [if_neg (by omega)]; exact hv.2.1 j (by omega)
      · rw [h4, gl_sl, if_neg (by omega)]; exact hv.2.2 k j hk
  · intro m i w _ hi hw kk
    unfold p_X11_copies_L2
    rw [l_524, cM, cM, cA, cA, cLE (by omega) (by omega), cCL (by omega), cCL (by omega)]
    refine ⟨fun z => absurd z (by omega), fun _ => ⟨cIN (by omega) (by decide), cIN (by omega) (by decide), fun u4 h4 x5 h5 => ?_⟩⟩
    rw [l_1, cA] at h5
    subst h5
    refine kk u4 ⟨fun j hj => ?_, fun k j hk => ?_, fun k j => by rw [h4]; exact hw.2.2 k j⟩
    · rw [h4, gi_si]
      by_cases e : j = i
      · rw [if_pos ⟨rfl, by omega⟩, e, hw.2.1 _ _ (by omega)]
      · rw [if_neg (by omega)]; exact hw.1 j (by omega)
    · rw [h4, gi_si, if_neg (by omega)]; exact hw.2.1 k j hk
theorem NGT.g01 (h : NGT p b σ u) : gi u p 0 = 0 ∨ gi u p 0 = 1 := by
  rcases h with h | ⟨_, _, _, _, _, h, _⟩
  · exact Or.inl h.1
  · exact Or.inr h
theorem K_mark (I : INV u) : p_X10_mark u (fun r u1 => p_X11_mark u1 (fun r' u2 => r = r' ∧ INV u2)) := by
  obtain ⟨σ, S, L, ok, R⟩ := I.sp
  obtain ⟨n, hn, e1, e2, hm⟩ := I.mks
  by_cases h3 : n < 3
  · unfold p_X10_mark
    rw [e1, l_3, cLT (by omega) (by omega), cCL (by omega)]
    refine ⟨fun _ => ⟨cIN (by omega) (by decide), k_copyFrom (by omega) (fun u3 c3 => ?_)⟩, fun z => absurd h3 z⟩
    have x3 := c3.2.2.2.2
    rw [x3.1 0 10 (by unfold oLand; omega), e1, cCL (by omega)]
    refine ⟨cIN (by omega) (by decide), k_copyNights (by omega) ?_ (fun u5 c5 u6 h6 => ?_)⟩
    · rw [x3.1 58 0 (by unfold oLand; omega)]; exact S.2.2.2.2.2.2.g01
    have x5 := c5.2.2.2.2
    rw [x5.1 0 10 (by omega), x3.1 0 10 (by unfold oLand; omega), e1, l_1, cA] at h6
    rw [show gi u6 0 10 = nI (n + 1) by rw [h6, gi_at]]
    intro u7 h7
    have ci : ∀ k i, ¬ (191 + 27 * n ≤ k ∧ k < 191 + 27 * n + 27) → ¬ (68 + 5 * n ≤ k ∧ k < 68 + 5 * n + 5) → ¬ (k = 0 ∧ (i = 10 ∨ i = 14)) → gi u7 k i = gi u k i := fun k i a1 a2 a3 => by
      rw [h7, gi_si, if_neg (by omega), h6, gi_si, if_neg (by omega), x5.1 k i (by omega), x3.1 k i (by unfold oLand; omega)]
    have cl : ∀ k i, ¬ (191 + 27 * n ≤ k ∧ k < 191 + 27 * n + 27) → ¬ (68 + 5 * n ≤ k ∧ k < 68 + 5 * n + 5) → gl u7 k i = gl u k i := fun k i a1 a2 => by
      rw [h7, gl_si, h6, gl_si, x5.2 k i (by omega), x3.2 k i (by unfold oLand; omega)]
    have m7 : gi u7 272 43 = nI n := (ci _ _ (by omega) (by omega) (by omega)).trans e2
    unfold p_X11_mark
    dsimp only
    rw [m7, l_3, cEQ (by omega) (by omega), l_1, cA]
    refine ⟨fun _ u8 h8 => ?_, fun z => absurd z (by omega)⟩
    rw [show gi u8 272 43 = nI (n + 1) by rw [h8, gi_at], l_0]
    refine r_copies (by omega) (by omega) (by omega) (fun u9 c9 => ?_)
    have g9 : gi u9 272 43 = nI (n + 1) := by rw [c9.2.2.1 272 43 (by omega), h8, gi_at]
    rw [g9]
    intro w hw
    have ei : ∀ k i, cellI k i → ¬ (191 + 27 * n ≤ k ∧ k < 191 + 27 * n + 27) → ¬ (68 + 5 * n ≤ k ∧ k < 68 + 5 * n + 5) → ¬ (k = 0 ∧ i = 10) → ¬ (k = 272 ∧ i = 43) → ¬ (k = 273 ∧ 524 * (n + 1) ≤ i ∧ i < 524 * (n + 1) + 524) → gi w k i = gi u k i := fun k i a0 a1 a2 a3 a4 a5 => by
      unfold cellI at a0
      rw [hw, gi_si, if_neg (by omega), c9.2.2.1 k i (by omega), h8, gi_si, if_neg (by omega), ci k i a1 a2 (by omega)]
    have el : ∀ k i, ¬ (191 + 27 * n ≤ k ∧ k < 191 + 27 * n + 27) → ¬ (68 + 5 * n ≤ k ∧ k < 68 + 5 * n + 5) → ¬ (k = 274 ∧ 21 * (n + 1) ≤ i ∧ i < 21 * (n + 1) + 21) → gl w k i = gl u k i := fun k i a1 a2 a3 => by
      rw [hw, gl_si, c9.2.2.2 k i (by omega), h8, gl_si, cl k i a1 a2]
    have wc : ∀ k i, k < 272 → gi w k i = gi u7 k i := fun k i hk => by
      rw [hw, gi_si, if_neg (by omega), c9.2.2.1 k i (by omega), h8, gi_si, if_neg (by omega)]
    have wl : ∀ k i, k < 272 → gl w k i = gl u7 k i := fun k i hk => by
      rw [hw, gl_si, c9.2.2.2 k i (by omega), h8, gl_si]
    refine ⟨rfl, ?_, ?_, ?_, ?_, ?_, ?_, fun t ht => ?_, ?_, ?_, ?_, ?_, ?_⟩
    · rw [wc 0 14 (by omega), h7, gi_at, hw, gi_at]
    · rw [el 0 15 (by omega) (by omega) (by omega), el 272 3 (by omega) (by omega) (by omega)]; exact I.tp
    · rw [el 0 16 (by omega) (by omega) (by omega), el 272 4 (by omega) (by omega) (by omega)]; exact I.bt
    · rw [ei 0 17 (by unfold cellI; omega) (by omega) (by omega) (by omega) (by omega) (by omega), ei 272 16 (by unfold cellI; omega) (by omega) (by omega) (by omega) (by omega) (by omega)]; exact I.fk
    · rw [ei 0 18 (by unfold cellI; omega) (by omega) (by omega) (by omega) (by omega) (by omega), ei 272 17 (by unfold cellI; omega) (by omega) (by omega) (by omega) (by omega) (by omega)]; exact I.fp
    · exact I.tap.cg (ei _ _ (by unfold cellI; omega) (by omega) (by omega) (by omega) (by omega) (by omega)) (ei _ _ (by unfold cellI; omega) (by omega) (by omega) (by omega) (by omega) (by omega)) (fun i => ei _ _ (by unfold cellI; omega) (by omega) (by omega) (by omega) (by omega) (by omega)) (fun i => ei _ _ (by unfold cellI; omega) (by omega) (by omega) (by omega) (by omega) (by omega))
    · exact (I.tra t ht).cg (fun i => ei _ _ (by unfold cellI; omega) (by omega) (by omega) (by omega) (by omega) (by omega)) (ei _ _ (by unfold cellI; omega) (by omega) (by omega) (by omega) (by omega) (by omega)) (ei _ _ (by unfold cellI; omega) (by omega) (by omega) (by omega) (by omega) (by omega)) (fun i => el _ _ (by omega) (by omega) (by omega)) (fun i _ => el _ _ (by omega) (by omega) (by omega))
    · exact I.lvd.cg (fun i => ei _ _ (by unfold cellI; omega) (by omega) (by omega) (by omega) (by omega) (by omega)) (ei _ _ (by unfold cellI; omega) (by omega) (by omega) (by omega) (by omega) (by omega)) (fun i => ei _ _ (by unfold cellI; omega) (by omega) (by omega) (by omega) (by omega) (by omega))
    · exact I.wrd.cg (ei _ _ (by unfold cellI; omega) (by omega) (by omega) (by omega) (by omega) (by omega)) (ei _ _ (by unfold cellI; omega) (by omega) (by omega) (by omega) (by omega) (by omega)) (fun i => el _ _ (by omega) (by omega) (by omega)) (fun i => el _ _ (by omega) (by omega) (by omega))
    · rw [ei 272 23 (by unfold cellI; omega) (by omega) (by omega) (by omega) (by omega) (by omega), ei 272 24 (by unfold cellI; omega) (by omega) (by omega) (by omega) (by omega) (by omega), ei 272 25 (by unfold cellI; omega) (by omega) (by omega) (by omega) (by omega) (by omega)]; exact I.md
    · refine ⟨n + 1, by omega, ?_, ?_, fun j hj => ?_⟩
      · rw [wc 0 10 (by omega), h7, gi_si, if_neg (by omega), h6, gi_at]
      · rw [hw, gi_si, if_neg (by omega)]; exact g9
      · by_cases e : j = n
        · subst e
          refine ⟨σ, S.copy ?_ (fun i hi => ?_) (fun i hi => ?_) (fun i hi => ?_) ?_ ?_ (fun k i k1 k2 hi => ?_) (fun i hi => ?_) (fun i hi => ?_)⟩
          · refine (L.cp ok c3).cg (fun f hf i => ?_)
            have := rl_o f hf
            rw [wc _ _ (by omega), h7, gi_si, if_neg (by omega), h6, gi_si, if_neg (by omega), x5.1 _ _ (by omega)]
          · rw [wl _ _ (by omega), h7, gl_si, h6, gl_si, x5.2 _ _ (by omega), c3.2.1 i hi]
          · rw [wl _ _ (by omega), h7, gl_si, h6, gl_si, x5.2 _ _ (by omega), c3.2.2.1 i hi]
          · rw [wl _ _ (by omega), h7, gl_si, h6, gl_si, x5.2 _ _ (by omega), c3.2.2.2.1 i hi]
          · rw [wc _ _ (by omega), h7, gi_si, if_neg (by omega), h6, gi_si, if_neg (by omega), c5.1, x3.1 _ _ (by unfold oLand; omega)]
          · rw [wc _ _ (by omega), h7, gi_si, if_neg (by omega), h6, gi_si, if_neg (by omega), c5.2.1, x3.1 _ _ (by unfold oLand; omega)]
          · rw [wc _ _ (by omega), h7, gi_si, if_neg (by omega), h6, gi_si, if_neg (by omega), c5.2.2.1 k i k1 k2 hi, x3.1 _ _ (by unfold oLand; omega)]
          · rw [hw, gi_si, if_neg (by omega), c9.1 i hi, h8, gi_si, if_neg (by omega), ci _ _ (by omega) (by omega) (by omega)]
          · rw [hw, gl_si, c9.2.1 i hi, h8, gl_si, cl _ _ (by omega) (by omega)]
        · obtain ⟨ρ, hρ⟩ := hm j (by omega)
          exact ⟨ρ, hρ.cg (fun k i a1 a2 => ei k i (by unfold cellI; omega) (by omega) (by omega) (by omega) (by omega) (by omega)) (fun k i a1 a2 => ei k i (by unfold cellI; omega) (by omega) (by omega) (by omega) (by omega) (by omega)) (fun i a1 a2 => ei 273 i (by unfold cellI; omega) (by omega) (by omega) (by omega) (by omega) (by omega)) (fun k i a1 => el k i (by omega) (by omega) (by omega)) (fun i a1 a2 => el 274 i (by omega) (by omega) (by omega))⟩
    · exact ⟨σ, S.cg (fun k i a1 a2 => ei k i (by unfold cellI; omega) (by omega) (by omega) (by omega) (by omega) (by omega)) (fun k i a1 a2 => ei k i (by unfold cellI; omega) (by omega) (by omega) (by omega) (by omega) (by omega)) (fun i a1 a2 => ei 273 i (by unfold cellI; omega) (by omega) (by omega) (by omega) (by omega) (by omega)) (fun k i a1 => el k i (by omega) (by omega) (by omega)) (fun i a1 a2 => el 274 i (by omega) (by omega) (by omega))⟩
  · refine pj (pc := p_X10_mark u) (pr := p_X11_mark) I ok R (-1) 4 (fun Q hq => ?_) (fun u1 c1 R Q hq => ?_)
    · unfold p_X10_mark
      rw [e1, l_3, cLT (by omega) (by omega)]
      exact ⟨fun z => absurd z h3, fun _ => k_none hq cq.rf⟩
    · unfold p_X11_mark
      rw [show gi u1 272 43 = nI n from (c1.1 _ _ (by omega)).trans e2, l_3, cEQ (by omega) (by omega)]
      exact ⟨fun z => absurd (by omega) z, fun _ => r_refuse hq rq.rf⟩
theorem K_undo (I : INV u) : p_X10_undo u (fun r u1 => p_X11_undo u1 (fun r' u2 => r = r' ∧ INV u2)) := by
  obtain ⟨σ0, S0, L0, ok0, R0⟩ := I.sp
  obtain ⟨n', hn', e1, e2, hm⟩ := I.mks
  by_cases h0 : 0 < n'
  · obtain ⟨n, rfl⟩ : ∃ n, n' = n + 1 := ⟨n' - 1, by omega⟩
    obtain ⟨σ, S⟩ := hm n (by omega)
    have L := S.1
    have ok := S.2.2.1
    unfold p_X10_undo
    rw [e1, c0P (by omega)]
    refine ⟨fun _ u2 h2 => ?_, fun z => absurd h0 z⟩
    rw [l_1, cS (by omega), Nat.add_sub_cancel] at h2
    rw [show gi u2 0 10 = nI n by rw [h2, gi_at], cCL (by omega)]
    refine ⟨cIN (by omega) (by decide), k_copyFrom (by omega) (fun u3 c3 => ?_)⟩
    have x3 := c3.2.2.2.2
    have g3 : gi u3 0 10 = nI n := by rw [x3.1 0 10 (by unfold oLand; omega), h2, gi_at]
    rw [g3, cCL (by omega)]
    refine ⟨cIN (by omega) (by decide), k_copyNights (by omega) ?_ (fun u5 c5 => ?_)⟩
    · rw [x3.1 _ _ (by unfold oLand; omega), h2, gi_si, if_neg (by omega)]; exact S.2.2.2.2.2.2.g01
    have x5 := c5.2.2.2.2
    have g5 : gi u5 0 10 = nI n := by rw [x5.1 0 10 (by omega), g3]
    rw [g5]
    intro u7 h7
    have ci : ∀ k i, ¬ (83 ≤ k ∧ k < 110) → ¬ (58 ≤ k ∧ k < 63) → ¬ (k = 0 ∧ (i = 10 ∨ i = 14)) → gi u7 k i = gi u k i := fun k i a1 a2 a3 => by
      rw [h7, gi_si, if_neg (by omega), x5.1 k i (by omega), x3.1 k i (by unfold oLand; omega), h2, gi_si, if_neg (by omega)]
    have cl : ∀ k i, ¬ (83 ≤ k ∧ k < 110) → ¬ (58 ≤ k ∧ k < 63) → gl u7 k i = gl u k i := fun k i a1 a2 => by
      rw [h7, gl_si, x5.2 k i (by omega), x3.2 k i (by unfold oLand; omega), h2, gl_si]
    have m7 : gi u7 272 43 = nI (n + 1) := (ci _ _ (by omega) (by omega) (by omega)).trans e2
    unfold p_X11_undo
    dsimp only
    rw [m7, cE0 (by omega)]
    refine ⟨fun _ => ?_, fun z => absurd z (by omega)⟩
    rw [l_0]
    refine r_copies (by omega) (by omega) (by omega) (fun u9 c9 u10 h10 => ?_)
    rw [c9.2.2.1 272 43 (by omega), m7, l_1, cS (by omega), Nat.add_sub_cancel] at h10
    rw [show gi u10 272 43 = nI n by rw [h10, gi_at]]
    intro w hw
    have ei : ∀ k i, cellI k i → ¬ (83 ≤ k ∧ k < 110) → ¬ (58 ≤ k ∧ k < 63) → ¬ (k = 0 ∧ i = 10) → ¬ (k = 272 ∧ i = 43) → ¬ (k = 273 ∧ i < 524) → gi w k i = gi u k i := fun k i a0 a1 a2 a3 a4 a5 => by
      unfold cellI at a0
      rw [hw, gi_si, if_neg (by omega), h10, gi_si, if_neg (by omega), c9.2.2.1 k i (by omega), ci k i a1 a2 (by omega)]
    have el : ∀ k i, ¬ (83 ≤ k ∧ k < 110) → ¬ (58 ≤ k ∧ k < 63) → ¬ (k = 274 ∧ i < 21) → gl w k i = gl u k i := fun k i a1 a2 a3 => by
      rw [hw, gl_si, h10, gl_si, c9.2.2.2 k i (by omega), cl k i a1 a2]
    have wc : ∀ k i, k < 272 → gi w k i = gi u7 k i := fun k i hk => by
      rw [hw, gi_si, if_neg (by omega), h10, gi_si, if_neg (by omega), c9.2.2.1 k i (by omega)]
    have wl : ∀ k i, k < 272 → gl w k i = gl u7 k i := fun k i hk => by
      rw [hw, gl_si, h10, gl_si, c9.2.2.2 k i (by omega)]
    refine ⟨rfl, ?_, ?_, ?_, ?_, ?_, ?_, fun t ht => ?_, ?_, ?_, ?_, ?_, ?_⟩
    · rw [wc 0 14 (by omega), h7, gi_at, hw, gi_at]
    · rw [el 0 15 (by omega) (by omega) (by omega), el 272 3 (by omega) (by omega) (by omega)]; exact I.tp
    · rw [el 0 16 (by omega) (by omega) (by omega), el 272 4 (by omega) (by omega) (by omega)]; exact I.bt
    · rw [ei 0 17 (by unfold cellI; omega) (by omega) (by omega) (by omega) (by omega) (by omega), ei 272 16 (by unfold cellI; omega) (by omega) (by omega) (by omega) (by omega) (by omega)]; exact I.fk
    · rw [ei 0 18 (by unfold cellI; omega) (by omega) (by omega) (by omega) (by omega) (by omega), ei 272 17 (by unfold cellI; omega) (by omega) (by omega) (by omega) (by omega) (by omega)]; exact I.fp
    · exact I.tap.cg (ei _ _ (by unfold cellI; omega) (by omega) (by omega) (by omega) (by omega) (by omega)) (ei _ _ (by unfold cellI; omega) (by omega) (by omega) (by omega) (by omega) (by omega)) (fun i => ei _ _ (by unfold cellI; omega) (by omega) (by omega) (by omega) (by omega) (by omega)) (fun i => ei _ _ (by unfold cellI; omega) (by omega) (by omega) (by omega) (by omega) (by omega))
    · exact (I.tra t ht).cg (fun i => ei _ _ (by unfold cellI; omega) (by omega) (by omega) (by omega) (by omega) (by omega)) (ei _ _ (by unfold cellI; omega) (by omega) (by omega) (by omega) (by omega) (by omega)) (ei _ _ (by unfold cellI; omega) (by omega) (by omega) (by omega) (by omega) (by omega)) (fun i => el _ _ (by omega) (by omega) (by omega)) (fun i _ => el _ _ (by omega) (by omega) (by omega))
    · exact I.lvd.cg (fun i => ei _ _ (by unfold cellI; omega) (by omega) (by omega) (by omega) (by omega) (by omega)) (ei _ _ (by unfold cellI; omega) (by omega) (by omega) (by omega) (by omega) (by omega)) (fun i => ei _ _ (by unfold cellI; omega) (by omega) (by omega) (by omega) (by omega) (by omega))
    · exact I.wrd.cg (ei _ _ (by unfold cellI; omega) (by omega) (by omega) (by omega) (by omega) (by omega)) (ei _ _ (by unfold cellI; omega) (by omega) (by omega) (by omega) (by omega) (by omega)) (fun i => el _ _ (by omega) (by omega) (by omega)) (fun i => el _ _ (by omega) (by omega) (by omega))
    · rw [ei 272 23 (by unfold cellI; omega) (by omega) (by omega) (by omega) (by omega) (by omega), ei 272 24 (by unfold cellI; omega) (by omega) (by omega) (by omega) (by omega) (by omega), ei 272 25 (by unfold cellI; omega) (by omega) (by omega) (by omega) (by omega) (by omega)]; exact I.md
    · refine ⟨n, by omega, ?_, ?_, fun j hj => ?_⟩
      · rw [wc 0 10 (by omega), h7, gi_si, if_neg (by omega), g5]
      · rw [hw, gi_si, if_neg (by omega), h10, gi_at]
      · obtain ⟨ρ, hρ⟩ := hm j (by omega)
        exact ⟨ρ, hρ.cg (fun k i a1 a2 => ei k i (by unfold cellI; omega) (by omega) (by omega) (by omega) (by omega) (by omega)) (fun k i a1 a2 => ei k i (by unfold cellI; omega) (by omega) (by omega) (by omega) (by omega) (by omega)) (fun i a1 a2 => ei 273 i (by unfold cellI; omega) (by omega) (by omega) (by omega) (by omega) (by omega)) (fun k i a1 => el k i (by omega) (by omega) (by omega)) (fun i a1 a2 => el 274 i (by omega) (by omega) (by omega))⟩
    · refine ⟨σ, S.copy ?_ (fun i hi => ?_) (fun i hi => ?_) (fun i hi => ?_) ?_ ?_ (fun k i k1 k2 hi => ?_) (fun i hi => ?_) (fun i hi => ?_)⟩
      · have L2 : LR (191 + 27 * n) σ u2 := by rw [h2]; exact L.w2 (by omega)
        refine (L2.cp ok c3).cg (fun f hf i => ?_)
        have := rl_o f hf
        rw [wc _ _ (by omega), h7, gi_si, if_neg (by omega), x5.1 _ _ (by omega)]
      · rw [wl _ _ (by omega), h7, gl_si, x5.2 _ _ (by omega), c3.2.1 i hi, h2, gl_si]
      · rw [wl _ _ (by omega), h7, gl_si, x5.2 _ _ (by omega), c3.2.2.1 i hi, h2, gl_si]
      · rw [wl _ _ (by omega), h7, gl_si, x5.2 _ _ (by omega), c3.2.2.2.1 i hi, h2, gl_si]
      · rw [wc _ _ (by omega), h7, gi_si, if_neg (by omega), c5.1, x3.1 _ _ (by unfold oLand; omega), h2, gi_si, if_neg (by omega)]
      · rw [wc _ _ (by omega), h7, gi_si, if_neg (by omega), c5.2.1, x3.1 _ _ (by unfold oLand; omega), h2, gi_si, if_neg (by omega)]
      · rw [wc _ _ (by omega), h7, gi_si, if_neg (by omega), c5.2.2.1 k i k1 k2 hi, x3.1 _ _ (by unfold oLand; omega), h2, gi_si, if_neg (by omega)]
      · have := c9.1 i hi
        rw [hw, gi_si, if_neg (by omega), h10, gi_si, if_neg (by omega), show 0 + i = 524 * 0 + i by omega, this, ci _ _ (by omega) (by omega) (by omega)]
      · have := c9.2.1 i hi
        rw [hw, gl_si, h10, gl_si, show 0 + i = 21 * 0 + i by omega, this, cl _ _ (by omega) (by omega)]
  · refine pj (pc := p_X10_undo u) (pr := p_X11_undo) I ok0 R0 (-1) 6 (fun Q hq => ?_) (fun u1 c1 R Q hq => ?_)
    · unfold p_X10_undo
      rw [e1, c0P (by omega)]
      exact ⟨fun z => absurd z h0, fun _ => k_none hq cq.rf⟩
    · unfold p_X11_undo
      rw [show gi u1 272 43 = nI n' from (c1.1 _ _ (by omega)).trans e2, cE0 (by omega)]
      exact ⟨fun z => absurd (by omega) z, fun _ => r_refuse hq rq.rf⟩
end MARKU
