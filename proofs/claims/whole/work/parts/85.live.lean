/-! ===== live, lived, mean ===== -/
section LIVEK
variable {K T N P : Nat → Nat} {L : Nat} {σ τ : aS} {c : cfg} {u u' u0 : xM} {q : Nat → Nat}
theorem NST.np (h : NST 58 0 L σ K T N P u) : NP K T N L σ := fun k hk => by
  have g := h k hk
  exact ⟨g.1, fun z => (g.2.2.2.1 z).2.2, fun z => (g.2.2.2.2.1 z).2.2, fun z => (g.2.2.2.2.2.1 z).2.2, fun z => (g.2.2.2.2.2.2.1 z).2.2, fun z => (g.2.2.2.2.2.2.2.2.1 z).2.2⟩
theorem NST.nc (h : NST 58 0 L σ K T N P u) (hL : gi u 58 2 = nI L) : NC 58 K T N P L u := ⟨hL, fun k hk => by
  have g := h k hk
  refine ⟨g.2.1, fun z => ?_, fun z => ?_, fun z => (g.2.2.2.2.2.2.2.2.2 z).1⟩
  · by_cases z0 : K k = 0
    · exact (g.2.2.2.1 z0).1
    · by_cases z1 : K k = 10
      · exact (g.2.2.2.2.2.2.2.2.1 z1).1
      · exact (g.2.2.2.2.2.2.1 (by omega)).1
  · by_cases z0 : K k = 1 ∨ K k = 2 ∨ K k = 6
    · exact (g.2.2.2.2.1 z0).1
    · exact (g.2.2.2.2.2.1 (by omega)).1⟩
theorem NST.nr (h : NST 58 0 L σ K T N P u) (hL : gi u 273 4 = nI L) : NR K T N P L u := ⟨hL, fun k hk => by
  have g := h k hk
  rw [Nat.zero_add, Nat.zero_add, Nat.zero_add, Nat.zero_add, Nat.zero_add] at g
  refine ⟨g.2.2.1, fun z => ?_, fun z => ?_, fun z => (g.2.2.2.2.2.2.1 z).2.1, fun z => g.2.2.2.2.2.2.2.1 z, fun z => (g.2.2.2.2.2.2.2.2.2 z).2⟩
  · by_cases z0 : K k = 0
    · exact (g.2.2.2.1 z0).2.1
    · exact (g.2.2.2.2.2.2.2.2.1 (by omega)).2.1
  · by_cases z0 : K k = 1 ∨ K k = 2 ∨ K k = 6
    · exact (g.2.2.2.2.1 z0).2.1
    · exact (g.2.2.2.2.2.1 (by omega)).2.1⟩
theorem K_lived (I : INV u) (a : Int32) : p_X10_lived a u (fun r u1 => p_X11_lived a u1 (fun r' u2 => r = r' ∧ INV u2)) := by
  obtain ⟨σ, S, L0, ok, R⟩ := I.sp
  rcases fromTo (a := a) 0 4 (by decide) with ⟨n, _, hn, rfl⟩ | ha
  · rcases I.lvd with ⟨h1, h2⟩ | ⟨h1, h2, h3⟩
    · refine pj (pc := p_X10_lived (nI n) u) (pr := p_X11_lived (nI n)) I ok R (-1) 6 (fun Q hq => ?_) (fun u1 c1 R Q hq => ?_)
      · unfold p_X10_lived
        refine k_withinT (lo := 0) (hi := 4) rfl rfl (by omega) hn (by decide) ⟨fun _ => ?_, fun z => absurd z (by decide)⟩
        rw [h1]
        exact ⟨fun z => absurd rfl z, fun _ => k_none hq cq.rf⟩
      · unfold p_X11_lived
        rw [show gi u1 272 42 = 0 from (c1.1 _ _ (by omega)).trans h2, l_4, cN0 (by omega), cLE (by omega) (by omega)]
        exact ⟨fun z => z.elim, fun _ => ⟨fun _ => ⟨fun _ => r_refuse hq rq.rf, fun z => absurd rfl z⟩, fun z => absurd hn z⟩⟩
    · refine pj (pc := p_X10_lived (nI n) u) (pr := p_X11_lived (nI n)) I ok R (gi u 46 (2 + n)) 0 (fun Q hq => ?_) (fun u1 c1 R Q hq => ?_)
      · unfold p_X10_lived
        refine k_withinT (lo := 0) (hi := 4) rfl rfl (by omega) hn (by decide) ⟨fun _ => ?_, fun z => absurd z (by decide)⟩
        rw [h1, show (nI n = 0) = (n = 0) from cE0 (by omega), show (nI n = 1) = (n = 1) from cEQ (b := 1) (by omega) (by omega), show (nI n = 2) = (n = 2) from cEQ (b := 2) (by omega) (by omega), show (nI n = 3) = (n = 3) from cEQ (b := 3) (by omega) (by omega)]
        refine ⟨fun _ => ⟨fun z => ?_, fun z => ?_, fun z => ?_, fun z => ?_, fun z0 z1 z2 z3 => ?_⟩, fun z => absurd z (by decide)⟩
        · subst z; exact k_fine hq cq.rf
        · subst z; exact k_fine hq cq.rf
        · subst z; exact k_fine hq cq.rf
        · subst z; exact k_fine hq cq.rf
        · have : n = 4 := by omega
          subst this; exact k_fine hq cq.rf
      · unfold p_X11_lived
        rw [show gi u1 272 42 = 1 from (c1.1 _ _ (by omega)).trans h2, l_4, cN0 (by omega), cLE (by omega) (by omega), cCL (by omega), show gi u1 289 n = gi u 46 (2 + n) from ((c1.1 _ _ (by omega)).trans (h3 n (by omega)).symm)]
        exact ⟨fun z => z.elim, fun _ => ⟨fun _ => ⟨fun z => absurd z (by decide), fun _ => ⟨cIN (by omega) (by decide), r_gives hq rq.rf⟩⟩, fun z => absurd hn z⟩⟩
  · refine pj (pc := p_X10_lived a u) (pr := p_X11_lived a) I ok R (-1) 1 (fun Q hq => ?_) (fun u1 c1 R Q hq => ?_)
    · unfold p_X10_lived
      exact k_withinF (lo := 0) (hi := 4) rfl rfl ha (by decide) (by decide) ⟨fun z => absurd z (by decide), fun _ => k_none hq cq.rf⟩
    · unfold p_X11_lived
      refine ⟨fun _ => r_refuse hq rq.rf, fun c => ⟨fun z => ?_, fun _ => r_refuse hq rq.rf⟩⟩
      have h := rngG (n := 4) (fun r hr => ha r (by omega) hr) (by decide) c
      rw [← l_4, Int32.lt_iff_toInt_lt] at h
      rw [Int32.le_iff_toInt_le] at z
      omega
theorem K_live (I : INV u) (a : Int32) : p_X10_live a u (fun r u1 => p_X11_live a u1 (fun r' u2 => r = r' ∧ INV u2)) := by
  obtain ⟨σ, S, L0, ok, R⟩ := I.sp
  have h3 := okS.hour S
  have hp : σ 23 0 = 4095 := S.2.2.2.2.1
  have hT : okT σ σ := ⟨ok, h3, hp, rfl, rfl, rfl⟩
  rcases fromTo (a := a) 0 9999 (by decide) with ⟨s0, _, hs0, rfl⟩ | ha
  · rcases S.2.2.2.2.2.2 with ⟨g1, g2, g3⟩ | ⟨L, K, T, N, P, g1, hL, g2, g3, g4, hB⟩
    · refine pj (pc := p_X10_live (nI s0) u) (pr := p_X11_live (nI s0)) I ok R (-1) 6 (fun Q hq => ?_) (fun u1 c1 R Q hq => ?_)
      · unfold p_X10_live
        refine k_withinT (lo := 0) (hi := 9999) rfl rfl (by omega) hs0 (by decide) ⟨fun _ => ?_, fun z => absurd z (by decide)⟩
        rw [g1]
        exact ⟨fun z => absurd rfl z, fun _ => k_none hq cq.rf⟩
      · unfold p_X11_live
        refine r_fromT (lo := 0) (hi := 9999) (by decide) (by decide) (by omega) hs0 (by decide) ⟨fun _ => ?_, fun z => absurd z (by decide)⟩
        rw [(r_at l_4 (by decide)).2, show gi u1 273 4 = -1 from (c1.1 _ _ (by omega)).trans g3]
        exact ⟨(r_at l_4 (by decide)).1, fun z => absurd rfl z, fun _ => r_refuse hq rq.rf⟩
    · have hN := g4.np
      have hC := g4.nc g2
      unfold p_X10_live
      refine k_withinT (lo := 0) (hi := 9999) rfl rfl (by omega) hs0 (by decide) ⟨fun _ => ?_, fun z => absurd z (by decide)⟩
      rw [g1]
      refine ⟨fun _ => k_pass (σ := σ) (Or.inl rfl) (Or.inl rfl) hB hN hL hT hs0 hC L0 (fun u5 n hl P5 C5 p5 f5 fl5 => ?_), fun z => absurd z (by decide)⟩
      rw [C5.2.1 1 (by omega) (by omega)]
      intro v1 e1
      have ci : ∀ k i, k ≠ 46 → k ≠ 47 → ¬ (83 ≤ k ∧ k < 110) → ¬ (k = 0 ∧ i = 14) → gi v1 k i = gi u k i := fun k i a1 a2 a3 a4 => by
        rw [e1, gi_si, if_neg a4, f5 k i a1 a2 (by omega)]
      have cl : ∀ k i, hrP 83 k → gl v1 k i = gl u k i := fun k i h => by rw [e1, gl_si, fl5 k i h]
      have Rv : RS σ v1 := ⟨R.1.cg ok.r ok.d ok.e (fun i _ _ => ci _ _ (by omega) (by omega) (by omega) (by omega)), R.2.1.cg (ci _ _ (by omega) (by omega) (by omega) (by omega)) (ci _ _ (by omega) (by omega) (by omega) (by omega)), (ci _ _ (by omega) (by omega) (by omega) (by omega)).trans R.2.2⟩
      have Nv : NR K T N P L v1 := by
        have h := g4.nr g3
        have e : ∀ i, gi v1 273 i = gi u 273 i := fun i => ci _ _ (by omega) (by omega) (by omega) (by omega)
        refine ⟨(e 4).trans h.1, fun k hk => ?_⟩
        rw [e, e, e, e, e]
        exact h.2 k hk
      dsimp only
      unfold p_X11_live
      refine r_fromT (lo := 0) (hi := 9999) (by decide) (by decide) (by omega) hs0 (by decide) ⟨fun _ => ?_, fun z => absurd z (by decide)⟩
      rw [(r_at l_4 (by decide)).2, Nv.1]
      refine ⟨(r_at l_4 (by decide)).1, fun _ => ?_, fun z => absurd z (nI_ne_m1 (by omega))⟩
      refine r_lives hB hN hL hT hs0 Nv Rv (fun u6 n' hl' _ R6 C6 F6 => ?_)
      rw [itr_uniq hl' hl] at R6 C6
      generalize itr K T N P L n (σ, qU (fun _ => 0) 7 s0, fun _ => 0) = d at P5 C5 R6 C6
      refine xloop (fun m i (w : xM) => p_X11_live_L42 (fun r' u2 => nI (d.2.1 1) = r' ∧ INV u2) m (nI i) w) (fun i w => (∀ j, j < i → gi w 289 j = nI (d.2.1 (j + 2))) ∧ (∀ k j, k ≠ 289 → gi w k j = gi u6 k j) ∧ ∀ k j, gl w k j = gl u6 k j) 5 0 u6 (Nat.zero_le _) ⟨fun j hj => by omega, fun _ _ _ => rfl, fun _ _ => rfl⟩ ?_ ?_
      · intro m w hw
        unfold p_X11_live_L42
        refine ⟨fun _ u2 h2 => ?_, fun z => absurd (by decide) z⟩
        rw [show gi u2 272 38 = nI (d.2.1 1) by rw [h2, gi_si, if_neg (by omega), hw.2.1 272 38 (by omega)]; exact C6.2.1]
        intro v2 e2
        have wi : ∀ k i, k ≠ 289 → ¬ (k = 272 ∧ (i = 42 ∨ i = 2)) → gi v2 k i = gi u6 k i := fun k i a1 a2 => by
          rw [e2, gi_si, if_neg (by omega), h2, gi_si, if_neg (by omega), hw.2.1 k i a1]
        have wl : ∀ k i, gl v2 k i = gl u6 k i := fun k i => by rw [e2, h2]; exact hw.2.2 k i
        have ei : ∀ k i, k ≠ 289 → k ≠ 46 → k ≠ 47 → ¬ (83 ≤ k ∧ k < 110) → ¬ (k = 0 ∧ i = 14) → ¬ (k = 272 ∧ (i = 42 ∨ i = 2 ∨ i = 37 ∨ i = 38)) → ¬ (k = 273 ∧ i < 160 ∧ i ≠ 4) → k ≠ 281 → k ≠ 282 → k ≠ 287 → k ≠ 288 → gi v2 k i = gi u k i := fun k i b1 b2 b3 b4 b5 b6 b7 b8 b9 b10 b11 => by
          rw [wi k i b1 (by omega), F6.1 k i b7 b8 b9 b10 b11 (by omega), ci k i b2 b3 b4 b5]
        have el : ∀ k i, hrP 83 k → k ≠ 273 → k ≠ 281 → k ≠ 282 → gl v2 k i = gl u k i := fun k i b1 b2 b3 b4 => by
          rw [wl, F6.2 k i b2 b3 b4, cl k i b1]
        have lo : ∀ k i, k < 272 → gi v2 k i = gi v1 k i := fun k i hk => by
          rw [wi k i (by omega) (by omega), F6.1 k i (by omega) (by omega) (by omega) (by omega) (by omega) (by omega)]
        refine ⟨rfl, ?_, ?_, ?_, ?_, ?_, ?_, fun t ht => ?_, ?_, ?_, ?_, ?_, ?_⟩
        · rw [lo 0 14 (by omega), e1, gi_at, e2, gi_at]
        · rw [el 0 15 (by unfold hrP; omega) (by omega) (by omega) (by omega), el 272 3 (by unfold hrP; omega) (by omega) (by omega) (by omega)]; exact I.tp
        · rw [el 0 16 (by unfold hrP; omega) (by omega) (by omega) (by omega), el 272 4 (by unfold hrP; omega) (by omega) (by omega) (by omega)]; exact I.bt
        · rw [ei 0 17 (by omega) (by omega) (by omega) (by omega) (by omega) (by omega) (by omega) (by omega) (by omega) (by omega) (by omega), ei 272 16 (by omega) (by omega) (by omega) (by omega) (by omega) (by omega) (by omega) (by omega) (by omega) (by omega) (by omega)]; exact I.fk
        · rw [ei 0 18 (by omega) (by omega) (by omega) (by omega) (by omega) (by omega) (by omega) (by omega) (by omega) (by omega) (by omega), ei 272 17 (by omega) (by omega) (by omega) (by omega) (by omega) (by omega) (by omega) (by omega) (by omega) (by omega) (by omega)]; exact I.fp
        · exact I.tap.cg (ei _ _ (by omega) (by omega) (by omega) (by omega) (by omega) (by omega) (by omega) (by omega) (by omega) (by omega) (by omega)) (ei _ _ (by omega) (by omega) (by omega) (by omega) (by omega) (by omega) (by omega) (by omega) (by omega) (by omega) (by omega)) (fun i => ei _ _ (by omega) (by omega) (by omega) (by omega) (by omega) (by omega) (by omega) (by omega) (by omega) (by omega) (by omega)) (fun i => ei _ _ (by omega) (by omega) (by omega) (by omega) (by omega) (by omega) (by omega) (by omega) (by omega) (by omega) (by omega))
        · exact (I.tra t ht).cg (fun i => ei _ _ (by omega) (by omega) (by omega) (by omega) (by omega) (by omega) (by omega) (by omega) (by omega) (by omega) (by omega)) (ei _ _ (by omega) (by omega) (by omega) (by omega) (by omega) (by omega) (by omega) (by omega) (by omega) (by omega) (by omega)) (ei _ _ (by omega) (by omega) (by omega) (by omega) (by omega) (by omega) (by omega) (by omega) (by omega) (by omega) (by omega)) (fun i => el _ _ (by unfold hrP; omega) (by omega) (by omega) (by omega)) (fun i _ => el _ _ (by unfold hrP; omega) (by omega) (by omega) (by omega))
        · refine Or.inr ⟨?_, ?_, fun i hi => ?_⟩
          · rw [lo 46 0 (by omega), e1, gi_si, if_neg (by omega)]; exact p5
          · rw [e2, gi_si, if_neg (by omega), h2, gi_at]
          · rw [lo 46 _ (by omega), e1, gi_si, if_neg (by omega), C5.2.1 (2 + i) (by omega) (by omega), e2, gi_si, if_neg (by omega), h2, gi_si, if_neg (by omega), hw.1 i hi, Nat.add_comm]
        · exact I.wrd.cg (ei _ _ (by omega) (by omega) (by omega) (by omega) (by omega) (by omega) (by omega) (by omega) (by omega) (by omega) (by omega)) (ei _ _ (by omega) (by omega) (by omega) (by omega) (by omega) (by omega) (by omega) (by omega) (by omega) (by omega) (by omega)) (fun i => el _ _ (by unfold hrP; omega) (by omega) (by omega) (by omega)) (fun i => el _ _ (by unfold hrP; omega) (by omega) (by omega) (by omega))
        · rw [ei 272 23 (by omega) (by omega) (by omega) (by omega) (by omega) (by omega) (by omega) (by omega) (by omega) (by omega) (by omega), ei 272 24 (by omega) (by omega) (by omega) (by omega) (by omega) (by omega) (by omega) (by omega) (by omega) (by omega) (by omega), ei 272 25 (by omega) (by omega) (by omega) (by omega) (by omega) (by omega) (by omega) (by omega) (by omega) (by omega) (by omega)]; exact I.md
        · exact I.mks.cg (ei _ _ (by omega) (by omega) (by omega) (by omega) (by omega) (by omega) (by omega) (by omega) (by omega) (by omega) (by omega)) (ei _ _ (by omega) (by omega) (by omega) (by omega) (by omega) (by omega) (by omega) (by omega) (by omega) (by omega) (by omega)) (fun k i h => ei _ _ (by omega) (by omega) (by omega) (by omega) (by omega) (by omega) (by omega) (by omega) (by omega) (by omega) (by omega)) (fun i h1 h2 => ei _ _ (by omega) (by omega) (by omega) (by omega) (by omega) (by omega) (by omega) (by omega) (by omega) (by omega) (by omega)) (fun k i h1 h2 => el _ _ (by unfold hrP; omega) (by omega) (by omega) (by omega)) (fun i h1 h2 => el _ _ (by unfold hrP; omega) (by omega) (by omega) (by omega))
        · have okd := P5.1.1
          refine ⟨d.1, S.up P5.1 ?_ ?_ (fun k i b1 b2 => ei _ _ (by omega) (by omega) (by omega) (by omega) (by omega) (by omega) (by omega) (by omega) (by omega) (by omega) (by omega)) (fun i h => ei _ _ (by omega) (by omega) (by omega) (by omega) (by omega) (by omega) (by omega) (by omega) (by omega) (by omega) (by omega)) (fun k i h => el _ _ (by unfold hrP; omega) (by omega) (by omega) (by omega)) (fun i h => el _ _ (by unfold hrP; omega) (by omega) (by omega) (by omega))⟩
          · exact C5.1.cg (fun f hf b => by rw [lo _ _ (by have := rl_o f hf; omega), e1, gi_si, if_neg (by have := rl_o f hf; omega)])
          · exact R6.cg okd.r okd.d okd.e (fun i _ _ => wi _ _ (by omega) (by omega))
      · intro m i w _ hi hw kk
        unfold p_X11_live_L42
        rw [cCL (by omega)]
        refine ⟨fun z => absurd z (by rw [l_5, cLE (by omega) (by omega)]; omega), fun _ => ⟨cIN (by omega) (by decide), cIN (by omega) (by decide), fun u7 h7 x8 h8 => ?_⟩⟩
        rw [l_1, cA] at h8
        subst h8
        refine kk u7 ⟨fun j hj => ?_, fun k j hk => by rw [h7, gi_si, if_neg (fun z => hk z.1)]; exact hw.2.1 k j hk, fun k j => by rw [h7]; exact hw.2.2 k j⟩
        rw [h7, gi_si]
        by_cases z : j = i
        · rw [if_pos ⟨rfl, z⟩, z, hw.2.1 288 i (by omega)]
          exact C6.2.2 i (by omega)
        · rw [if_neg (fun y => z y.2)]; exact hw.1 j (by omega)
  · refine pj (pc := p_X10_live a u) (pr := p_X11_live a) I ok R (-1) 1 (fun Q hq => ?_) (fun u1 c1 R Q hq => ?_)
    · unfold p_X10_live
      exact k_withinF (lo := 0) (hi := 9999) rfl rfl ha (by decide) (by decide) ⟨fun z => absurd z (by decide), fun _ => k_none hq cq.rf⟩
    · unfold p_X11_live
      exact r_fromF (lo := 0) (hi := 9999) (by decide) (by decide) ha (by decide) ⟨fun z => absurd z (by decide), fun _ => r_refuse hq rq.rf⟩
end LIVEK
