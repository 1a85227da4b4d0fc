/-! ===== mean ===== -/
section MEAN
variable {K T N P : Nat → Nat} {L : Nat} {σ τ : aS} {c : cfg} {u u' u0 u1 : xM} {q : Nat → Nat}
theorem pjT2 {pc : (Bool → xM → Prop) → Prop} {pr : xM → (Bool → xM → Prop) → Prop} (I : INV u) (ok : okS σ) (hR : RS σ u) (t b : Int64) (hc : ∀ Q, (∀ u', cq u u' → Q true (si (sl (sl u' 0 15 t) 0 16 b) 0 14 0)) → pc Q) (hr : ∀ u1, RS σ u1 → (∀ i, i < 2096 → gi u1 273 i = gi u 273 i) → ∀ Q, (∀ u', rq u1 u' → Q true (si (sl (sl u' 272 3 t) 272 4 b) 272 2 0)) → pr u1 Q) : pc (fun r u1 => pr u1 (fun r' u2 => r = r' ∧ INV u2)) := by
  refine hc _ (fun u1 c1 => hr _ ?_ (fun i hi => by rw [gi_si, if_neg (by omega), gi_sl, gi_sl]; exact c1.1 273 i (by omega)) _ (fun u2 c2 => ⟨rfl, ?_⟩))
  · have h := hR.cq ok c1
    exact ⟨h.1.cg ok.r ok.d ok.e (fun i _ _ => by rw [gi_si, if_neg (by omega), gi_sl, gi_sl]), h.2.1.cg (by rw [gi_si, if_neg (by omega), gi_sl, gi_sl]) (by rw [gi_si, if_neg (by omega), gi_sl, gi_sl]), Eq.trans (by rw [gi_si, if_neg (by omega), gi_sl, gi_sl]) h.2.2⟩
  · have ei : ∀ k i, cellI k i → gi (si (sl (sl u2 272 3 t) 272 4 b) 272 2 0) k i = gi u k i := fun k i hk => by
      unfold cellI at hk
      have a1 : ¬ (k = 272 ∧ i = 2) := by omega
      have a2 : ¬ (k = 0 ∧ i = 14) := by omega
      have a3 := c2.1 k i (by omega)
      have a4 := c1.1 k i (by omega)
      clear hk
      rw [gi_si, if_neg a1, gi_sl, gi_sl, a3, gi_si, if_neg a2, gi_sl, gi_sl, a4]
    have el : ∀ k i, cellL k i → ¬ (k = 0 ∨ k = 272) → gl (si (sl (sl u2 272 3 t) 272 4 b) 272 2 0) k i = gl u k i := fun k i hk hn => by
      unfold cellL at hk
      have k1 : k ≠ 0 := by omega
      have k2 : k ≠ 272 := by omega
      have a3 := c2.2 k i (by omega)
      have a4 := c1.2 k i (by omega)
      clear hk
      rw [gl_si, gl_sl, if_neg (fun z => k2 z.1), gl_sl, if_neg (fun z => k2 z.1), a3, gl_si, gl_sl, if_neg (fun z => k1 z.1), gl_sl, if_neg (fun z => k1 z.1), a4]
    refine I.upT (fun k i hk => ei k i (cJI hk)) (fun k i hk hn => el k i (cML hk) hn) ?_ ?_ ?_ ?_
    · rw [gi_at, gi_si, if_neg (by omega), gi_sl, gi_sl, c2.1 0 14 (by omega), gi_at]
    · rw [gl_si, gl_sl, if_neg (by omega), gl_sl, if_neg (by omega), c2.2 0 15 (by omega), gl_si, gl_sl, if_neg (by omega), gl_sl, if_pos ⟨rfl, rfl⟩, gl_si, gl_sl, if_neg (by omega), gl_sl, if_pos ⟨rfl, rfl⟩]
    · rw [gl_si, gl_sl, if_neg (by omega), gl_sl, if_neg (by omega), c2.2 0 16 (by omega), gl_si, gl_sl, if_pos ⟨rfl, rfl⟩, gl_si, gl_sl, if_pos ⟨rfl, rfl⟩]
    · obtain ⟨ρ, hρ⟩ := I.sl
      exact ⟨ρ, hρ.cg (fun k i a1 a2 => ei k i (by unfold cellI; omega)) (fun k i a1 a2 => ei k i (by unfold cellI; omega)) (fun i a1 a2 => ei 273 i (by unfold cellI; omega)) (fun k i a1 => el k i (by unfold cellL; omega) (by omega)) (fun i a1 a2 => el 274 i (by unfold cellL; omega) (by omega))⟩
theorem sumI_69 {W : Nat → Nat} {n : Nat} (h : ∀ i, i < n → W i ≤ 69993) : 0 ≤ sumI (fun i => (W i : Int)) n ∧ sumI (fun i => (W i : Int)) n ≤ 69993 * n := by
  induction n with
  | zero => exact ⟨Int.le_refl _, Int.le_refl _⟩
  | succ n ih =>
    have e : sumI (fun i => (W i : Int)) (n + 1) = sumI (fun i => (W i : Int)) n + (W n : Int) := rfl
    have h1 := ih (fun i hi => h i (by omega))
    have h2 := h n (by omega)
    rw [e]
    omega
theorem K_mean (I : INV u) (a b : Int32) : p_X10_mean a b u (fun r u1 => p_X11_mean a b u1 (fun r' u2 => r = r' ∧ INV u2)) := by
  obtain ⟨σ, S, L0, ok, R⟩ := I.sp
  have h3 := okS.hour S
  have hp : σ 23 0 = 4095 := S.2.2.2.2.1
  have hT : okT σ σ := ⟨ok, h3, hp, rfl, rfl, rfl⟩
  rcases fromTo (a := a) 0 9999 (by decide) with ⟨s0, _, hs0, rfl⟩ | ha
  · rcases fromTo (a := b) 1 20 (by decide) with ⟨n, hn1, hn2, rfl⟩ | hb
    · have e1 : nI s0 + nI n - (1 : Int32) = nI (s0 + n - 1) := by rw [cA, l_1, cS (by omega)]
      by_cases hsn : s0 + n - 1 ≤ 9999
      · rcases S.2.2.2.2.2.2 with ⟨g1, g2, g3⟩ | ⟨L, K, T, N, P, g1, hL, g2, g3, g4, hB⟩
        · refine pj (pc := p_X10_mean (nI s0) (nI n) u) (pr := p_X11_mean (nI s0) (nI n)) I ok R false 6 (fun Q hq => ?_) (fun u1 c1 R Q hq => ?_)
          · unfold p_X10_mean
            refine k_withinT (lo := 0) (hi := 9999) rfl rfl (by omega) hs0 (by decide) ⟨fun z => absurd z (by decide), fun _ => k_withinT (lo := 1) (hi := 20) rfl rfl hn1 hn2 (by decide) ⟨fun z => absurd z (by decide), fun _ => ?_⟩⟩
            rw [e1, l_9999, cLE (by omega) (by omega), g1]
            exact ⟨fun _ => ⟨fun z => absurd rfl z, fun _ => k_refused hq cq.rf⟩, fun z => absurd hsn z⟩
          · unfold p_X11_mean
            refine r_fromT (lo := 0) (hi := 9999) (by decide) (by decide) (by omega) hs0 (by decide) ⟨fun z => absurd z (by decide), fun _ => r_fromT (lo := 1) (hi := 20) (by decide) (by decide) hn1 hn2 (by decide) ⟨fun z => absurd z (by decide), fun _ => ?_⟩⟩
            rw [e1, l_9999, cLE (by omega) (by omega), (r_at l_4 (by decide)).2, show gi u1 273 4 = -1 from (c1.1 _ _ (by omega)).trans g3]
            exact ⟨fun _ => ⟨(r_at l_4 (by decide)).1, fun z => absurd rfl z, fun _ => r_isF (by decide) hq rq.rf⟩, fun z => absurd hsn z⟩
        · have hN := g4.np
          have hC := g4.nc g2
          -- what each seed ends with
          have hex : ∀ i, ∃ w : Nat, ∀ m, L ≤ (itr K T N P L m (σ, qU (fun _ => 0) 7 (s0 + i), fun _ => 0)).2.1 0 → allW (itr K T N P L m (σ, qU (fun _ => 0) 7 (s0 + i), fun _ => 0)).1 = w := fun i => by
            by_cases z : ∃ m, L ≤ (itr K T N P L m (σ, qU (fun _ => 0) 7 (s0 + i), fun _ => 0)).2.1 0
            · obtain ⟨m, hm⟩ := z
              exact ⟨allW (itr K T N P L m (σ, qU (fun _ => 0) 7 (s0 + i), fun _ => 0)).1, fun m' hm' => by rw [itr_uniq hm' hm]⟩
            · exact ⟨0, fun m hm => absurd ⟨m, hm⟩ z⟩
          obtain ⟨W, hW⟩ := Classical.axiomOfChoice hex
          have hNR := g4.nr g3
          refine pjT2 (pc := p_X10_mean (nI s0) (nI n) u) (pr := p_X11_mean (nI s0) (nI n)) I ok R (tT (sumI (fun i => (W i : Int)) n) n) (tB (sumI (fun i => (W i : Int)) n) n) (fun Q hq => ?_) (fun u1 R h273 Q hq => ?_)
          · unfold p_X10_mean
            refine k_withinT (lo := 0) (hi := 9999) rfl rfl (by omega) hs0 (by decide) ⟨fun z => absurd z (by decide), fun _ => k_withinT (lo := 1) (hi := 20) rfl rfl hn1 hn2 (by decide) ⟨fun z => absurd z (by decide), fun _ => ?_⟩⟩
            rw [e1, l_9999, cLE (by omega) (by omega), g1]
            refine ⟨fun _ => ⟨fun _ => ?_, fun z => absurd z (by decide)⟩, fun z => absurd hsn z⟩
            refine xloop (fun m i (s : Int64 × xM) => p_X10_mean_L60 Q m (nI s0) (nI n) s.1 (nI i) s.2) (fun i s => s.1 = LI (sumI (fun i => (W i : Int)) i) ∧ (∀ j, j < i → W j ≤ 69993) ∧ LR 83 σ s.2 ∧ cq u s.2) n 0 (0, u) (Nat.zero_le _) ⟨L_0, fun j hj => by omega, L0, cq.rf⟩ ?_ ?_
            · intro m s hs
              have hsum := sumI_69 hs.2.1
              unfold p_X10_mean_L60
              rw [hs.1, nI_L (by omega)]
              refine ⟨fun _ => k_tell (by omega) (by omega) hn1 (by omega) ?_, fun c => absurd (by rw [cLE (by omega) (by omega)]; exact Nat.le_refl _) c⟩
              intro u9 h9
              rw [h9]
              exact hq s.2 hs.2.2.2
            · intro m i s _ hi hs kk
              have hsum := sumI_69 hs.2.1
              unfold p_X10_mean_L60
              rw [cA]
              refine ⟨fun c => absurd c (by rw [cLE (by omega) (by omega)]; omega), fun _ => k_asItIs hs.2.2.1 ok (fun u5 L5 L83 c5 => ?_)⟩
              have c5' := hs.2.2.2.tr c5
              have hC5 : NC 58 K T N P L u5 := by
                have e : ∀ k i, 58 ≤ k → k < 63 → gi u5 k i = gi u k i := fun k i a1 a2 => c5'.1 k i (by omega)
                refine ⟨(e 58 2 (by omega) (by omega)).trans hC.1, fun k hk => ?_⟩
                rw [e (58 + 1) k (by omega) (by omega), e (58 + 2) k (by omega) (by omega), e (58 + 3) k (by omega) (by omega), e (58 + 4) k (by omega) (by omega)]
                exact hC.2 k hk
              refine k_pass (ro := 48) (o2 := 110) (σ := σ) (Or.inr rfl) (Or.inr rfl) hB hN hL hT (by omega) hC5 L5 (fun u6 n6 hl6 P6 C6 _ f6 fl6 => ?_)
              have okd := P6.1.1
              have hw := hW i n6 hl6
              have hwb := allW_le okd
              rw [hw] at hwb
              refine k_allWater C6.1 okd (fun x9 h9 x10 h10 => ?_)
              rw [l_1, cA] at h10
              subst h10
              rw [hw, hs.1, nI_L (by omega), LI_add] at h9
              refine kk (x9, u6) ⟨h9, fun j hj => ?_, L83.cg (fun f hf b => f6 _ _ (by have := rl_o f hf; omega) (by have := rl_o f hf; omega) (by have := rl_o f hf; omega)), c5'.tr ⟨fun k j a => f6 k j (by omega) (by omega) (by omega), fun k j a => fl6 k j (by unfold hrP; omega)⟩⟩
              by_cases z : j = i
              · rw [z]; exact hwb
              · exact hs.2.1 j (by omega)
          · have Nv : NR K T N P L u1 := by
              refine ⟨(h273 4 (by omega)).trans hNR.1, fun k hk => ?_⟩
              rw [h273 (160 + 6 * k) (by omega), h273 (161 + 6 * k) (by omega), h273 (162 + 6 * k) (by omega), h273 (164 + 6 * k) (by omega), h273 (165 + 6 * k) (by omega)]
              exact hNR.2 k hk
            unfold p_X11_mean
            refine r_fromT (lo := 0) (hi := 9999) (by decide) (by decide) (by omega) hs0 (by decide) ⟨fun z => absurd z (by decide), fun _ => r_fromT (lo := 1) (hi := 20) (by decide) (by decide) hn1 hn2 (by decide) ⟨fun z => absurd z (by decide), fun _ => ?_⟩⟩
            rw [e1, l_9999, cLE (by omega) (by omega), (r_at l_4 (by decide)).2, Nv.1]
            refine ⟨fun _ => ⟨(r_at l_4 (by decide)).1, fun _ => ?_, fun z => absurd z (nI_ne_m1 (by omega))⟩, fun z => absurd hsn z⟩
            refine r_keeps (t := 2620) (by decide +kernel) (by decide) (by decide) (fun u14 x14 k14 s14 => ?_)
            refine xloop (fun m i (s : Int64 × xM) => p_X11_mean_L70 Q m (nI s0) (nI n) s.1 (nI i) s.2) (fun i s => s.1 = LI (sumI (fun i => (W i : Int)) i) ∧ (∀ j, j < i → W j ≤ 69993) ∧ rq u1 s.2 ∧ ∀ e, e < 160 → gi s.2 273 (2620 + e) = gi u1 273 e) n 0 (0, u14) (Nat.zero_le _) ⟨L_0, fun j hj => by omega, ⟨fun k i hk => ?_, fun k i hk => x14.2 k i (by omega)⟩, k14⟩ ?_ ?_
            · by_cases e : k = 273
              · subst e; exact s14 i (by omega)
              · exact x14.1 k i e
            · intro m s hs
              have hsum := sumI_69 hs.2.1
              unfold p_X11_mean_L70
              rw [hs.1, nI_L (by omega)]
              exact ⟨fun _ => r_tell (by omega) (by omega) hn1 (by omega) (hq s.2 hs.2.2.1), fun c => absurd (by rw [cLE (by omega) (by omega)]; exact Nat.le_refl _) c⟩
            · intro m i s _ hi hs kk
              have hsum := sumI_69 hs.2.1
              have q := hs.2.2.1
              have Ns : NR K T N P L s.2 := by
                have e : ∀ i, i < 2096 → gi s.2 273 i = gi u1 273 i := fun i hi => q.1 273 i (by omega)
                refine ⟨(e 4 (by omega)).trans Nv.1, fun k hk => ?_⟩
                rw [e (160 + 6 * k) (by omega), e (161 + 6 * k) (by omega), e (162 + 6 * k) (by omega), e (164 + 6 * k) (by omega), e (165 + 6 * k) (by omega)]
                exact Nv.2 k hk
              unfold p_X11_mean_L70
              rw [cA]
              refine ⟨fun c => absurd c (by rw [cLE (by omega) (by omega)]; omega), fun _ => r_lives hB hN hL hT (by omega) Ns (R.rq ok q) (fun u4 n4 hl4 P4 R4 C4 F4 => ?_)⟩
              have okd := P4.1.1
              have hw := hW i n4 hl4
              have hwb := allW_le okd
              rw [hw] at hwb
              refine r_allWater R4 okd (fun x7 h7 => r_restores (t := 2620) (by decide +kernel) (by decide) (by decide) (fun u8 x8 k8 s8 x9 h9 => ?_))
              rw [l_1, cA] at h9
              subst h9
              rw [hw, hs.1, nI_L (by omega), LI_add] at h7
              have f4 : ∀ e, 160 ≤ e → gi u4 273 e = gi s.2 273 e := fun e he => F4.1 273 e (by omega) (by omega) (by omega) (by omega) (by omega) (by omega)
              refine kk (x7, u8) ⟨h7, fun j hj => ?_, ⟨fun k j hk => ?_, fun k j hk => ?_⟩, fun e he => ?_⟩
              · by_cases z : j = i
                · rw [z]; exact hwb
                · exact hs.2.1 j (by omega)
              · by_cases e : k = 273
                · subst e
                  by_cases ej : j < 160
                  · rw [k8 j ej, f4 _ (by omega)]
                    exact hs.2.2.2 j ej
                  · rw [s8 j (by omega), f4 j (by omega)]
                    exact q.1 273 j (by omega)
                · rw [x8.1 k j e, F4.1 k j (by omega) (by omega) (by omega) (by omega) (by omega) (by omega)]
                  exact q.1 k j hk
              · rw [x8.2 k j (by omega), F4.2 k j (by omega) (by omega) (by omega)]
                exact q.2 k j hk
              · show gi u8 273 (2620 + e) = _
                rw [s8 _ (by omega), f4 _ (by omega)]
                exact hs.2.2.2 e he
      · refine pj (pc := p_X10_mean (nI s0) (nI n) u) (pr := p_X11_mean (nI s0) (nI n)) I ok R false 1 (fun Q hq => ?_) (fun u1 c1 R Q hq => ?_)
        · unfold p_X10_mean
          refine k_withinT (lo := 0) (hi := 9999) rfl rfl (by omega) hs0 (by decide) ⟨fun z => absurd z (by decide), fun _ => k_withinT (lo := 1) (hi := 20) rfl rfl hn1 hn2 (by decide) ⟨fun z => absurd z (by decide), fun _ => ?_⟩⟩
          rw [e1, l_9999, cLE (by omega) (by omega)]
          exact ⟨fun z => absurd z hsn, fun _ => k_refused hq cq.rf⟩
        · unfold p_X11_mean
          refine r_fromT (lo := 0) (hi := 9999) (by decide) (by decide) (by omega) hs0 (by decide) ⟨fun z => absurd z (by decide), fun _ => r_fromT (lo := 1) (hi := 20) (by decide) (by decide) hn1 hn2 (by decide) ⟨fun z => absurd z (by decide), fun _ => ?_⟩⟩
          rw [e1, l_9999, cLE (by omega) (by omega)]
          exact ⟨fun z => absurd z hsn, fun _ => r_isF (by decide) hq rq.rf⟩
    · refine pj (pc := p_X10_mean (nI s0) b u) (pr := p_X11_mean (nI s0) b) I ok R false 1 (fun Q hq => ?_) (fun u1 c1 R Q hq => ?_)
      · unfold p_X10_mean
        exact k_withinT (lo := 0) (hi := 9999) rfl rfl (by omega) hs0 (by decide) ⟨fun z => absurd z (by decide), fun _ => k_withinF (lo := 1) (hi := 20) rfl rfl hb (by decide) (by decide) ⟨fun _ => k_refused hq cq.rf, fun z => absurd z (by decide)⟩⟩
      · unfold p_X11_mean
        exact r_fromT (lo := 0) (hi := 9999) (by decide) (by decide) (by omega) hs0 (by decide) ⟨fun z => absurd z (by decide), fun _ => r_fromF (lo := 1) (hi := 20) (by decide) (by decide) hb (by decide) ⟨fun _ => r_isF (by decide) hq rq.rf, fun z => absurd z (by decide)⟩⟩
  · refine pj (pc := p_X10_mean a b u) (pr := p_X11_mean a b) I ok R false 1 (fun Q hq => ?_) (fun u1 c1 R Q hq => ?_)
    · unfold p_X10_mean
      exact k_withinF (lo := 0) (hi := 9999) rfl rfl ha (by decide) (by decide) ⟨fun _ => k_refused hq cq.rf, fun z => absurd z (by decide)⟩
    · unfold p_X11_mean
      exact r_fromF (lo := 0) (hi := 9999) (by decide) (by decide) ha (by decide) ⟨fun _ => r_isF (by decide) hq rq.rf, fun z => absurd z (by decide)⟩
end MEAN
