/-! ===== what marks each door would leave: print, suspects, prints, telling ===== -/
def mP (σ : aS) (d r : Nat) : Nat := hrsB (some (2 ^ d)) 12 (wpm σ (σ 0 0)) 9 r
section MARKS
variable {σ τ ρ : aS} {u u' u0 u1 : xM} {o o1 : Nat}
def PR (σ : aS) (n : Nat) (u : xM) : Prop := ∀ d, d < n → ∀ r, r < σ 0 0 → gi u (7 + d) r = nI (mP σ d r)
theorem mP_le (ok : okS σ) (h3 : σ 3 0 ≤ 9999) {d r : Nat} (hr : r < σ 0 0) : mP σ d r ≤ 9999 := by
  have h := hrsB_ok (md := some (2 ^ d)) (okS_wpm ok (σ 0 0)) 12 (by show σ 3 0 + 12 ≤ 20000; omega)
  have e0 : hrsB (some (2 ^ d)) 12 (wpm σ (σ 0 0)) 0 0 = σ 0 0 := hrsB_kept _ _ _ (by decide : kept 0) 0
  exact (h.rm (r := r) (by rw [e0]; exact hr)).2.2.2.2.2.2.2
theorem k_findPrints {Q : xM → Prop} (L : LR 83 σ u) (ok : okS σ) (hp : σ 23 0 = 4095) (h3 : σ 3 0 ≤ 9999) (hq : ∀ u', LR 83 σ u' → cq u u' → PR σ (σ 1 0) u' → Q u') : p_X6_findPrints 83 u Q := by
  have h10 := ok.d
  have h7 := ok.r
  unfold p_X6_findPrints
  refine xloop (fun m i (s : xM) => p_X6_findPrints_L2 83 Q m (nI i) s) (fun i s => LR 83 σ s ∧ cq u s ∧ PR σ i s) (σ 1 0) 0 u (Nat.zero_le _) ⟨L, cq.rf, fun d hd => by omega⟩ ?_ ?_
  · intro m s hs
    unfold p_X6_findPrints_L2
    rw [show gi s (83 + 9) 0 = nI (σ 1 0) from hs.1.f1]
    exact ⟨fun _ => hq s hs.1 hs.2.1 hs.2.2, fun c => absurd (by rw [cLE (by omega) (by omega)]; exact Nat.le_refl _) c⟩
  · intro m i s _ hi hs k
    have okw := okS_wpm ok (σ 0 0)
    unfold p_X6_findPrints_L2
    rw [show gi s (83 + 9) 0 = nI (σ 1 0) from hs.1.f1, bPOW (by omega)]
    refine ⟨fun c => absurd c (by rw [cLE (by omega) (by omega)]; omega), fun _ => k_copyFrom (by omega) (fun u1 c1 => k_wipeMarks (hs.1.cp ok c1) ok (fun u2 L2 x2 => k_openJust L2 (fun u3 L3 x3 => k_goOn (n := 12) L3 (okS_jd okw (p2lt hi)) (by rw [show jd (wpm σ (σ 0 0)) (2 ^ i) 3 = wpm σ (σ 0 0) 3 from jF_r (by decide) (by decide)]; show σ 3 0 + 12 ≤ 20000; omega) (fun u4 L4 x4 => ⟨cIN (by omega) (by decide), fun u8 h8 x9 h9 => ?_⟩))))⟩
    rw [l_1, cA] at h9
    subst h9
    rw [cCL (by omega)] at h8
    have L83 : LR 83 σ u4 := ((((hs.1.same (oLand 137) c1.2.2.2.2 (fun n hn => by unfold oLand; omega)).same _ x2 (fun n hn => by omega)).same _ x3 (fun n hn => by omega)).hr x4 (by omega))
    have c4 : cq s u4 := (((cq.xs c1.2.2.2.2 (fun k hk => by unfold oLand; omega)).tr (cq.xs x2 (fun k hk => by omega))).tr (cq.xs x3 (fun k hk => by omega))).tr (cq.xs x4 (fun k hk => by unfold hrP; omega))
    have same4 : ∀ k j, 5 ≤ k → k < 31 → gi u4 k j = gi s k j := fun k j h1 h2 => by
      rw [x4.1 k j (by unfold hrP; omega), x3.1 k j (by omega), x2.1 k j (by omega), c1.2.2.2.2.1 k j (by unfold oLand; omega)]
    refine k u8 ⟨?_, ?_, fun d hd r hr => ?_⟩
    · rw [h8]
      exact L83.cg (fun f hf b => by rw [gi_cpi, if_neg (by have := rl_o f hf; omega)])
    · rw [h8]
      exact hs.2.1.tr (c4.tr ⟨fun a b hab => by rw [gi_cpi, if_neg (by omega)], fun _ _ _ => rfl⟩)
    · rw [h8, gi_cpi]
      by_cases e : d = i
      · subst e
        rw [if_pos ⟨rfl, by omega, by omega⟩, show 0 + (r - 0) = r by omega]
        have e0 : jd (hrsB (some (2 ^ d)) 12 (wpm σ (σ 0 0))) (2 ^ d) 0 0 = σ 0 0 := by
          rw [show jd (hrsB (some (2 ^ d)) 12 (wpm σ (σ 0 0))) (2 ^ d) 0 = hrsB (some (2 ^ d)) 12 (wpm σ (σ 0 0)) 0 from jF_r (by decide) (by decide)]
          exact hrsB_kept _ _ _ (by decide : kept 0) 0
        rw [hrs_jd (show wpm σ (σ 0 0) 23 0 = 4095 from hp)] at L4
        have := L4.f9 (i := r) (by rw [e0]; exact hr)
        rw [show jd (hrsB (some (2 ^ d)) 12 (wpm σ (σ 0 0))) (2 ^ d) 9 = hrsB (some (2 ^ d)) 12 (wpm σ (σ 0 0)) 9 from jF_r (by decide) (by decide)] at this
        exact this
      · rw [if_neg (by omega), same4 _ _ (by omega) (by omega)]
        exact hs.2.2 d (by omega) r hr
theorem r_laysPrint {d : Nat} {Q : xM → Prop} (R : RS σ u) (ok : okS σ) (h3 : σ 3 0 ≤ 9999) (hd : d < σ 1 0) (hq : ∀ u', rq u u' → (∀ r, r < σ 0 0 → gi u' 285 r = nI (mP σ d r)) → (∀ i, gi u' 286 i = gi u 286 i) → Q u') : p_X11_laysPrint (nI d) u Q := by
  have h10 := ok.d
  have h7 := ok.r
  have hp10 := ok.p10
  have hd2 : 2 ^ d < 2 ^ σ 1 0 := p2lt hd
  have okw := okS_wpm ok (σ 0 0)
  have okn := hrsB_ok (md := some (2 ^ d)) okw 12 (by show σ 3 0 + 12 ≤ 20000; omega)
  have en : hrsB (some (2 ^ d)) 12 (wpm σ (σ 0 0)) 0 0 = σ 0 0 := hrsB_kept _ _ _ (by decide : kept 0) 0
  unfold p_X11_laysPrint
  refine r_keepsT rfl (fun u1 k1 x1 s1 u2 h2 => ?_)
  rw [bPOW (by omega)] at h2
  have R1 : RR 0 σ u2 := R.1.k ok (fun i hi => by rw [h2, gi_si, if_neg (by omega), s1 i hi])
  refine r_wipes R1 ok (fun u3 R3 g3 => r_goes (md := some (2 ^ d)) (n := 12) R3 okw (by show σ 3 0 + 12 ≤ 20000; omega) ⟨?_, by omega⟩ ?_ (fun u5 R5 g5 _ => ?_))
  · rw [g3.1.1 272 23 (by simp [gP]), h2, gi_at]
  · rw [g3.1.1 272 25 (by simp [gP]), h2, gi_si, if_neg (by omega), x1.1 272 25 (by omega)]; exact R.2.2
  have k5 : KT u u5 := by
    refine KT.g (KT.g ?_ g3) g5
    rw [h2]
    exact k1.w (by omega)
  have q5 : ∀ k i, (k = 272 ∧ i ≠ 23) ∨ k = 286 → gi u5 k i = gi u k i := fun k i hk => by
    rw [g5.1.1 k i (by simp only [gP]; omega), g3.1.1 k i (by simp only [gP]; omega), h2, gi_si, if_neg (by omega), x1.1 k i (by omega)]
  refine xloop (fun m i (w : xM) => p_X11_laysPrint_L28 Q m (nI i) w) (fun i w => RR 0 (hrsB (some (2 ^ d)) 12 (wpm σ (σ 0 0))) w ∧ KT u w ∧ (∀ k j, (k = 272 ∧ j ≠ 23) ∨ k = 286 → gi w k j = gi u k j) ∧ ∀ r, r < i → gi w 285 r = nI (mP σ d r)) (σ 0 0) 0 u5 (Nat.zero_le _) ⟨R5, k5, q5, fun r hr => by omega⟩ ?_ ?_
  · intro m w hw
    unfold p_X11_laysPrint_L28
    rw [(r_at l_0 (by decide)).2, hw.1.r0, en]
    refine ⟨(r_at l_0 (by decide)).1, fun _ u3' h3' => ?_, fun c => absurd (by rw [cLE (by omega) (by omega)]; exact Nat.le_refl _) c⟩
    refine r_restT rfl (by rw [h3']; exact hw.2.1.w (by omega)) (fun u4 k4 s4 x4 => hq u4 (KT.rq k4 s4 ⟨?_, ?_, ?_⟩ ⟨?_, ?_⟩) (fun r hr => ?_) (fun i => ?_))
    · rw [x4.1 272 23 (by omega), h3', gi_at, R.2.1.1]
    · rw [x4.1 272 24 (by omega), h3', gi_si, if_neg (by omega), hw.2.2.1 272 24 (by omega)]
    · rw [x4.1 272 25 (by omega), h3', gi_si, if_neg (by omega), hw.2.2.1 272 25 (by omega)]
    · rw [x4.1 272 26 (by omega), h3', gi_si, if_neg (by omega), hw.2.2.1 272 26 (by omega)]
    · rw [x4.1 272 27 (by omega), h3', gi_si, if_neg (by omega), hw.2.2.1 272 27 (by omega)]
    · rw [x4.1 285 r (by omega), h3', gi_si, if_neg (by omega), hw.2.2.2 r hr]
    · rw [x4.1 286 i (by omega), h3', gi_si, if_neg (by omega), hw.2.2.1 286 i (by omega)]
  · intro m i w _ hi hw kk
    unfold p_X11_laysPrint_L28
    rw [(r_at l_0 (by decide)).2, hw.1.r0, en]
    refine ⟨(r_at l_0 (by decide)).1, fun c => absurd c (by rw [cLE (by omega) (by omega)]; omega), fun _ => ?_⟩
    refine r_roomV (w := 6) (f := 9) (v := nI (mP σ d i)) hw.1 okn (by rw [en]; exact hi) rfl (by decide) (by decide) rfl (by simp [rk]; omega) rfl ⟨cIN (by omega) (by decide), fun u8 h8 x9 h9 => ?_⟩
    rw [l_1, cA] at h9
    subst h9
    rw [cCL (by omega)] at h8
    refine kk u8 ⟨hw.1.k okn (fun j _ => by rw [h8, gi_si, if_neg (by omega)]), by rw [h8]; exact hw.2.1.w (by omega), fun k j hk => by rw [h8, gi_si, if_neg (by omega)]; exact hw.2.2.1 k j hk, fun r hr => ?_⟩
    rw [h8, gi_si]
    by_cases e : r = i
    · rw [if_pos ⟨rfl, e⟩, e]
    · rw [if_neg (by omega)]; exact hw.2.2.2 r (by omega)
/-! print -/
theorem r_wp0 {t m : Nat} {Q : Int32 → xM → Prop} (ht : t < 4) (R : RS σ u) (ok : okS σ) (h : gi u 276 t = nI m) (hm : m ≤ 60) (hi : σ 0 0 ≤ m) (hq : Q 0 u) : p_X11_wrongPrint (nI t) u Q := by
  have h7 := ok.r
  unfold p_X11_wrongPrint
  refine r_trayT ht ⟨fun _ => ⟨cIN (by omega) (by decide), ?_⟩, fun z => absurd z (by decide)⟩
  rw [cCL (by omega), h, (r_at l_0 (by decide)).2, R.1.r0, cLE (by omega) (by omega)]
  exact ⟨fun _ => ⟨cIN (by omega) (by decide), (r_at l_0 (by decide)).1, fun _ => hq, fun z => absurd hi z⟩, fun z => absurd z (nI_ne_m1 (by omega))⟩
theorem r_wp3 {t m : Nat} {Q : Int32 → xM → Prop} (ht : t < 4) (R : RS σ u) (ok : okS σ) (h : gi u 276 t = nI m) (hm : m ≤ 60) (hi : m < σ 0 0) (hq : Q 3 u) : p_X11_wrongPrint (nI t) u Q := by
  have h7 := ok.r
  unfold p_X11_wrongPrint
  refine r_trayT ht ⟨fun _ => ⟨cIN (by omega) (by decide), ?_⟩, fun z => absurd z (by decide)⟩
  rw [cCL (by omega), h, (r_at l_0 (by decide)).2, R.1.r0, cLE (by omega) (by omega)]
  exact ⟨fun _ => ⟨cIN (by omega) (by decide), (r_at l_0 (by decide)).1, fun z => absurd z (by omega), fun _ => hq⟩, fun z => absurd z (nI_ne_m1 (by omega))⟩
theorem r_wp2 {t : Nat} {Q : Int32 → xM → Prop} (ht : t < 4) (h : gi u 276 t = -1) (hq : Q 2 u) : p_X11_wrongPrint (nI t) u Q := by
  unfold p_X11_wrongPrint
  refine r_trayT ht ⟨fun _ => ⟨cIN (by omega) (by decide), ?_⟩, fun z => absurd z (by decide)⟩
  rw [cCL (by omega), h]
  exact ⟨fun z => absurd rfl z, fun _ => hq⟩
theorem r_wp1 {a : Int32} {Q : Int32 → xM → Prop} (ht : ∀ t, t < 4 → a ≠ nI t) (hq : Q 1 u) : p_X11_wrongPrint a u Q := by
  unfold p_X11_wrongPrint
  exact r_trayF ht ⟨fun z => absurd z (by decide), fun _ => hq⟩
theorem K_print (I : INV u) (a b : Int32) : p_X10_print a b u (fun r u1 => p_X11_print a b u1 (fun r' u2 => r = r' ∧ INV u2)) := by
  obtain ⟨σ, S, L, ok, R⟩ := I.sp
  have h3 := okS.hour S
  have hp : σ 23 0 = 4095 := S.2.2.2.2.1
  have h7 := ok.r
  have h10 := ok.d
  rcases below (a := a) (σ 1 0) with ⟨d, hd, rfl⟩ | hd
  · rcases below (a := b) 4 with ⟨t, ht, rfl⟩ | hb
    · obtain ⟨s, hs, s1, s2, hm⟩ := I.tra t ht
      rcases hm with ⟨m1, m2⟩ | ⟨m, hm, m1, m2, m3⟩
      · refine pj (pc := p_X10_print (nI d) (nI t) u) (pr := p_X11_print (nI d) (nI t)) I ok R (-1) 2 (fun Q hq => ?_) (fun u1 c1 R Q hq => ?_)
        · unfold p_X10_print
          refine k_trayT ht ⟨fun z => (nomatch z), fun x ex => ?_⟩
          rw [← (Option.some.inj ex)]
          exact k_isDoorT L ok hd ⟨fun z => absurd z (by decide), fun _ => k_isMissingT m1 ⟨fun z => absurd z (by decide), fun _ => k_none hq cq.rf⟩⟩
        · unfold p_X11_print
          refine r_isDoorT R ok hd ⟨fun z => absurd z (by decide), fun _ => r_wp2 ht ((c1.1 _ _ (by omega)).trans m2) ?_⟩
          unfold p_X11_print_L17
          exact ⟨fun z => absurd z (by decide), fun _ => r_refuse hq rq.rf⟩
      · by_cases hn : σ 0 0 ≤ m
        · refine ptr (pc := p_X10_print (nI d) (nI t) u) (pr := p_X11_print (nI d) (nI t)) I (s := s) (m := m) (f := fun j => if j < σ 0 0 then cutL s (nI (mP σ d j)).toInt64 else gl u (51 + 2 * t) j) ht hs hm (nI (σ 0 0)) 0 (fun Q hq => ?_) (fun u1 c1 Q hq => ?_)
          · unfold p_X10_print
            refine k_trayT ht ⟨fun z => (nomatch z), fun x ex => ?_⟩
            rw [← (Option.some.inj ex)]
            refine k_isDoorT L ok hd ⟨fun z => absurd z (by decide), fun _ => k_isMissingF m1 (by omega) ⟨fun _ => ?_, fun z => absurd z (by decide)⟩⟩
            rw [show gi u 84 0 = nI (σ 0 0) from L.f0]
            refine k_hasRow (i := 0) m1 hm (by omega) (by omega) ?_
            rw [decide_eq_true (by omega)]
            refine ⟨fun _ => k_findPrints L ok hp h3 (fun u2 L2 c2 p2 => ?_), fun z => absurd z (by decide)⟩
            refine xloop (fun k i (w : xM) => p_X10_print_L75 Q k (nI d) (50 + 2 * t) (nI i) w) (fun i w => LR 83 σ w ∧ ct t u w ∧ PR σ (σ 1 0) w ∧ CTR t s m (fun j => if j < i then cutL s (nI (mP σ d j)).toInt64 else gl u (51 + 2 * t) j) w) (σ 0 0) 0 u2 (Nat.zero_le _) ⟨L2, ct.of c2, p2, (c2.1 _ _ (by omega)).trans s1, (c2.1 _ _ (by omega)).trans m1, fun j hj => by dsimp only; rw [if_neg (by omega), c2.2 _ _ (by omega)]⟩ ?_ ?_
            · intro k w hw
              unfold p_X10_print_L75
              rw [show gi w 84 0 = nI (σ 0 0) from hw.1.f0]
              refine ⟨fun _ => ?_, fun c => absurd (by rw [cLE (by omega) (by omega)]; exact Nat.le_refl _) c⟩
              intro u3 h3'
              exact hq u3 (by rw [h3']; exact hw.2.1.si (Or.inr ⟨rfl, rfl⟩) ht) ⟨by rw [h3', gi_si, if_neg (by omega)]; exact hw.2.2.2.1, by rw [h3', gi_si, if_neg (by omega)]; exact hw.2.2.2.2.1, fun j hj => by rw [h3']; exact hw.2.2.2.2.2 j hj⟩ (by rw [h3']; exact gi_at _ _ _ _)
            · intro k i w _ hi hw kk
              unfold p_X10_print_L75
              rw [show gi w 84 0 = nI (σ 0 0) from hw.1.f0, cCL (by omega), cCL (by omega), hw.2.2.1 d hd i hi]
              refine ⟨fun c => absurd c (by rw [cLE (by omega) (by omega)]; omega), fun _ => ⟨cIN (by omega) (by decide), cIN (by omega) (by decide), ?_⟩⟩
              unfold p_X9_put
              refine k_hasT hw.2.2.2.2.1 (by omega) (by omega) ⟨fun z => absurd z (by decide), fun _ => k_cut hw.2.2.2.1 hs ⟨cIN (by omega) (by decide), fun u7 h7' x8 h8 => ?_⟩⟩
              rw [l_1, cA] at h8
              subst h8
              rw [cCL (by omega), show 50 + 2 * t + 1 = 51 + 2 * t by omega] at h7'
              refine kk u7 ⟨?_, ?_, ?_, ?_, ?_, fun j hj => ?_⟩
              · rw [h7']; exact hw.1.cg (fun f hf b => rfl)
              · rw [h7']; exact hw.2.1.sl rfl ht
              · rw [h7']; exact hw.2.2.1
              · rw [h7']; exact hw.2.2.2.1
              · rw [h7']; exact hw.2.2.2.2.1
              · have hj2 := hw.2.2.2.2.2 j hj
                dsimp only at hj2 ⊢
                rw [h7', gl_sl]
                by_cases e : j = i
                · rw [if_pos ⟨rfl, e⟩, if_pos (by omega), e]
                · rw [if_neg (by omega), hj2]
                  by_cases e2 : j < i
                  · rw [if_pos e2, if_pos (by omega)]
                  · rw [if_neg e2, if_neg (by omega)]
          · have m2' := (c1.1 276 t (by omega)).trans m2
            have s2' := (c1.1 275 t (by omega)).trans s2
            have R : RS σ u1 := ⟨R.1.cg ok.r ok.d ok.e (fun i _ _ => c1.1 _ _ (by omega)), R.2.1.cg (c1.1 _ _ (by omega)) (c1.1 _ _ (by omega)), (c1.1 _ _ (by omega)).trans R.2.2⟩
            unfold p_X11_print
            refine r_isDoorT R ok hd ⟨fun z => absurd z (by decide), fun _ => r_wp0 ht R ok m2' hm hn ?_⟩
            unfold p_X11_print_L17
            refine ⟨fun _ => r_laysPrint R ok h3 hd (fun u2 q2 p2 _ => ?_), fun z => absurd (by decide) z⟩
            have R2 := R.rq ok q2
            refine xloop (fun k i (w : xM) => p_X11_print_L36 Q k (nI t) (nI i) w) (fun i w => RS σ w ∧ rt t u1 w ∧ (∀ r, r < σ 0 0 → gi w 285 r = nI (mP σ d r)) ∧ RTR t s m (fun j => if j < i then cutL s (nI (mP σ d j)).toInt64 else gl u (51 + 2 * t) j) w) (σ 0 0) 0 u2 (Nat.zero_le _) ⟨R2, rt.of q2, p2, (q2.1 _ _ (by omega)).trans s2', (q2.1 _ _ (by omega)).trans m2', fun j hj => by dsimp only; rw [if_neg (by omega), q2.2 _ _ (by omega), c1.2 _ _ (by omega), m3 j hj]⟩ ?_ ?_
            · intro k w hw
              unfold p_X11_print_L36
              rw [(r_at l_0 (by decide)).2, hw.1.1.r0]
              refine ⟨(r_at l_0 (by decide)).1, fun _ => ⟨(r_at l_0 (by decide)).1, ?_⟩, fun c => absurd (by rw [cLE (by omega) (by omega)]; exact Nat.le_refl _) c⟩
              intro u3 h3'
              exact hq u3 (by rw [h3']; exact hw.2.1.si (Or.inr ⟨rfl, rfl⟩)) ⟨by rw [h3', gi_si, if_neg (by omega)]; exact hw.2.2.2.1, by rw [h3', gi_si, if_neg (by omega)]; exact hw.2.2.2.2.1, fun j hj => by rw [h3']; exact hw.2.2.2.2.2 j hj⟩ (by rw [h3']; exact gi_at _ _ _ _)
            · intro k i w _ hi hw kk
              unfold p_X11_print_L36
              rw [(r_at l_0 (by decide)).2, hw.1.1.r0, cCL (by omega), cCL (by omega), hw.2.2.1 i hi, hw.2.2.2.1]
              refine ⟨(r_at l_0 (by decide)).1, fun c => absurd c (by rw [cLE (by omega) (by omega)]; omega), fun _ => ⟨cIN (by omega) (by decide), cIN (by omega) (by decide), r_cut hs ?_⟩⟩
              rw [l_60, cM, cA, cCL (by omega)]
              refine ⟨cIN (by omega) (by decide), fun u11 h11 x12 h12 => ?_⟩
              rw [l_1, cA] at h12
              subst h12
              refine kk u11 ⟨?_, ?_, ?_, ?_, ?_, fun j hj => ?_⟩
              · rw [h11]; exact ⟨hw.1.1.cg ok.r ok.d ok.e (fun _ _ _ => rfl), hw.1.2.1.cg rfl rfl, hw.1.2.2⟩
              · rw [h11]; exact hw.2.1.sl ⟨rfl, by omega, by omega⟩
              · rw [h11]; exact hw.2.2.1
              · rw [h11]; exact hw.2.2.2.1
              · rw [h11]; exact hw.2.2.2.2.1
              · have hj2 := hw.2.2.2.2.2 j hj
                dsimp only at hj2 ⊢
                rw [h11, gl_sl]
                by_cases e : j = i
                · rw [if_pos ⟨rfl, by omega⟩, if_pos (by omega), e]
                · rw [if_neg (by omega), hj2]
                  by_cases e2 : j < i
                  · rw [if_pos e2, if_pos (by omega)]
                  · rw [if_neg e2, if_neg (by omega)]
        · refine pj (pc := p_X10_print (nI d) (nI t) u) (pr := p_X11_print (nI d) (nI t)) I ok R (-1) 3 (fun Q hq => ?_) (fun u1 c1 R Q hq => ?_)
          · unfold p_X10_print
            refine k_trayT ht ⟨fun z => (nomatch z), fun x ex => ?_⟩
            rw [← (Option.some.inj ex)]
            refine k_isDoorT L ok hd ⟨fun z => absurd z (by decide), fun _ => k_isMissingF m1 (by omega) ⟨fun _ => ?_, fun z => absurd z (by decide)⟩⟩
            rw [show gi u 84 0 = nI (σ 0 0) from L.f0]
            refine k_hasRow (i := 0) m1 hm (by omega) (by omega) ?_
            rw [decide_eq_false (by omega)]
            exact ⟨fun z => absurd z (by decide), fun _ => k_none hq cq.rf⟩
          · unfold p_X11_print
            refine r_isDoorT R ok hd ⟨fun z => absurd z (by decide), fun _ => r_wp3 ht R ok ((c1.1 _ _ (by omega)).trans m2) hm (by omega) ?_⟩
            unfold p_X11_print_L17
            exact ⟨fun z => absurd z (by decide), fun _ => r_refuse hq rq.rf⟩
    · refine pj (pc := p_X10_print (nI d) b u) (pr := p_X11_print (nI d) b) I ok R (-1) 1 (fun Q hq => ?_) (fun u1 c1 R Q hq => ?_)
      · unfold p_X10_print
        exact k_trayF hb ⟨fun _ => k_isDoorT L ok hd ⟨fun z => absurd z (by decide), fun _ => k_none hq cq.rf⟩, fun _ ex => (nomatch ex)⟩
      · unfold p_X11_print
        refine r_isDoorT R ok hd ⟨fun z => absurd z (by decide), fun _ => r_wp1 hb ?_⟩
        unfold p_X11_print_L17
        exact ⟨fun z => absurd z (by decide), fun _ => r_refuse hq rq.rf⟩
  · refine pj (pc := p_X10_print a b u) (pr := p_X11_print a b) I ok R (-1) 1 (fun Q hq => ?_) (fun u1 c1 R Q hq => ?_)
    · unfold p_X10_print
      rcases below (a := b) 4 with ⟨t, ht, rfl⟩ | hb
      · exact k_trayT ht ⟨fun z => (nomatch z), fun _ _ => k_isDoorF L ok hd ⟨fun _ => k_none hq cq.rf, fun z => absurd z (by decide)⟩⟩
      · exact k_trayF hb ⟨fun _ => k_isDoorF L ok hd ⟨fun _ => k_none hq cq.rf, fun z => absurd z (by decide)⟩, fun _ ex => (nomatch ex)⟩
    · unfold p_X11_print
      refine r_isDoorF R ok hd ⟨fun _ => ?_, fun z => absurd z (by decide)⟩
      unfold p_X11_print_L17
      exact ⟨fun z => absurd z (by decide), fun _ => r_refuse hq rq.rf⟩
end MARKS
