/-! ===== bestHour ===== -/
section BHOUR
variable {σ τ ρ : aS} {u u' u0 u1 : xM} {o o1 : Nat}
theorem RR.toJ (R : RR 0 σ u) : RR 0 (jF σ (σ 19) (fun _ => σ 20 0)) u := by
  have same : ∀ f i, ¬ (f = 20 ∧ i ≠ 0) → jF σ (σ 19) (fun _ => σ 20 0) f i = σ f i := fun f i hn => by
    rw [jF_at]
    by_cases e : f = 20
    · rw [if_pos e, e, show i = 0 by omega]
    · rw [if_neg e]
      by_cases e2 : f = 19
      · rw [if_pos e2, e2]
      · rw [if_neg e2]
  refine R.eq (same 0 0 (by omega)) (same 1 0 (by omega)) (same 2 0 (by omega)) (fun f _ i _ => ?_)
  unfold rv
  rw [same f 0 (by omega)]
  by_cases e : f = 20
  · subst e
    rw [if_neg (by decide), if_neg (by decide), if_pos (by decide), if_neg (by decide), if_neg (by decide), if_pos (by decide)]
  · have er : rotD (jF σ (σ 19) (fun _ => σ 20 0)) i = rotD σ i := by
      unfold rotD
      exact mk_congr (fun h _ => by rw [same 19 h (by omega)])
    rw [same f i (by omega), er]
theorem pk_some {W : Nat → Nat} (h : W 0 < 1000000) (n : Nat) : ∃ b, pkO (bL W) (n + 1) = some b ∧ b < n + 1 := by
  induction n with
  | zero =>
    refine ⟨0, ?_, by omega⟩
    rw [pkO_s]
    have : bL W 0 (pkO (bL W) 0) = true := by
      unfold bL
      exact decide_eq_true h
    rw [this]
    rfl
  | succ n ih =>
    obtain ⟨b, hb, hb2⟩ := ih
    rw [pkO_s]
    split
    · exact ⟨n + 1, rfl, by omega⟩
    · exact ⟨b, hb, by omega⟩
theorem xb_if (b : Bool) : xb b = nI (if b then 1 else 0) := by
  cases b <;> rfl
theorem K_bestHour (I : INV u) (a : Int32) : p_X10_bestHour a u (fun r u1 => p_X11_bestHour a u1 (fun r' u2 => r = r' ∧ INV u2)) := by
  obtain ⟨σ, S, L, ok, R⟩ := I.sp
  have h3 := okS.hour S
  have hp : σ 23 0 = 4095 := S.2.2.2.2.1
  have h10 := ok.d
  have hp10 := ok.p10
  rcases below (a := a) (σ 1 0) with ⟨d, hd, rfl⟩ | hd
  · generalize hW : (fun h => allW (hJ (bhG σ d h) 12 σ)) = W
    have hWh : ∀ h, allW (hJ (bhG σ d h) 12 σ) = W h := fun h => by rw [← hW]
    have hWb : ∀ h, W h < 1000000 := fun h => by
      have h1 := allW_le (hJ_ok (bhG σ d h) ok 12 (by omega))
      rw [hWh] at h1
      omega
    obtain ⟨b0, hb0, hb1⟩ := pk_some (hWb 0) 11
    refine pj (pc := p_X10_bestHour (nI d) u) (pr := p_X11_bestHour (nI d)) I ok R (nI b0) 0 (fun Q hq => ?_) (fun u1 c1 R Q hq => ?_)
    · unfold p_X10_bestHour
      refine k_isDoorT L ok hd ⟨fun _ => ?_, fun z => absurd z (by decide)⟩
      refine xloop (fun m i (s : Int32 × Int32 × xM) => p_X10_bestHour_L23 Q m (nI d) s.1 s.2.1 (nI i) s.2.2) (fun i s => s.1 = nI ((pkO (bL W) i).getD 0) ∧ s.2.1 = nI (lO W (pkO (bL W) i)) ∧ cq u s.2.2 ∧ LR 83 σ s.2.2) 12 0 (0, 1000000, u) (Nat.zero_le _) ⟨rfl, l_1000000, cq.rf, L⟩ ?_ ?_
      · intro m s hs
        unfold p_X10_bestHour_L23
        rw [hs.1, hb0]
        exact ⟨fun _ => k_fine hq hs.2.2.1, fun c => absurd (by decide) c⟩
      · intro m i s _ hi hs k
        have cmp := lO_c (W := W) (a := pkO (bL W) i) (r := i) (fun b _ => hWb b) (hWb i)
        have lob : lO W (pkO (bL W) i) < 2147483648 := by
          cases pkO (bL W) i with
          | none => show 1000000 < 2147483648; omega
          | some b => have := hWb b; show W b < 2147483648; omega
        unfold p_X10_bestHour_L23
        refine ⟨fun c => absurd c (by rw [l_12, cLE (by omega) (by omega)]; omega), fun _ => k_asItIs hs.2.2.2 ok (fun u4 L4 L83 c4 u5 h5 => ⟨cIN (by omega) (by decide), cIN (by omega) (by decide), fun u8 h8 => ?_⟩)⟩
        have hlt : σ 20 0 < 4294967296 := by have := ok.held; omega
        rw [show gi u4 119 1 = nI (σ 20 0) from L4.f20, bPOW (by omega), bNOT hlt] at h5
        have L5 : LR 110 (sU σ 20 0 (ndf (σ 20 0) (2 ^ d))) u5 := by
          rw [h5]
          exact L4.up (f := 20) (i := 0) (by decide) (by decide) (by decide) (by decide) (by simp [rlN]) rfl rfl rfl
        rw [cCL (by omega), show gi u5 126 i = nI (σ 19 i) from L5.f19 (by omega), bPOW (by omega), bOR] at h8
        have L8 : LR 110 (sU (sU σ 20 0 (ndf (σ 20 0) (2 ^ d))) 19 i (σ 19 i ||| 2 ^ d)) u8 := by
          rw [h8]
          exact L5.up (f := 19) (i := i) (by decide) (by decide) (by decide) (by decide) (by simpa [rlN] using hi) rfl rfl (by simp [rlS])
        have LJ : LR 110 (jF σ (fun k => if k = i then σ 19 k ||| 2 ^ d else σ 19 k) (fun _ => ndf (σ 20 0) (2 ^ d))) u8 := by
          have same : ∀ f j, ¬ (f = 20 ∧ j ≠ 0) → jF σ (fun k => if k = i then σ 19 k ||| 2 ^ d else σ 19 k) (fun _ => ndf (σ 20 0) (2 ^ d)) f j = sU (sU σ 20 0 (ndf (σ 20 0) (2 ^ d))) 19 i (σ 19 i ||| 2 ^ d) f j := fun f j hn => by
            rw [jF_at, sU_at, sU_at]
            by_cases e : f = 20
            · subst e
              rw [if_pos rfl, if_neg (by omega), if_pos ⟨rfl, by omega⟩]
            · rw [if_neg e, if_neg (c := f = 20 ∧ j = 0) (fun z => e z.1)]
              by_cases e2 : f = 19
              · subst e2
                rw [if_pos rfl]
                by_cases e3 : j = i
                · subst e3
                  rw [if_pos rfl, if_pos ⟨rfl, rfl⟩]
                · rw [if_neg e3, if_neg (fun z => e3 z.2)]
              · rw [if_neg e2, if_neg (fun z => e2 z.1)]
          refine L8.eq (same 0 0 (by omega)) (same 1 0 (by omega)) (same 2 0 (by omega)) (fun f _ j hj => same f j (fun z => ?_))
          obtain ⟨rfl, z⟩ := z
          have : j < 1 := by simpa [rlN] using hj
          omega
        have cc : cq u u8 := by rw [h8, h5]; exact ((hs.2.2.1.tr c4).w (by omega)).w (by omega)
        have L3 : LR 83 σ u8 := by rw [h8, h5]; exact (L83.w2 (by omega)).w2 (by omega)
        have okJ : okS (jF σ (fun k => if k = i then σ 19 k ||| 2 ^ d else σ 19 k) (fun _ => ndf (σ 20 0) (2 ^ d))) := okS_jF ok (fun k hk => by
          show (if k = i then σ 19 k ||| 2 ^ d else σ 19 k) < 2 ^ σ 1 0
          split
          · exact or_lt2 (ok.hr hk).2 (p2lt hd)
          · exact (ok.hr hk).2) (Nat.lt_of_le_of_lt (ndf_le _ _) ok.held)
        refine k_waterIn (n := 12) LJ okJ (by rw [jF_r (f := 3) (by decide) (by decide)]; omega) (fun u9 _ x9 => ?_)
        rw [hrs_J hp, allW_jF, show (fun k => (fun _ => ndf (σ 20 0) (2 ^ d)) 0 ||| (fun k => if k = i then σ 19 k ||| 2 ^ d else σ 19 k) k) = bhG σ d i from rfl, hWh, hs.2.1, cmp.1]
        refine ⟨fun c x hx => ?_, fun c x hx => ?_⟩
        · rw [l_1, cA] at hx
          subst hx
          have e : pkO (bL W) (i + 1) = pkO (bL W) i := by rw [pkO_s, if_neg (by rw [c]; decide)]
          exact k (s.1, nI (lO W (pkO (bL W) i)), u9) ⟨by rw [e]; exact hs.1, by rw [e], cc.hr x9, L3.hr x9 (by omega)⟩
        · rw [l_1, cA] at hx
          subst hx
          have e : pkO (bL W) (i + 1) = some i := by rw [pkO_s, if_pos (by simpa using c)]
          exact k (nI i, nI (W i), u9) ⟨by rw [e]; rfl, by rw [e]; rfl, cc.hr x9, L3.hr x9 (by omega)⟩
    · unfold p_X11_bestHour
      refine r_isDoorT R ok hd ⟨fun _ => r_keepsQ rfl R ok (fun u2 k2 R2 q2 => ?_), fun z => absurd z (by decide)⟩
      refine xloop (fun m i (s : Int32 × Int32 × xM) => p_X11_bestHour_L30 Q m (nI d) s.1 s.2.1 (nI i) s.2.2) (fun i s => s.1 = eO (pkO (bL W) i) ∧ s.2.1 = nI (lO W (pkO (bL W) i)) ∧ KS u1 s.2.2 ∧ RS σ s.2.2 ∧ rq u1 s.2.2) 12 0 (-1, 1000000, u2) (Nat.zero_le _) ⟨rfl, l_1000000, k2, R2, q2⟩ ?_ ?_
      · intro m s hs
        unfold p_X11_bestHour_L30
        rw [hs.1, hb0]
        exact ⟨fun _ => r_gives hq hs.2.2.2.2, fun c => absurd (by decide) c⟩
      · intro m i s _ hi hs k
        have cmp := lO_c (W := W) (a := pkO (bL W) i) (r := i) (fun b _ => hWb b) (hWb i)
        unfold p_X11_bestHour_L30
        refine ⟨fun c => absurd c (by rw [l_12, cLE (by omega) (by omega)]; omega), fun _ => ?_⟩
        refine xloop (fun n j (w : xM) => p_X11_bestHour_L40 Q (p_X11_bestHour_L30 Q m) n (nI d) s.1 s.2.1 (nI i) (nI j) w) (fun j w => KS u1 w ∧ ∃ v, v < 2 ^ σ 1 0 ∧ (∀ e, e ≠ d → bitN v e = bitN (σ 20 0) e) ∧ RR 0 (jF (hJ (bhG σ d i) j σ) (σ 19) (fun _ => v)) w) 12 0 s.2.2 (Nat.zero_le _) ⟨hs.2.2.1, σ 20 0, ok.held, fun _ _ => rfl, hs.2.2.2.1.1.toJ⟩ ?_ ?_
        · intro n w hw
          obtain ⟨kw, v, hv1, hv2, Rw⟩ := hw
          have okn := hJ_ok (bhG σ d i) ok 12 (by omega)
          have e1 : hJ (bhG σ d i) 12 σ 1 0 = σ 1 0 := hJ_kept _ _ _ (by decide : kept 1) 0
          have okJ : okS (jF (hJ (bhG σ d i) 12 σ) (σ 19) (fun _ => v)) := okS_jF okn (fun k hk => by rw [e1]; exact (ok.hr hk).2) (by rw [e1]; exact hv1)
          unfold p_X11_bestHour_L40
          refine ⟨fun _ => r_allWater Rw okJ ?_, fun c => absurd (by decide) c⟩
          refine r_restS rfl kw R ok (fun u4 k4 q4 R4 _ => ?_)
          rw [allW_jF, hWh, hs.2.1, cmp.2]
          refine ⟨fun c x hx => ?_, fun c x hx => ?_⟩
          · rw [l_1, cA] at hx
            subst hx
            have e : pkO (bL W) (i + 1) = some i := by rw [pkO_s, if_pos c]
            exact k (nI i, nI (W i), u4) ⟨by rw [e]; rfl, by rw [e]; rfl, k4, R4, q4⟩
          · rw [l_1, cA] at hx
            subst hx
            have e : pkO (bL W) (i + 1) = pkO (bL W) i := by rw [pkO_s, if_neg c]
            exact k (s.1, nI (lO W (pkO (bL W) i)), u4) ⟨by rw [e]; exact hs.1, by rw [e], k4, R4, q4⟩
        · intro n j w _ hj hw kk
          obtain ⟨kw, v, hv1, hv2, Rw⟩ := hw
          have okn := hJ_ok (bhG σ d i) ok j (by omega)
          have e1 : hJ (bhG σ d i) j σ 1 0 = σ 1 0 := hJ_kept _ _ _ (by decide : kept 1) 0
          have e3 : hJ (bhG σ d i) j σ 3 0 = σ 3 0 + j := hJ_hour _ _ _
          have hs1 := hJ_s (bhG σ d i) j σ
          generalize hJ (bhG σ d i) j σ = θ at *
          have okJ : okS (jF θ (σ 19) (fun _ => v)) := okS_jF okn (fun k hk => by rw [e1]; exact (ok.hr hk).2) (by rw [e1]; exact hv1)
          have hvh := bhH_lt (h := i) (k := hod θ) ok hd
          have okJ2 : okS (jF θ (σ 19) (fun _ => bhH σ d i (hod θ))) := okS_jF okn (fun k hk => by rw [e1]; exact (ok.hr hk).2) (by rw [e1]; exact hvh)
          have main : ∀ b : Bool, b = decide (hod θ = i) → p_X11_bestHour_L72 Q (p_X11_bestHour_L30 Q m) (p_X11_bestHour_L40 Q (p_X11_bestHour_L30 Q m) n) (nI d) s.1 s.2.1 (nI i) (nI j) (nI (55 + 8 * d) + 6) b w := fun b hb => by
            unfold p_X11_bestHour_L72
            rw [l_6, cA, cCL (by omega), show 55 + 8 * d + 6 = 61 + 8 * d by omega]
            refine ⟨cIN (by omega) (by decide), fun u2 h2 => ?_⟩
            have R2 : RR 0 (jF θ (σ 19) (fun _ => bhH σ d i (hod θ))) u2 := by
              rw [h2]
              refine RR.held Rw okJ (by rw [e1]; exact hd) ?_ (fun e he => ?_)
              · rw [xb_if, bhH_bit, if_pos rfl, hb]
                by_cases z : hod θ = i
                · simp [z]
                · simp [z]
              · rw [bhH_bit, if_neg he, hv2 e he]
            have k2 : KS u1 u2 := by rw [h2]; exact kw.w (by omega)
            refine r_goesByS (k2.rs R R2) okJ2 (by rw [jF_r (f := 3) (by decide) (by decide), e3]; omega) (fun u3 R3 g3 _ x5 h5 => ?_)
            rw [l_1, cA] at h5
            subst h5
            refine kk u3 ⟨k2.g g3, bhH σ d i (hod θ), hvh, fun e he => by rw [bhH_bit, if_neg he], ?_⟩
            rw [stp_jF, opn_jF, bh_eq, ← hs1] at R3
            exact R3
          unfold p_X11_bestHour_L40
          refine ⟨fun c => absurd c (by rw [l_12, cLE (by omega) (by omega)]; omega), fun _ => r_doorRow (r_now Rw okJ ?_)⟩
          have hh := hod_lt θ
          rw [hod_jF, cEQ (by omega) (by omega)]
          exact ⟨fun c => main false (decide_eq_false c).symm, fun c => main true (decide_eq_true c).symm⟩
  · refine pj (pc := p_X10_bestHour a u) (pr := p_X11_bestHour a) I ok R (-1) 1 (fun Q hq => ?_) (fun u1 c1 R Q hq => ?_)
    · unfold p_X10_bestHour
      exact k_isDoorF L ok hd ⟨fun z => absurd z (by decide), fun _ => k_none hq cq.rf⟩
    · unfold p_X11_bestHour
      exact r_isDoorF R ok hd ⟨fun z => absurd z (by decide), fun _ => r_refuse hq rq.rf⟩
end BHOUR
