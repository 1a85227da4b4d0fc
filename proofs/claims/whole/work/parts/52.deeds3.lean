/-! ===== rota, raise, build, wipe ===== -/
section DEEDS3
variable {σ τ : aS} {u u' : xM} {o : Nat}
theorem rotD_x {h d j : Nat} (hh : h < 12) : rotD (sU σ 19 h (σ 19 h ^^^ 2 ^ d)) j = if j = d then rotD σ d ^^^ 2 ^ h else rotD σ j := by
  apply Nat.eq_of_testBit_eq
  intro i
  unfold rotD
  by_cases e : j = d
  · subst e
    rw [if_pos rfl, Nat.testBit_xor, mk_testBit, mk_testBit, Nat.testBit_two_pow, sU_at]
    by_cases e2 : i = h
    · subst e2
      rw [if_pos ⟨rfl, rfl⟩, Nat.testBit_xor, Nat.testBit_two_pow]
      simp [hh]
    · rw [if_neg (fun z => e2 z.2), show decide (h = i) = false from decide_eq_false (fun z => e2 z.symm), Bool.xor_false]
  · rw [if_neg e, mk_testBit, mk_testBit, sU_at]
    by_cases e2 : i = h
    · subst e2
      rw [if_pos ⟨rfl, rfl⟩, Nat.testBit_xor, Nat.testBit_two_pow, show decide (d = j) = false from decide_eq_false (fun z => e z.symm), Bool.xor_false]
    · rw [if_neg (fun z => e2 z.2)]
theorem rotD_bit {h d : Nat} (hh : h < 12) : (rotD σ d).testBit h = (σ 19 h).testBit d := by
  unfold rotD
  rw [mk_testBit]
  simp [hh]
theorem K_rota (I : INV u) (a a2 : Int32) (b : Bool) : p_X10_rota a a2 b u (fun r u1 => p_X11_rota a a2 b u1 (fun r' u2 => r = r' ∧ INV u2)) := by
  obtain ⟨σ, S, L, ok, R⟩ := I.sp
  have h3 := okS.hour S
  have hp : σ 23 0 = 4095 := S.2.2.2.2.1
  have h10 := ok.d
  have hp10 := ok.p10
  rcases below (a := a) 12 with ⟨h, hh, rfl⟩ | hh
  · rcases below (a := a2) (σ 1 0) with ⟨d, hd, rfl⟩ | hd
    · have hm := (ok.hr hh).2
      by_cases c : (σ 19 h).testBit d = b
      · refine pj (pc := p_X10_rota (nI h) (nI d) b u) (pr := p_X11_rota (nI h) (nI d) b) I ok R false 7 (fun Q hq => ?_) (fun u1 c1 R Q hq => ?_)
        · unfold p_X10_rota
          refine k_isHourT hh ⟨fun z => absurd z (by decide), fun _ => k_isDoorT L ok hd ⟨fun _ => ⟨cIN (by omega) (by decide), ?_⟩, fun z => absurd z (by decide)⟩⟩
          rw [cCL (by omega), show gi u 99 h = nI (σ 19 h) from L.f19 hh, bTST (by omega) (by omega)]
          have go : ∀ w : Bool, (σ 19 h).testBit d = w → p_X10_rota_L46 Q (nI h) (nI d) b w u := fun w hw => by
            unfold p_X10_rota_L46
            rw [xb_ne, xb_eq]
            exact ⟨fun z => absurd (hw.symm.trans c) (by rw [z]; cases b <;> decide), fun _ => k_refused hq cq.rf⟩
          exact ⟨fun z => go false (by simpa using z), fun z => go true z⟩
        · unfold p_X11_rota
          refine r_isHourT hh ⟨fun z => absurd z (by decide), fun _ => r_isDoorT R ok hd ⟨fun _ => ?_, fun z => absurd z (by decide)⟩⟩
          refine r_doorV (w := 5) (f := 19) (v := nI (rotD σ d)) R.1 ok hd rfl (by decide) (by decide) rfl (by simp [rk]; omega) rfl ?_
          have := rotD_lt σ d
          refine r_isIn (by omega) (by omega) ?_
          rw [rotD_bit hh, xb_ne, xb_eq]
          exact ⟨fun z => absurd (c.symm.trans z) (by cases b <;> decide), fun _ => r_isF (by decide) hq rq.rf⟩
      · have c' : (σ 19 h).testBit d = !b := by cases hb : (σ 19 h).testBit d <;> cases b <;> simp_all
        have hv : σ 19 h ^^^ 2 ^ d < 2 ^ σ 1 0 := xor_lt2 hm (p2lt hd)
        have okt := okS_rota (k := h) ok hv
        refine pd (pc := p_X10_rota (nI h) (nI d) b u) (pr := p_X11_rota (nI h) (nI d) b) (τ := sU σ 19 h (σ 19 h ^^^ 2 ^ d)) I S R ⟨okt, h3, hp, rfl, rfl, rfl⟩ true 0 (fun Q hq => ?_) (fun u1 c1 R Q hq => ?_)
        · unfold p_X10_rota
          refine k_isHourT hh ⟨fun z => absurd z (by decide), fun _ => k_isDoorT L ok hd ⟨fun _ => ⟨cIN (by omega) (by decide), ?_⟩, fun z => absurd z (by decide)⟩⟩
          rw [cCL (by omega), show gi u 99 h = nI (σ 19 h) from L.f19 hh, bTST (by omega) (by omega)]
          have go : ∀ w : Bool, (σ 19 h).testBit d = w → p_X10_rota_L46 Q (nI h) (nI d) b w u := fun w hw => by
            unfold p_X10_rota_L46
            rw [xb_ne, xb_eq]
            refine ⟨fun z => ⟨cIN (by omega) (by decide), cIN (by omega) (by decide), fun u4 h4 => ?_⟩, fun z => absurd (hw.trans z) (by rw [c']; cases b <;> decide)⟩
            rw [cCL (by omega), show gi u 99 h = nI (σ 19 h) from L.f19 hh, bPOW (by omega), bXOR] at h4
            subst h4
            exact k_doneD hq (L.up (f := 19) (i := h) (by decide) (by decide) (by decide) (by decide) (by simpa [rlN] using hh) rfl rfl (by simp [rlS])) (cd.w (by omega))
          exact ⟨fun z => go false (by simpa using z), fun z => go true z⟩
        · unfold p_X11_rota
          refine r_isHourT hh ⟨fun z => absurd z (by decide), fun _ => r_isDoorT R ok hd ⟨fun _ => ?_, fun z => absurd z (by decide)⟩⟩
          refine r_doorV (w := 5) (f := 19) (v := nI (rotD σ d)) R.1 ok hd rfl (by decide) (by decide) rfl (by simp [rk]; omega) rfl ?_
          have := rotD_lt σ d
          refine r_isIn (by omega) (by omega) ?_
          rw [rotD_bit hh, xb_ne, xb_eq]
          refine ⟨fun _ => r_doorRow ?_, fun z => absurd z c⟩
          rw [l_5, cA]
          refine ⟨cIN (by omega) (by decide), cIN (by omega) (by decide), fun u18 h18 => ?_⟩
          rw [cCL (by omega), show 55 + 8 * d + 5 = 60 + 8 * d by omega, R.1.r19 hd, bPOW (by omega), bXOR] at h18
          subst h18
          refine r_isD hq okt ?_ (rd.w (by omega))
          refine RR.st (f := 19) (i := d) R.1 ok.r ok.d ok.e rfl rfl rfl (by decide) (by unfold rkM; simp; omega) (by simp [rk]) ?_ (fun g hg j hj hne => ?_)
          · show _ = nI (rotD _ d)
            rw [rotD_x hh, if_pos rfl]
          · by_cases e : g = 19
            · subst e
              show nI (rotD _ j) = nI (rotD σ j)
              rw [rotD_x hh, if_neg (fun z => hne ⟨rfl, z⟩)]
            · have e1 : ∀ j, sU σ 19 h (σ 19 h ^^^ 2 ^ d) g j = σ g j := fun j => by rw [sU_at, if_neg (by rintro ⟨z, -⟩; exact e z)]
              unfold rv
              rw [e1, e1]
              simp [e]
    · refine pj (pc := p_X10_rota (nI h) a2 b u) (pr := p_X11_rota (nI h) a2 b) I ok R false 1 (fun Q hq => ?_) (fun u1 c1 R Q hq => ?_)
      · unfold p_X10_rota
        exact k_isHourT hh ⟨fun z => absurd z (by decide), fun _ => k_isDoorF L ok hd ⟨fun z => absurd z (by decide), fun _ => k_refused hq cq.rf⟩⟩
      · unfold p_X11_rota
        exact r_isHourT hh ⟨fun z => absurd z (by decide), fun _ => r_isDoorF R ok hd ⟨fun z => absurd z (by decide), fun _ => r_isF (by decide) hq rq.rf⟩⟩
  · refine pj (pc := p_X10_rota a a2 b u) (pr := p_X11_rota a a2 b) I ok R false 1 (fun Q hq => ?_) (fun u1 c1 R Q hq => ?_)
    · unfold p_X10_rota
      exact k_isHourF hh ⟨fun _ => k_refused hq cq.rf, fun z => absurd z (by decide)⟩
    · unfold p_X11_rota
      exact r_isHourF hh ⟨fun _ => r_isF (by decide) hq rq.rf, fun z => absurd z (by decide)⟩
theorem k_withinZ {a x y : Int32} {Q : Bool → xM → Prop} (h : x.toInt ≤ a.toInt ∧ a.toInt ≤ y.toInt) (hq : Q true u) : p_X10_isWithin a x y u Q := by
  unfold p_X10_isWithin
  rw [Int32.lt_iff_toInt_lt, Int32.lt_iff_toInt_lt]
  exact ⟨fun c => absurd c (by omega), fun _ => ⟨fun c => absurd c (by omega), fun _ => hq⟩⟩
theorem k_withinZ' {a x y : Int32} {Q : Bool → xM → Prop} (h : ¬ (x.toInt ≤ a.toInt ∧ a.toInt ≤ y.toInt)) (hq : Q false u) : p_X10_isWithin a x y u Q := by
  unfold p_X10_isWithin
  rw [Int32.lt_iff_toInt_lt, Int32.lt_iff_toInt_lt]
  exact ⟨fun _ => hq, fun c => ⟨fun _ => hq, fun d => absurd (by omega) h⟩⟩
theorem r_fromZ {a : Int32} {x y : Int64} {Q : Bool → xM → Prop} (h : x.toInt ≤ a.toInt ∧ a.toInt ≤ y.toInt) (hq : Q true u) : p_X11_isFrom a.toInt64 x y u Q := by
  unfold p_X11_isFrom
  rw [lg_cmp_lt, lg_cmp_gt, Int64.lt_iff_toInt_lt, Int64.lt_iff_toInt_lt, Int32.toInt_toInt64]
  exact ⟨fun c => absurd c (by omega), fun _ => ⟨fun c => absurd c (by omega), fun _ => hq⟩⟩
theorem r_fromZ' {a : Int32} {x y : Int64} {Q : Bool → xM → Prop} (h : ¬ (x.toInt ≤ a.toInt ∧ a.toInt ≤ y.toInt)) (hq : Q false u) : p_X11_isFrom a.toInt64 x y u Q := by
  unfold p_X11_isFrom
  rw [lg_cmp_lt, lg_cmp_gt, Int64.lt_iff_toInt_lt, Int64.lt_iff_toInt_lt, Int32.toInt_toInt64]
  exact ⟨fun _ => hq, fun c => ⟨fun _ => hq, fun d => absurd (by omega) h⟩⟩
theorem K_raise (I : INV u) (a b : Int32) : p_X10_raise a b u (fun r u1 => p_X11_raise a b u1 (fun r' u2 => r = r' ∧ INV u2)) := by
  obtain ⟨σ, S, L, ok, R⟩ := I.sp
  have h3 := okS.hour S
  have hp : σ 23 0 = 4095 := S.2.2.2.2.1
  have h10 := ok.d
  have c1 : (-99 : Int32).toInt = -99 := by decide
  have c2 : (99 : Int32).toInt = 99 := by decide
  have c3 : (0 : Int32).toInt = 0 := by decide
  have e1 : (-99 : Int64).toInt = -99 := by decide
  have e2 : (99 : Int64).toInt = 99 := by decide
  have e3 : (0 : Int64).toInt = 0 := by decide
  rcases below (a := a) (σ 1 0) with ⟨d, hd, rfl⟩ | hd
  · have hm := ok.dr hd
    by_cases hb : -99 ≤ b.toInt ∧ b.toInt ≤ 99
    · have hs : (nI (σ 12 d) + b).toInt = (σ 12 d : Int) + b.toInt := by
        rw [nI_iI, iI_of b, iI_add, iI_toInt (by omega) (by omega), iI_toInt (by omega) (by omega)]
      by_cases hz : 0 ≤ (σ 12 d : Int) + b.toInt ∧ (σ 12 d : Int) + b.toInt ≤ 99
      · have hv : nI (σ 12 d) + b = nI ((σ 12 d : Int) + b.toInt).toNat := by
          apply Int32.toInt_inj.mp
          rw [hs, nI_toInt (by omega)]
          omega
        have okt := okS_sill (d := d) (v := ((σ 12 d : Int) + b.toInt).toNat) ok (by omega)
        refine pd (pc := p_X10_raise (nI d) b u) (pr := p_X11_raise (nI d) b) (τ := sU σ 12 d ((σ 12 d : Int) + b.toInt).toNat) I S R ⟨okt, h3, hp, rfl, rfl, rfl⟩ (nI ((σ 12 d : Int) + b.toInt).toNat) 0 (fun Q hq => ?_) (fun u1 cc1 R Q hq => ?_)
        · unfold p_X10_raise
          refine k_isDoorT L ok hd ⟨fun z => absurd z (by decide), fun _ => k_withinZ (by omega) ⟨fun _ => ⟨cIN (by omega) (by decide), fun x10 hx => ?_⟩, fun z => absurd z (by decide)⟩⟩
          rw [cCL (by omega), show gi u 96 d = nI (σ 12 d) from L.f12 hd] at hx
          refine k_withinZ (by rw [hx, hs]; omega) ⟨fun _ => ⟨cIN (by omega) (by decide), fun u15 h15 => ?_⟩, fun z => absurd z (by decide)⟩
          rw [cCL (by omega), hx, hv] at h15
          subst h15
          rw [hx, hv]
          exact k_fineD hq (L.up (f := 12) (i := d) (by decide) (by decide) (by decide) (by decide) (by simpa [rlN] using hd) rfl rfl (by simp [rlS])) (cd.w (by omega))
        · unfold p_X11_raise
          refine r_isDoorT R ok hd ⟨fun z => absurd z (by decide), fun _ => r_fromZ (by omega) ⟨fun _ => ?_, fun z => absurd z (by decide)⟩⟩
          refine r_doorV (w := 2) (f := 12) (v := nI (σ 12 d)) R.1 ok hd rfl (by decide) (by decide) rfl (by simp [rk]; omega) rfl ?_
          refine r_fromZ (by rw [hs]; omega) ⟨fun _ => r_doorRow ?_, fun z => absurd z (by decide)⟩
          rw [l_2, cA]
          refine ⟨cIN (by omega) (by decide), cIN (by omega) (by decide), fun u18 h18 => ?_⟩
          rw [cCL (by omega), show 55 + 8 * d + 2 = 57 + 8 * d by omega, R.1.r12 hd, hv] at h18
          have R2 : RR 0 (sU σ 12 d ((σ 12 d : Int) + b.toInt).toNat) u18 := by
            rw [h18]
            exact RR.one R.1 ok (by decide) (by decide) (by decide) (by simpa [rrN] using hd) (by decide) (by simp [rk]) (by simp [rv, sU_at])
          refine r_doorV (w := 2) (f := 12) (v := nI ((σ 12 d : Int) + b.toInt).toNat) R2 okt hd rfl (by decide) (by decide) rfl (by simp [rk]; omega) (by simp [rv, sU_at]) ?_
          exact r_givesD hq okt R2 (by rw [h18]; exact rd.w (by omega))
      · refine pj (pc := p_X10_raise (nI d) b u) (pr := p_X11_raise (nI d) b) I ok R (-1) 7 (fun Q hq => ?_) (fun u1 cc1 R Q hq => ?_)
        · unfold p_X10_raise
          refine k_isDoorT L ok hd ⟨fun z => absurd z (by decide), fun _ => k_withinZ (by omega) ⟨fun _ => ⟨cIN (by omega) (by decide), fun x10 hx => ?_⟩, fun z => absurd z (by decide)⟩⟩
          rw [cCL (by omega), show gi u 96 d = nI (σ 12 d) from L.f12 hd] at hx
          exact k_withinZ' (by rw [hx, hs]; omega) ⟨fun z => absurd z (by decide), fun _ => k_none hq cq.rf⟩
        · unfold p_X11_raise
          refine r_isDoorT R ok hd ⟨fun z => absurd z (by decide), fun _ => r_fromZ (by omega) ⟨fun _ => ?_, fun z => absurd z (by decide)⟩⟩
          refine r_doorV (w := 2) (f := 12) (v := nI (σ 12 d)) R.1 ok hd rfl (by decide) (by decide) rfl (by simp [rk]; omega) rfl ?_
          exact r_fromZ' (by rw [hs]; omega) ⟨fun z => absurd z (by decide), fun _ => r_refuse hq rq.rf⟩
    · refine pj (pc := p_X10_raise (nI d) b u) (pr := p_X11_raise (nI d) b) I ok R (-1) 1 (fun Q hq => ?_) (fun u1 cc1 R Q hq => ?_)
      · unfold p_X10_raise
        exact k_isDoorT L ok hd ⟨fun z => absurd z (by decide), fun _ => k_withinZ' (by omega) ⟨fun z => absurd z (by decide), fun _ => k_none hq cq.rf⟩⟩
      · unfold p_X11_raise
        exact r_isDoorT R ok hd ⟨fun z => absurd z (by decide), fun _ => r_fromZ' (by omega) ⟨fun z => absurd z (by decide), fun _ => r_refuse hq rq.rf⟩⟩
  · refine pj (pc := p_X10_raise a b u) (pr := p_X11_raise a b) I ok R (-1) 1 (fun Q hq => ?_) (fun u1 cc1 R Q hq => ?_)
    · unfold p_X10_raise
      exact k_isDoorF L ok hd ⟨fun _ => k_none hq cq.rf, fun z => absurd z (by decide)⟩
    · unfold p_X11_raise
      exact r_isDoorF R ok hd ⟨fun _ => r_refuse hq rq.rf, fun z => absurd z (by decide)⟩
theorem K_build (I : INV u) (a : Int32) : p_X10_build a u (fun r u1 => p_X11_build a u1 (fun r' u2 => r = r' ∧ INV u2)) := by
  obtain ⟨σ, S, L, ok, R⟩ := I.sp
  have h3 := okS.hour S
  have hp : σ 23 0 = 4095 := S.2.2.2.2.1
  have h7 := ok.r
  have hD := ok.drowned
  have hp7 := ok.p7
  rcases below (a := a) (σ 0 0) with ⟨r, hr, rfl⟩ | hr
  · by_cases c : (σ 22 0).testBit r = true
    · have hv : ndf (σ 22 0) (2 ^ r) < 2 ^ σ 0 0 := ndf_lt hD
      have okt := okS_drowned ok hv
      refine pd (pc := p_X10_build (nI r) u) (pr := p_X11_build (nI r)) (τ := sU σ 22 0 (ndf (σ 22 0) (2 ^ r))) I S R ⟨okt, h3, hp, rfl, rfl, rfl⟩ (nI (pop (ndf (σ 22 0) (2 ^ r)))) 0 (fun Q hq => ?_) (fun u1 c1 R Q hq => ?_)
      · unfold p_X10_build
        refine k_isRoomT L ok hr ⟨fun _ => k_isDrowned L ok (by omega) ⟨fun _ u7 h7' => ?_, fun z => absurd (z.symm.trans c) (by decide)⟩, fun z => absurd z (by decide)⟩
        rw [show gi u 84 1 = nI (σ 22 0) from L.f22, bPOW (by omega), bNOT (by omega)] at h7'
        subst h7'
        rw [gi_at]
        refine k_bitCount (by omega) ?_
        exact k_fineD hq (L.up (f := 22) (i := 0) (by decide) (by decide) (by decide) (by decide) (by simp [rlN]) rfl rfl rfl) (cd.w (by omega))
      · unfold p_X11_build
        refine r_isRoomT R ok hr ⟨fun _ => ?_, fun z => absurd z (by decide)⟩
        refine r_roomV (w := 5) (f := 22) (v := nI (bitN (σ 22 0) r)) R.1 ok hr rfl (by decide) (by decide) rfl (by simp [rk]; omega) rfl ?_
        have hb : bitN (σ 22 0) r = 1 := by unfold bitN; rw [if_pos c]
        rw [hb]
        refine ⟨fun _ => r_roomRow ?_, fun z => absurd z (by decide)⟩
        rw [l_5, cA]
        refine ⟨cIN (by omega) (by decide), fun u10 h10 => ?_⟩
        rw [cCL (by omega), show 6 + 7 * r + 5 = 11 + 7 * r by omega] at h10
        have R2 : RR 0 (sU σ 22 0 (ndf (σ 22 0) (2 ^ r))) u10 := by
          rw [h10]
          refine RR.st (f := 22) (i := r) R.1 ok.r ok.d ok.e rfl rfl rfl (by decide) (by unfold rkM; simp; omega) (by simp [rk]) ?_ (fun g hg j hj hne => ?_)
          · show (0 : Int32) = nI (bitN (ndf (σ 22 0) (2 ^ r)) r)
            unfold bitN
            rw [ndf_testBit, Nat.testBit_two_pow_self]
            simp; rfl
          · by_cases e : g = 22
            · subst e
              show nI (bitN (ndf (σ 22 0) (2 ^ r)) j) = nI (bitN (σ 22 0) j)
              unfold bitN
              rw [ndf_testBit, Nat.testBit_two_pow, show decide (r = j) = false from decide_eq_false (fun z => hne ⟨rfl, z.symm⟩)]
              simp
            · have e1 : ∀ j, sU σ 22 0 (ndf (σ 22 0) (2 ^ r)) g j = σ g j := fun j => by rw [sU_at, if_neg (by rintro ⟨z, -⟩; exact e z)]
              have e2 : rotD (sU σ 22 0 (ndf (σ 22 0) (2 ^ r))) j = rotD σ j := rfl
              unfold rv
              rw [e1, e1, e2]
        refine r_set1 R2 okt ?_
        show p_X11_bits (nI (ndf (σ 22 0) (2 ^ r))) u10 _
        refine r_bits (by omega) ?_
        exact r_givesD hq okt R2 (by rw [h10]; exact rd.w (by omega))
    · have c' : (σ 22 0).testBit r = false := by simpa using c
      refine pj (pc := p_X10_build (nI r) u) (pr := p_X11_build (nI r)) I ok R (-1) 7 (fun Q hq => ?_) (fun u1 c1 R Q hq => ?_)
      · unfold p_X10_build
        exact k_isRoomT L ok hr ⟨fun _ => k_isDrowned L ok (by omega) ⟨fun z => absurd z c, fun _ => k_none hq cq.rf⟩, fun z => absurd z (by decide)⟩
      · unfold p_X11_build
        refine r_isRoomT R ok hr ⟨fun _ => ?_, fun z => absurd z (by decide)⟩
        refine r_roomV (w := 5) (f := 22) (v := nI (bitN (σ 22 0) r)) R.1 ok hr rfl (by decide) (by decide) rfl (by simp [rk]; omega) rfl ?_
        have hb : bitN (σ 22 0) r = 0 := by unfold bitN; rw [if_neg c]
        rw [hb]
        exact ⟨fun z => absurd rfl z, fun _ => r_refuse hq rq.rf⟩
  · refine pj (pc := p_X10_build a u) (pr := p_X11_build a) I ok R (-1) 1 (fun Q hq => ?_) (fun u1 c1 R Q hq => ?_)
    · unfold p_X10_build
      exact k_isRoomF L ok hr ⟨fun z => absurd z (by decide), fun _ => k_none hq cq.rf⟩
    · unfold p_X11_build
      exact r_isRoomF R ok hr ⟨fun z => absurd z (by decide), fun _ => r_refuse hq rq.rf⟩
/-- marks wiped below n -/
def wpm (σ : aS) (n : Nat) : aS := sF σ 9 (fun r => if r < n then 0 else σ 9 r)
def wpn (σ : aS) (n : Nat) : Nat := sumN (fun r => if 0 < σ 9 r then 1 else 0) n
theorem wpm_0 : wpm σ 0 = σ := by
  unfold wpm
  have : (fun r => if r < 0 then 0 else σ 9 r) = σ 9 := by
    funext r
    rw [if_neg (by omega)]
  rw [this, sF_id]
theorem wpn_le (n : Nat) : wpn σ n ≤ n := by
  have := sumN_le (w := fun r => if 0 < σ 9 r then 1 else 0) (n := n) (b := 1) (fun i _ => by split <;> omega)
  unfold wpn
  omega
theorem okS_wpm (ok : okS σ) (n : Nat) : okS (wpm σ n) := ⟨ok.r, ok.d, ok.e, ok.h, fun r hr => by
  have := ok.rm hr
  refine ⟨this.1, this.2.1, this.2.2.1, this.2.2.2.1, this.2.2.2.2.1, this.2.2.2.2.2.1, this.2.2.2.2.2.2.1, ?_⟩
  show (if r < n then 0 else σ 9 r) ≤ 9999
  split
  · omega
  · exact this.2.2.2.2.2.2.2, fun d hd => ok.dr hd, fun e he => ok.er he, fun k hk => ok.hr hk, ok.held, ok.walled, ok.drowned, ok.ph⟩
theorem wpm_s {i : Nat} (f j : Nat) : sU (wpm σ i) 9 i 0 f j = wpm σ (i + 1) f j := by
  rw [sU_at]
  unfold wpm
  rw [sF_at, sF_at]
  by_cases e : f = 9
  · subst e
    rw [if_pos rfl, if_pos rfl]
    by_cases e2 : j = i
    · subst e2
      rw [if_pos ⟨rfl, rfl⟩, if_pos (by omega)]
    · rw [if_neg (fun z => e2 z.2)]
      by_cases e3 : j < i
      · rw [if_pos e3, if_pos (by omega)]
      · rw [if_neg e3, if_neg (by omega)]
  · rw [if_neg (fun z => e z.1), if_neg e, if_neg e]
theorem k_wipeMarks {Q : Int32 → xM → Prop} (L : LR o σ u) (ok : okS σ) (hq : ∀ u', LR o (wpm σ (σ 0 0)) u' → xsame (fun k => k ≠ o + 8) u u' → Q (nI (wpn σ (σ 0 0))) u') : p_X7_wipeMarks o u Q := by
  have h7 := ok.r
  unfold p_X7_wipeMarks
  refine xloop (fun m i (s : Int32 × xM) => p_X7_wipeMarks_L4 o Q m s.1 (nI i) s.2) (fun i s => s.1 = nI (wpn σ i) ∧ LR o (wpm σ i) s.2 ∧ xsame (fun k => k ≠ o + 8) u s.2) (σ 0 0) 0 (0, u) (Nat.zero_le _) ⟨rfl, by rw [wpm_0]; exact L, xsame.rf⟩ ?_ ?_
  · intro m s hs
    unfold p_X7_wipeMarks_L4
    rw [hs.2.1.f0, show wpm σ (σ 0 0) 0 0 = σ 0 0 from rfl, hs.1]
    exact ⟨fun _ => hq s.2 hs.2.1 hs.2.2, fun c => absurd (by rw [cLE (by omega) (by omega)]; exact Nat.le_refl _) c⟩
  · intro m i s _ hi hs k
    have hw := wpn_le (σ := σ) i
    have hm := ok.rm hi
    have e8 : gi s.2 (o + 8) i = nI (σ 9 i) := by
      rw [hs.2.1.f9 (i := i) hi]
      show nI (if i < i then 0 else σ 9 i) = _
      rw [if_neg (by omega)]
    have go : ∀ x : Int32, x = nI (wpn σ (i + 1)) → p_X7_wipeMarks_L24 o Q (p_X7_wipeMarks_L4 o Q m) x (nI i) s.2 := fun x hx => by
      unfold p_X7_wipeMarks_L24
      refine ⟨cIN (by omega) (by decide), fun u2 h2 x3 h3 => ?_⟩
      rw [cCL (by omega)] at h2
      rw [l_1, cA] at h3
      subst h3
      refine k (x, u2) ⟨hx, ?_, ?_⟩
      · rw [h2]
        exact (hs.2.1.up (f := 9) (i := i) (v := 0) (by decide) (by decide) (by decide) (by decide) (by show i < σ 0 0; exact hi) (x := 0) rfl rfl (by simp [rlS])).eq rfl rfl rfl (fun f _ j _ => (wpm_s f j).symm)
      · rw [h2]
        exact hs.2.2.tr (xsame.si (by simp))
    unfold p_X7_wipeMarks_L4
    rw [hs.2.1.f0, show wpm σ i 0 0 = σ 0 0 from rfl]
    refine ⟨fun c => absurd c (by rw [cLE (by omega) (by omega)]; omega), fun _ => ⟨cIN (by omega) (by decide), ?_⟩⟩
    rw [cCL (by omega), e8, show (0 : Int32) = nI 0 from rfl, cLE (by omega) (by omega)]
    refine ⟨fun c => go s.1 ?_, fun c x4 h4 => go x4 ?_⟩
    · rw [hs.1]
      show _ = nI (wpn σ i + if 0 < σ 9 i then 1 else 0)
      rw [if_neg (by omega)]; rfl
    · rw [h4, hs.1, l_1, cA]
      show _ = nI (wpn σ i + if 0 < σ 9 i then 1 else 0)
      rw [if_pos (by omega)]
theorem r_wipes {Q : Int32 → xM → Prop} (R : RR 0 σ u) (ok : okS σ) (hq : ∀ u', RR 0 (wpm σ (σ 0 0)) u' → gsame u u' → Q (nI (wpn σ (σ 0 0))) u') : p_X11_wipes u Q := by
  have h7 := ok.r
  unfold p_X11_wipes
  refine xloop (fun m i (s : Int32 × xM) => p_X11_wipes_L4 Q m s.1 (nI i) s.2) (fun i s => s.1 = nI (wpn σ i) ∧ RR 0 (wpm σ i) s.2 ∧ gsame u s.2) (σ 0 0) 0 (0, u) (Nat.zero_le _) ⟨rfl, by rw [wpm_0]; exact R, gsame.rf⟩ ?_ ?_
  · intro m s hs
    unfold p_X11_wipes_L4
    rw [(r_at l_0 (by decide)).2, hs.2.1.r0, show wpm σ (σ 0 0) 0 0 = σ 0 0 from rfl, hs.1]
    exact ⟨(r_at l_0 (by decide)).1, fun _ => hq s.2 hs.2.1 hs.2.2, fun c => absurd (by rw [cLE (by omega) (by omega)]; exact Nat.le_refl _) c⟩
  · intro m i s _ hi hs k
    have hw := wpn_le (σ := σ) i
    have hm := ok.rm hi
    have go : ∀ b : Bool, nI (wpn σ i) + xb b = nI (wpn σ (i + 1)) → p_X11_wipes_L30 Q (p_X11_wipes_L4 Q m) (nI i) s.1 b s.2 := fun b hb => by
      unfold p_X11_wipes_L30
      intro x1 h1
      rw [hs.1, hb] at h1
      refine r_roomRow ?_
      rw [l_6, cA]
      refine ⟨cIN (by omega) (by decide), fun u5 h5 x6 h6 => ?_⟩
      rw [cCL (by omega), show 6 + 7 * i + 6 = 12 + 7 * i by omega] at h5
      rw [l_1, cA] at h6
      subst h6
      refine k (x1, u5) ⟨h1, ?_, ?_⟩
      · rw [h5]
        have R2 : RR 0 (sU (wpm σ i) 9 i 0) (si s.2 273 (12 + 7 * i) 0) := RR.one hs.2.1 (okS_wpm ok i) (by decide) (by decide) (by decide) (by show i < σ 0 0; exact hi) (by decide) (by simp [rk]) (by simp [rv, sU_at]; rfl)
        have ef : sU (wpm σ i) 9 i 0 = wpm σ (i + 1) := by
          funext f j
          exact wpm_s f j
        rw [← ef]
        exact R2
      · rw [h5]
        exact hs.2.2.tr (gsame.at (by omega))
    unfold p_X11_wipes_L4
    rw [(r_at l_0 (by decide)).2, hs.2.1.r0, show wpm σ i 0 0 = σ 0 0 from rfl]
    refine ⟨(r_at l_0 (by decide)).1, fun c => absurd c (by rw [cLE (by omega) (by omega)]; omega), fun _ => ?_⟩
    refine r_roomV (w := 6) (f := 9) (v := nI (σ 9 i)) hs.2.1 (okS_wpm ok i) hi rfl (by decide) (by decide) rfl (by simp [rk]; omega) ?_ ?_
    · show nI (if i < i then 0 else σ 9 i) = _
      rw [if_neg (by omega)]
    · rw [show (0 : Int32) = nI 0 from rfl, cLE (by omega) (by omega)]
      refine ⟨fun c => go false ?_, fun c => go true ?_⟩
      · show _ = nI (wpn σ i + if 0 < σ 9 i then 1 else 0)
        rw [if_neg (by omega)]
        show nI (wpn σ i) + 0 = nI (wpn σ i)
        exact Int32.add_zero _
      · show _ = nI (wpn σ i + if 0 < σ 9 i then 1 else 0)
        rw [if_pos (by omega), ← cA]; rfl
theorem K_wipe (I : INV u) : p_X10_wipe u (fun r u1 => p_X11_wipe u1 (fun r' u2 => r = r' ∧ INV u2)) := by
  obtain ⟨σ, S, L, ok, R⟩ := I.sp
  have h3 := okS.hour S
  have hp : σ 23 0 = 4095 := S.2.2.2.2.1
  refine pd (pc := p_X10_wipe u) (pr := p_X11_wipe) (τ := wpm σ (σ 0 0)) I S R ⟨okS_wpm ok _, h3, hp, rfl, rfl, rfl⟩ (nI (wpn σ (σ 0 0))) 0 (fun Q hq => ?_) (fun u1 c1 R Q hq => ?_)
  · unfold p_X10_wipe
    exact k_wipeMarks L ok (fun u1 L1 x1 => k_fineD hq L1 (cd.xs x1 (fun k hk => by omega) (fun k hk => by omega)))
  · unfold p_X11_wipe
    exact r_wipes R.1 ok (fun u2 R2 g2 => r_givesD hq (okS_wpm ok _) R2 (rd.xs g2))
end DEEDS3
