/-! ===== deeds ===== -/
section DEEDS
variable {σ τ : aS} {u u' : xM} {o : Nat}
theorem ndf_lt {a b n : Nat} (h : a < n) : ndf a b < n := Nat.lt_of_le_of_lt (ndf_le a b) h
theorem K_hour (I : INV u) (a : Int32) : p_X10_hour a u (fun r u1 => p_X11_hour a u1 (fun r' u2 => r = r' ∧ INV u2)) := by
  obtain ⟨σ, S, L, ok, R⟩ := I.sp
  have h3 := okS.hour S
  have hp : σ 23 0 = 4095 := S.2.2.2.2.1
  rcases fromTo (a := a) 1 99 (by decide) with ⟨n, n1, n2, rfl⟩ | hn
  · by_cases c : σ 3 0 + n ≤ 9999
    · have okn := hrs_ok ok n (by omega)
      have d7 := ok.p7
      have dn := okn.drowned
      have d7n := okn.p7
      refine pd (pc := p_X10_hour (nI n) u) (pr := p_X11_hour (nI n)) (τ := hrs n σ) I S R ⟨okn, by rw [hrs_hour]; exact c, by rw [hrs_kept n σ (by decide : kept 23)]; exact hp, hrs_kept n σ (by decide : kept 0) _, hrs_kept n σ (by decide : kept 1) _, hrs_kept n σ (by decide : kept 2) _⟩ (nI (ndf (hrs n σ 22 0) (σ 22 0))) 0 (fun Q hq => ?_) (fun u1 c1 R Q hq => ?_)
      · unfold p_X10_hour
        refine k_withinT (lo := 1) (hi := 99) rfl rfl n1 n2 (by decide) ⟨fun _ => ⟨fun _ x5 h5 => ?_, fun z => absurd ?_ z⟩, fun z => absurd z (by decide)⟩
        · refine k_goOn L ok (by omega) (fun u1 L1 x1 => ?_)
          rw [show gi u1 84 1 = nI (hrs n σ 22 0) from L1.f22, h5, show gi u 84 1 = nI (σ 22 0) from L.f22, bNOT (by omega)]
          exact k_fineD hq L1 (hrP_cd x1)
        · rw [show gi u 83 8 = nI (σ 3 0) from L.f3, cA, l_9999, cLE (by omega) (by omega)]; exact c
      · unfold p_X11_hour
        refine r_fromT (lo := 1) (hi := 99) (by decide) (by decide) n1 n2 (by decide) ⟨fun _ => ⟨(r_at l_3 (by decide)).1, fun _ => ?_, fun z => absurd ?_ z⟩, fun z => absurd z (by decide)⟩
        · refine r_goes R.1 ok (by omega) R.2.1 R.2.2 (fun u2 R2 g2 _ => ?_)
          rw [← hrs_B hp] at R2 ⊢
          refine r_givesD hq okn R2 (rd.xs g2)
        · rw [(r_at l_3 (by decide)).2, R.1.r3, cA, l_9999, cLE (by omega) (by omega)]; exact c
    · refine pj (pc := p_X10_hour (nI n) u) (pr := p_X11_hour (nI n)) I ok R (-1) 4 (fun Q hq => ?_) (fun u1 c1 R Q hq => ?_)
      · unfold p_X10_hour
        refine k_withinT (lo := 1) (hi := 99) rfl rfl n1 n2 (by decide) ⟨fun _ => ⟨fun z => absurd z ?_, fun _ => k_none hq cq.rf⟩, fun z => absurd z (by decide)⟩
        rw [show gi u 83 8 = nI (σ 3 0) from L.f3, cA, l_9999, cLE (by omega) (by omega)]; exact c
      · unfold p_X11_hour
        refine r_fromT (lo := 1) (hi := 99) (by decide) (by decide) n1 n2 (by decide) ⟨fun _ => ⟨(r_at l_3 (by decide)).1, fun z => absurd z ?_, fun _ => r_refuse hq rq.rf⟩, fun z => absurd z (by decide)⟩
        rw [(r_at l_3 (by decide)).2, R.1.r3, cA, l_9999, cLE (by omega) (by omega)]; exact c
  · refine pj (pc := p_X10_hour a u) (pr := p_X11_hour a) I ok R (-1) 1 (fun Q hq => ?_) (fun u1 c1 R Q hq => ?_)
    · unfold p_X10_hour
      exact k_withinF (lo := 1) (hi := 99) rfl rfl hn (by decide) (by decide) ⟨fun z => absurd z (by decide), fun _ => k_none hq cq.rf⟩
    · unfold p_X11_hour
      exact r_fromF (lo := 1) (hi := 99) (by decide) (by decide) hn (by decide) ⟨fun z => absurd z (by decide), fun _ => r_refuse hq rq.rf⟩

theorem bitN_x {m d i : Nat} : bitN (m ^^^ 2 ^ d) i = if i = d then 1 - bitN m d else bitN m i := by
  unfold bitN
  rw [Nat.testBit_xor, Nat.testBit_two_pow]
  by_cases e : d = i
  · subst e
    cases m.testBit d <;> simp
  · have e' : ¬ i = d := fun z => e z.symm
    simp [e, e']
theorem xor_lt2 {a b n : Nat} (ha : a < 2 ^ n) (hb : b < 2 ^ n) : a ^^^ b < 2 ^ n := Nat.xor_lt_two_pow ha hb
theorem p2lt {a b : Nat} (h : a < b) : 2 ^ a < 2 ^ b := Nat.pow_lt_pow_right (by omega) h
theorem okS_held (ok : okS σ) {v : Nat} (h : v < 2 ^ σ 1 0) : okS (sU σ 20 0 v) := ⟨ok.r, ok.d, ok.e, ok.h, fun r hr => ok.rm hr, fun d hd => ok.dr hd, fun e he => ok.er he, fun k hk => ok.hr hk, h, ok.walled, ok.drowned, ok.ph⟩
theorem okS_walled (ok : okS σ) {v : Nat} (h : v < 2 ^ σ 1 0) : okS (sU σ 21 0 v) := ⟨ok.r, ok.d, ok.e, ok.h, fun r hr => ok.rm hr, fun d hd => ok.dr hd, fun e he => ok.er he, fun k hk => ok.hr hk, ok.held, h, ok.drowned, ok.ph⟩
theorem okS_drowned (ok : okS σ) {v : Nat} (h : v < 2 ^ σ 0 0) : okS (sU σ 22 0 v) := ⟨ok.r, ok.d, ok.e, ok.h, fun r hr => ok.rm hr, fun d hd => ok.dr hd, fun e he => ok.er he, fun k hk => ok.hr hk, ok.held, ok.walled, h, ok.ph⟩
theorem xb_ne {a b : Bool} : (¬ xb a = xb b) = (a = !b) := by cases a <;> cases b <;> decide
theorem xb_eq {a b : Bool} : (xb a = xb b) = (a = b) := by cases a <;> cases b <;> decide
theorem r_turns20 {d : Nat} {b : Bool} {Q : Bool → xM → Prop} (R : RR 0 σ u) (ok : okS σ) (hd : d < σ 1 0) (hf : (σ 20 0).testBit d = b → Q false u) (ht : (σ 20 0).testBit d = (!b) → ∀ u', RR 0 (sU σ 20 0 (σ 20 0 ^^^ 2 ^ d)) u' → rd u u' → Q true u') : p_X11_turns (nI d) (6 : Int32) b u Q := by
  have h10 := ok.d
  unfold p_X11_turns
  refine r_doorV (w := 6) (f := 20) (v := nI (bitN (σ 20 0) d)) R ok hd rfl (by decide) (by decide) rfl (by simp [rk]; omega) rfl ?_
  rw [bitN_1]
  have st : ∀ x : Int32, x = nI (bitN (σ 20 0 ^^^ 2 ^ d) d) → RR 0 (sU σ 20 0 (σ 20 0 ^^^ 2 ^ d)) (si u 273 (61 + 8 * d) x) := fun x hx => by
    refine RR.st (f := 20) (i := d) R ok.r ok.d ok.e rfl rfl rfl (by decide) (by unfold rkM; simp; omega) (by simp [rk]; try omega) hx (fun g hg j hj hne => ?_)
    by_cases e : g = 20
    · subst e
      show nI (bitN (σ 20 0 ^^^ 2 ^ d) j) = nI (bitN (σ 20 0) j)
      rw [bitN_x, if_neg (fun z => hne ⟨rfl, z⟩)]
    · have e1 : ∀ j, sU σ 20 0 (σ 20 0 ^^^ 2 ^ d) g j = σ g j := fun j => by rw [sU_at, if_neg (by rintro ⟨z, -⟩; exact e z)]
      have e2 : rotD (sU σ 20 0 (σ 20 0 ^^^ 2 ^ d)) j = rotD σ j := rfl
      unfold rv
      rw [e1, e1, e2]
  have go : ∀ w0 : Bool, (σ 20 0).testBit d = w0 → p_X11_turns_L15 Q (nI d) (6 : Int32) b w0 u := fun w0 hw0 => by
    unfold p_X11_turns_L15
    rw [xb_ne, xb_eq]
    refine ⟨fun c => r_doorRow ?_, fun c => hf (hw0.trans c)⟩
    rw [l_6, cA]
    have ht' := ht (hw0.trans c)
    refine ⟨fun z => ⟨cIN (by omega) (by decide), fun u6 h6 => ht' u6 ?_ ?_⟩, fun z => ⟨cIN (by omega) (by decide), fun u6 h6 => ht' u6 ?_ ?_⟩⟩
    · rw [h6, cCL (by omega), show 55 + 8 * d + 6 = 61 + 8 * d by omega]
      refine st _ ?_
      rw [bitN_x, if_pos rfl]; unfold bitN; rw [hw0, c, z]; rfl
    · rw [h6, cCL (by omega)]
      exact rd.w (by omega)
    · rw [h6, cCL (by omega), show 55 + 8 * d + 6 = 61 + 8 * d by omega]
      refine st _ ?_
      rw [bitN_x, if_pos rfl]; unfold bitN; rw [hw0, c, z]; rfl
    · rw [h6, cCL (by omega)]
      exact rd.w (by omega)
  exact ⟨fun c => go false (by simpa using c), fun c => go true c⟩
theorem K_hold (I : INV u) (a : Int32) (b : Bool) : p_X10_hold a b u (fun r u1 => p_X11_hold a b u1 (fun r' u2 => r = r' ∧ INV u2)) := by
  obtain ⟨σ, S, L, ok, R⟩ := I.sp
  have h3 := okS.hour S
  have hp : σ 23 0 = 4095 := S.2.2.2.2.1
  have h10 := ok.d
  have hh := ok.held
  have hp10 := ok.p10
  rcases below (a := a) (σ 1 0) with ⟨d, hd, rfl⟩ | hd
  · by_cases c : (σ 20 0).testBit d = b
    · refine pj (pc := p_X10_hold (nI d) b u) (pr := p_X11_hold (nI d) b) I ok R false 7 (fun Q hq => ?_) (fun u1 c1 R Q hq => ?_)
      · unfold p_X10_hold
        refine k_isDoorT L ok hd ⟨fun _ => k_isHeld L ok (by omega) ?_, fun z => absurd z (by decide)⟩
        rw [xb_ne, xb_eq, c]
        exact ⟨fun z => absurd z (by cases b <;> decide), fun _ => k_refused hq cq.rf⟩
      · unfold p_X11_hold
        refine r_isDoorT R ok hd ⟨fun _ => r_turns20 R.1 ok hd (fun _ => ⟨fun _ => r_isF (by decide) hq rq.rf, fun z => absurd z (by decide)⟩) (fun z => absurd (c.symm.trans z) (by cases b <;> decide)), fun z => absurd z (by decide)⟩
    · have c' : (σ 20 0).testBit d = !b := by cases hb : (σ 20 0).testBit d <;> cases b <;> simp_all
      have hv : σ 20 0 ^^^ 2 ^ d < 2 ^ σ 1 0 := xor_lt2 hh (p2lt hd)
      have okt := okS_held ok hv
      refine pd (pc := p_X10_hold (nI d) b u) (pr := p_X11_hold (nI d) b) (τ := sU σ 20 0 (σ 20 0 ^^^ 2 ^ d)) I S R ⟨okt, h3, hp, rfl, rfl, rfl⟩ true 0 (fun Q hq => ?_) (fun u1 c1 R Q hq => ?_)
      · unfold p_X10_hold
        refine k_isDoorT L ok hd ⟨fun _ => k_isHeld L ok (by omega) ?_, fun z => absurd z (by decide)⟩
        rw [xb_ne, xb_eq, c']
        refine ⟨fun _ u7 h7 => ?_, fun z => absurd z (by cases b <;> decide)⟩
        rw [show gi u 92 1 = nI (σ 20 0) from L.f20, bPOW (by omega), bXOR] at h7
        subst h7
        exact k_doneD hq (L.up (f := 20) (i := 0) (by decide) (by decide) (by decide) (by decide) (by simp [rlN]) rfl rfl rfl) (cd.w (by omega))
      · unfold p_X11_hold
        refine r_isDoorT R ok hd ⟨fun _ => r_turns20 R.1 ok hd (fun z => absurd z c) (fun _ u2 R2 g2 => ⟨fun z => absurd z (by decide), fun _ => r_isD hq okt R2 g2⟩), fun z => absurd z (by decide)⟩
  · refine pj (pc := p_X10_hold a b u) (pr := p_X11_hold a b) I ok R false 1 (fun Q hq => ?_) (fun u1 c1 R Q hq => ?_)
    · unfold p_X10_hold
      exact k_isDoorF L ok hd ⟨fun z => absurd z (by decide), fun _ => k_refused hq cq.rf⟩
    · unfold p_X11_hold
      exact r_isDoorF R ok hd ⟨fun z => absurd z (by decide), fun _ => r_isF (by decide) hq rq.rf⟩
theorem r_turns21 {d : Nat} {b : Bool} {Q : Bool → xM → Prop} (R : RR 0 σ u) (ok : okS σ) (hd : d < σ 1 0) (hf : (σ 21 0).testBit d = b → Q false u) (ht : (σ 21 0).testBit d = (!b) → ∀ u', RR 0 (sU σ 21 0 (σ 21 0 ^^^ 2 ^ d)) u' → rd u u' → Q true u') : p_X11_turns (nI d) (7 : Int32) b u Q := by
  have h10 := ok.d
  unfold p_X11_turns
  refine r_doorV (w := 7) (f := 21) (v := nI (bitN (σ 21 0) d)) R ok hd rfl (by decide) (by decide) rfl (by simp [rk]; omega) rfl ?_
  rw [bitN_1]
  have st : ∀ x : Int32, x = nI (bitN (σ 21 0 ^^^ 2 ^ d) d) → RR 0 (sU σ 21 0 (σ 21 0 ^^^ 2 ^ d)) (si u 273 (62 + 8 * d) x) := fun x hx => by
    refine RR.st (f := 21) (i := d) R ok.r ok.d ok.e rfl rfl rfl (by decide) (by unfold rkM; simp; omega) (by simp [rk]; try omega) hx (fun g hg j hj hne => ?_)
    by_cases e : g = 21
    · subst e
      show nI (bitN (σ 21 0 ^^^ 2 ^ d) j) = nI (bitN (σ 21 0) j)
      rw [bitN_x, if_neg (fun z => hne ⟨rfl, z⟩)]
    · have e1 : ∀ j, sU σ 21 0 (σ 21 0 ^^^ 2 ^ d) g j = σ g j := fun j => by rw [sU_at, if_neg (by rintro ⟨z, -⟩; exact e z)]
      have e2 : rotD (sU σ 21 0 (σ 21 0 ^^^ 2 ^ d)) j = rotD σ j := rfl
      unfold rv
      rw [e1, e1, e2]
  have go : ∀ w0 : Bool, (σ 21 0).testBit d = w0 → p_X11_turns_L15 Q (nI d) (7 : Int32) b w0 u := fun w0 hw0 => by
    unfold p_X11_turns_L15
    rw [xb_ne, xb_eq]
    refine ⟨fun c => r_doorRow ?_, fun c => hf (hw0.trans c)⟩
    rw [l_7, cA]
    have ht' := ht (hw0.trans c)
    refine ⟨fun z => ⟨cIN (by omega) (by decide), fun u6 h6 => ht' u6 ?_ ?_⟩, fun z => ⟨cIN (by omega) (by decide), fun u6 h6 => ht' u6 ?_ ?_⟩⟩
    · rw [h6, cCL (by omega), show 55 + 8 * d + 7 = 62 + 8 * d by omega]
      refine st _ ?_
      rw [bitN_x, if_pos rfl]; unfold bitN; rw [hw0, c, z]; rfl
    · rw [h6, cCL (by omega)]
      exact rd.w (by omega)
    · rw [h6, cCL (by omega), show 55 + 8 * d + 7 = 62 + 8 * d by omega]
      refine st _ ?_
      rw [bitN_x, if_pos rfl]; unfold bitN; rw [hw0, c, z]; rfl
    · rw [h6, cCL (by omega)]
      exact rd.w (by omega)
  exact ⟨fun c => go false (by simpa using c), fun c => go true c⟩
theorem K_wall (I : INV u) (a : Int32) (b : Bool) : p_X10_wall a b u (fun r u1 => p_X11_wall a b u1 (fun r' u2 => r = r' ∧ INV u2)) := by
  obtain ⟨σ, S, L, ok, R⟩ := I.sp
  have h3 := okS.hour S
  have hp : σ 23 0 = 4095 := S.2.2.2.2.1
  have h10 := ok.d
  have hh := ok.walled
  have hp10 := ok.p10
  rcases below (a := a) (σ 1 0) with ⟨d, hd, rfl⟩ | hd
  · by_cases c : (σ 21 0).testBit d = b
    · refine pj (pc := p_X10_wall (nI d) b u) (pr := p_X11_wall (nI d) b) I ok R false 7 (fun Q hq => ?_) (fun u1 c1 R Q hq => ?_)
      · unfold p_X10_wall
        refine k_isDoorT L ok hd ⟨fun _ => k_isWalled L ok (by omega) ?_, fun z => absurd z (by decide)⟩
        rw [xb_ne, xb_eq, c]
        exact ⟨fun z => absurd z (by cases b <;> decide), fun _ => k_refused hq cq.rf⟩
      · unfold p_X11_wall
        refine r_isDoorT R ok hd ⟨fun _ => r_turns21 R.1 ok hd (fun _ => ⟨fun _ => r_isF (by decide) hq rq.rf, fun z => absurd z (by decide)⟩) (fun z => absurd (c.symm.trans z) (by cases b <;> decide)), fun z => absurd z (by decide)⟩
    · have c' : (σ 21 0).testBit d = !b := by cases hb : (σ 21 0).testBit d <;> cases b <;> simp_all
      have hv : σ 21 0 ^^^ 2 ^ d < 2 ^ σ 1 0 := xor_lt2 hh (p2lt hd)
      have okt := okS_walled ok hv
      refine pd (pc := p_X10_wall (nI d) b u) (pr := p_X11_wall (nI d) b) (τ := sU σ 21 0 (σ 21 0 ^^^ 2 ^ d)) I S R ⟨okt, h3, hp, rfl, rfl, rfl⟩ true 0 (fun Q hq => ?_) (fun u1 c1 R Q hq => ?_)
      · unfold p_X10_wall
        refine k_isDoorT L ok hd ⟨fun _ => k_isWalled L ok (by omega) ?_, fun z => absurd z (by decide)⟩
        rw [xb_ne, xb_eq, c']
        refine ⟨fun _ u7 h7 => ?_, fun z => absurd z (by cases b <;> decide)⟩
        rw [show gi u 92 2 = nI (σ 21 0) from L.f21, bPOW (by omega), bXOR] at h7
        subst h7
        exact k_doneD hq (L.up (f := 21) (i := 0) (by decide) (by decide) (by decide) (by decide) (by simp [rlN]) rfl rfl rfl) (cd.w (by omega))
      · unfold p_X11_wall
        refine r_isDoorT R ok hd ⟨fun _ => r_turns21 R.1 ok hd (fun z => absurd z c) (fun _ u2 R2 g2 => ⟨fun z => absurd z (by decide), fun _ => r_isD hq okt R2 g2⟩), fun z => absurd z (by decide)⟩
  · refine pj (pc := p_X10_wall a b u) (pr := p_X11_wall a b) I ok R false 1 (fun Q hq => ?_) (fun u1 c1 R Q hq => ?_)
    · unfold p_X10_wall
      exact k_isDoorF L ok hd ⟨fun z => absurd z (by decide), fun _ => k_refused hq cq.rf⟩
    · unfold p_X11_wall
      exact r_isDoorF R ok hd ⟨fun z => absurd z (by decide), fun _ => r_isF (by decide) hq rq.rf⟩
end DEEDS
