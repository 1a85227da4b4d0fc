/-! ===== more deeds ===== -/
section DEEDS2
variable {σ τ : aS} {u u' : xM} {o : Nat}
/-- one number of a room or a door of the reference -/
theorem RR.one {b f i v k : Nat} {x : Int32} (R : RR b σ u) (ok : okS σ) (hf : f < 23) (h0 : 3 < f) (h19 : f ≠ 19) (hi : i < rrN σ f) (hb : f ≠ 20 ∧ f ≠ 21 ∧ f ≠ 22) (hk : k = b + rk f i) (hx : x = rv (sU σ f i v) f i) : RR b (sU σ f i v) (si u 273 k x) := by
  have e0 : ∀ g j, g ≠ f → sU σ f i v g j = σ g j := fun g j h => by rw [sU_at, if_neg (by rintro ⟨z, -⟩; exact h z)]
  refine RR.st (f := f) (i := i) R ok.r ok.d ok.e (e0 _ _ (by omega)) (e0 _ _ (by omega)) (e0 _ _ (by omega)) hf (Nat.lt_of_lt_of_le hi (rrN_le ok.r ok.d ok.e f)) hk hx (fun g hg j hj hne => ?_)
  have e1 : sU σ f i v g j = σ g j := by
    rw [sU_at, if_neg (by rintro ⟨z, y⟩; exact hne ⟨z, y⟩)]
  have e2 : rotD (sU σ f i v) j = rotD σ j := by
    unfold rotD
    exact mk_congr (fun h _ => by rw [e0 19 h (by omega)])
  have e3 : (g = 20 ∨ g = 21 ∨ g = 22) → sU σ f i v g 0 = σ g 0 := fun z => e0 _ _ (by omega)
  unfold rv
  rw [e1, e2]
  split
  · rfl
  · split
    · rfl
    · split
      · rename_i z; rw [e3 z]
      · rfl
theorem okS_water (ok : okS σ) {r v : Nat} (h : v ≤ 9999) : okS (sU σ 8 r v) := ⟨ok.r, ok.d, ok.e, ok.h, fun q hq => by
  have := ok.rm hq
  refine ⟨this.1, this.2.1, this.2.2.1, this.2.2.2.1, this.2.2.2.2.1, this.2.2.2.2.2.1, ?_, this.2.2.2.2.2.2.2⟩
  rw [sU_at]
  split
  · exact h
  · exact this.2.2.2.2.2.2.1, fun d hd => ok.dr hd, fun e he => ok.er he, fun k hk => ok.hr hk, ok.held, ok.walled, ok.drowned, ok.ph⟩
theorem okS_pump (ok : okS σ) {r v : Nat} (h : v ≤ 99) : okS (sU σ 7 r v) := ⟨ok.r, ok.d, ok.e, ok.h, fun q hq => by
  have := ok.rm hq
  refine ⟨this.1, this.2.1, this.2.2.1, this.2.2.2.1, this.2.2.2.2.1, ?_, this.2.2.2.2.2.2⟩
  rw [sU_at]
  split
  · exact h
  · exact this.2.2.2.2.2.1, fun d hd => ok.dr hd, fun e he => ok.er he, fun k hk => ok.hr hk, ok.held, ok.walled, ok.drowned, ok.ph⟩
theorem okS_sill (ok : okS σ) {d v : Nat} (h : v ≤ 99) : okS (sU σ 12 d v) := ⟨ok.r, ok.d, ok.e, ok.h, fun q hq => ok.rm hq, fun q hq => by
  have := ok.dr hq
  refine ⟨this.1, this.2.1, this.2.2.1, ?_, this.2.2.2.2⟩
  rw [sU_at]
  split
  · exact h
  · exact this.2.2.2.1, fun e he => ok.er he, fun k hk => ok.hr hk, ok.held, ok.walled, ok.drowned, ok.ph⟩
theorem okS_tide (ok : okS σ) {k v : Nat} (h : v ≤ 99) : okS (sU σ 18 k v) := ⟨ok.r, ok.d, ok.e, ok.h, fun q hq => ok.rm hq, fun q hq => ok.dr hq, fun e he => ok.er he, fun q hq => by
  have := ok.hr hq
  refine ⟨?_, this.2⟩
  rw [sU_at]
  split
  · exact h
  · exact this.1, ok.held, ok.walled, ok.drowned, ok.ph⟩
theorem okS_rota (ok : okS σ) {k v : Nat} (h : v < 2 ^ σ 1 0) : okS (sU σ 19 k v) := ⟨ok.r, ok.d, ok.e, ok.h, fun q hq => ok.rm hq, fun q hq => ok.dr hq, fun e he => ok.er he, fun q hq => by
  have := ok.hr hq
  refine ⟨this.1, ?_⟩
  rw [sU_at]
  split
  · exact h
  · exact this.2, ok.held, ok.walled, ok.drowned, ok.ph⟩
theorem K_bail (I : INV u) (a b : Int32) : p_X10_bail a b u (fun r u1 => p_X11_bail a b u1 (fun r' u2 => r = r' ∧ INV u2)) := by
  obtain ⟨σ, S, L, ok, R⟩ := I.sp
  have h3 := okS.hour S
  have hp : σ 23 0 = 4095 := S.2.2.2.2.1
  have h7 := ok.r
  rcases below (a := a) (σ 0 0) with ⟨r, hr, rfl⟩ | hr
  · have hm := ok.rm hr
    rcases fromTo (a := b) 1 999 (by decide) with ⟨n, n1, n2, rfl⟩ | hn
    · by_cases c : n ≤ σ 8 r
      · have okt := okS_water (r := r) (v := σ 8 r - n) ok (by omega)
        refine pd (pc := p_X10_bail (nI r) (nI n) u) (pr := p_X11_bail (nI r) (nI n)) (τ := sU σ 8 r (σ 8 r - n)) I S R ⟨okt, h3, hp, rfl, rfl, rfl⟩ (nI (σ 8 r - n)) 0 (fun Q hq => ?_) (fun u1 c1 R Q hq => ?_)
        · unfold p_X10_bail
          refine k_isRoomT L ok hr ⟨fun z => absurd z (by decide), fun _ => k_withinT (lo := 1) (hi := 999) rfl rfl n1 n2 (by decide) ⟨fun _ => ⟨cIN (by omega) (by decide), ?_⟩, fun z => absurd z (by decide)⟩⟩
          rw [cCL (by omega), show gi u 90 r = nI (σ 8 r) from L.f8 hr, cLE (by omega) (by omega)]
          refine ⟨fun _ => ⟨cIN (by omega) (by decide), cIN (by omega) (by decide), fun u13 h13 => ⟨cIN (by omega) (by decide), ?_⟩⟩, fun z => absurd c z⟩
          rw [cS c] at h13
          subst h13
          rw [gi_at]
          exact k_fineD hq (L.up (f := 8) (i := r) (by decide) (by decide) (by decide) (by decide) (by simpa [rlN] using hr) rfl rfl (by simp [rlS])) (cd.w (by omega))
        · unfold p_X11_bail
          refine r_isRoomT R ok hr ⟨fun z => absurd z (by decide), fun _ => r_fromT (lo := 1) (hi := 999) (by decide) (by decide) n1 n2 (by decide) ⟨fun _ => ?_, fun z => absurd z (by decide)⟩⟩
          unfold p_X11_bails
          refine r_roomV (w := 4) (f := 8) (v := nI (σ 8 r)) R.1 ok hr rfl (by decide) (by decide) rfl (by simp [rk]; omega) rfl ?_
          rw [cLE (by omega) (by omega)]
          refine ⟨fun _ => r_roomRow ?_, fun z => absurd c z⟩
          rw [l_4, cA]
          refine ⟨cIN (by omega) (by decide), cIN (by omega) (by decide), fun u8 h8 => ?_⟩
          rw [cCL (by omega), show 6 + 7 * r + 4 = 10 + 7 * r by omega, R.1.r8 hr, cS c] at h8
          have R2 : RR 0 (sU σ 8 r (σ 8 r - n)) u8 := by
            rw [h8]
            exact RR.one R.1 ok (by decide) (by decide) (by decide) (by simpa [rrN] using hr) (by decide) (by simp [rk]) (by simp [rv, sU_at])
          have g2 : rd u1 u8 := by rw [h8]; exact rd.w (by omega)
          refine ⟨fun z => absurd z (by decide), fun _ => ?_⟩
          refine r_roomV (w := 4) (f := 8) (v := nI (σ 8 r - n)) R2 okt hr rfl (by decide) (by decide) rfl (by simp [rk]; omega) (by simp [rv, sU_at]) ?_
          exact r_givesD hq okt R2 g2
      · refine pj (pc := p_X10_bail (nI r) (nI n) u) (pr := p_X11_bail (nI r) (nI n)) I ok R (-1) 7 (fun Q hq => ?_) (fun u1 c1 R Q hq => ?_)
        · unfold p_X10_bail
          refine k_isRoomT L ok hr ⟨fun z => absurd z (by decide), fun _ => k_withinT (lo := 1) (hi := 999) rfl rfl n1 n2 (by decide) ⟨fun _ => ⟨cIN (by omega) (by decide), ?_⟩, fun z => absurd z (by decide)⟩⟩
          rw [cCL (by omega), show gi u 90 r = nI (σ 8 r) from L.f8 hr, cLE (by omega) (by omega)]
          exact ⟨fun z => absurd z c, fun _ => k_none hq cq.rf⟩
        · unfold p_X11_bail
          refine r_isRoomT R ok hr ⟨fun z => absurd z (by decide), fun _ => r_fromT (lo := 1) (hi := 999) (by decide) (by decide) n1 n2 (by decide) ⟨fun _ => ?_, fun z => absurd z (by decide)⟩⟩
          unfold p_X11_bails
          refine r_roomV (w := 4) (f := 8) (v := nI (σ 8 r)) R.1 ok hr rfl (by decide) (by decide) rfl (by simp [rk]; omega) rfl ?_
          rw [cLE (by omega) (by omega)]
          exact ⟨fun z => absurd z c, fun _ => ⟨fun _ => r_refuse hq rq.rf, fun z => absurd z (by decide)⟩⟩
    · refine pj (pc := p_X10_bail (nI r) b u) (pr := p_X11_bail (nI r) b) I ok R (-1) 1 (fun Q hq => ?_) (fun u1 c1 R Q hq => ?_)
      · unfold p_X10_bail
        exact k_isRoomT L ok hr ⟨fun z => absurd z (by decide), fun _ => k_withinF (lo := 1) (hi := 999) rfl rfl hn (by decide) (by decide) ⟨fun z => absurd z (by decide), fun _ => k_none hq cq.rf⟩⟩
      · unfold p_X11_bail
        exact r_isRoomT R ok hr ⟨fun z => absurd z (by decide), fun _ => r_fromF (lo := 1) (hi := 999) (by decide) (by decide) hn (by decide) ⟨fun z => absurd z (by decide), fun _ => r_refuse hq rq.rf⟩⟩
  · refine pj (pc := p_X10_bail a b u) (pr := p_X11_bail a b) I ok R (-1) 1 (fun Q hq => ?_) (fun u1 c1 R Q hq => ?_)
    · unfold p_X10_bail
      exact k_isRoomF L ok hr ⟨fun _ => k_none hq cq.rf, fun z => absurd z (by decide)⟩
    · unfold p_X11_bail
      exact r_isRoomF R ok hr ⟨fun _ => r_refuse hq rq.rf, fun z => absurd z (by decide)⟩
theorem K_moon (I : INV u) (a b : Int32) : p_X10_moon a b u (fun r u1 => p_X11_moon a b u1 (fun r' u2 => r = r' ∧ INV u2)) := by
  obtain ⟨σ, S, L, ok, R⟩ := I.sp
  have h3 := okS.hour S
  have hp : σ 23 0 = 4095 := S.2.2.2.2.1
  rcases below (a := a) 12 with ⟨r, hr, rfl⟩ | hr
  · rcases fromTo (a := b) 0 99 (by decide) with ⟨n, n1, n2, rfl⟩ | hn
    · have okt := okS_tide (k := r) (v := n) ok n2
      refine pd (pc := p_X10_moon (nI r) (nI n) u) (pr := p_X11_moon (nI r) (nI n)) (τ := sU σ 18 r n) I S R ⟨okt, h3, hp, rfl, rfl, rfl⟩ true 0 (fun Q hq => ?_) (fun u1 c1 R Q hq => ?_)
      · unfold p_X10_moon
        refine k_isHourT hr ⟨fun z => absurd z (by decide), fun _ => k_withinT (lo := 0) (hi := 99) rfl rfl n1 n2 (by decide) ⟨fun _ => ⟨cIN (by omega) (by decide), fun u10 h10 => ?_⟩, fun z => absurd z (by decide)⟩⟩
        rw [cCL (by omega)] at h10
        subst h10
        exact k_doneD hq (L.up (f := 18) (i := r) (by decide) (by decide) (by decide) (by decide) (by simpa [rlN] using hr) rfl rfl (by simp [rlS])) (cd.w (by omega))
      · unfold p_X11_moon
        refine r_isHourT hr ⟨fun z => absurd z (by decide), fun _ => r_fromT (lo := 0) (hi := 99) (by decide) (by decide) n1 n2 (by decide) ⟨fun _ => ?_, fun z => absurd z (by decide)⟩⟩
        rw [l_135, cA]
        refine ⟨cIN (by omega) (by decide), fun u10 h10 => ?_⟩
        rw [cCL (by omega)] at h10
        subst h10
        exact r_isD hq okt (RR.one R.1 ok (by decide) (by decide) (by decide) (by simpa [rrN] using hr) (by decide) (by simp [rk]) (by simp [rv, sU_at])) (rd.w (by omega))
    · refine pj (pc := p_X10_moon (nI r) b u) (pr := p_X11_moon (nI r) b) I ok R false 1 (fun Q hq => ?_) (fun u1 c1 R Q hq => ?_)
      · unfold p_X10_moon
        exact k_isHourT hr ⟨fun z => absurd z (by decide), fun _ => k_withinF (lo := 0) (hi := 99) rfl rfl hn (by decide) (by decide) ⟨fun z => absurd z (by decide), fun _ => k_refused hq cq.rf⟩⟩
      · unfold p_X11_moon
        exact r_isHourT hr ⟨fun z => absurd z (by decide), fun _ => r_fromF (lo := 0) (hi := 99) (by decide) (by decide) hn (by decide) ⟨fun z => absurd z (by decide), fun _ => r_isF (by decide) hq rq.rf⟩⟩
  · refine pj (pc := p_X10_moon a b u) (pr := p_X11_moon a b) I ok R false 1 (fun Q hq => ?_) (fun u1 c1 R Q hq => ?_)
    · unfold p_X10_moon
      exact k_isHourF hr ⟨fun _ => k_refused hq cq.rf, fun z => absurd z (by decide)⟩
    · unfold p_X11_moon
      exact r_isHourF hr ⟨fun _ => r_isF (by decide) hq rq.rf, fun z => absurd z (by decide)⟩
theorem K_pump (I : INV u) (a b : Int32) : p_X10_pump a b u (fun r u1 => p_X11_pump a b u1 (fun r' u2 => r = r' ∧ INV u2)) := by
  obtain ⟨σ, S, L, ok, R⟩ := I.sp
  have h3 := okS.hour S
  have hp : σ 23 0 = 4095 := S.2.2.2.2.1
  have h7 := ok.r
  rcases below (a := a) (σ 0 0) with ⟨r, hr, rfl⟩ | hr
  · rcases fromTo (a := b) 0 99 (by decide) with ⟨n, n1, n2, rfl⟩ | hn
    · have okt := okS_pump (r := r) (v := n) ok n2
      refine pd (pc := p_X10_pump (nI r) (nI n) u) (pr := p_X11_pump (nI r) (nI n)) (τ := sU σ 7 r n) I S R ⟨okt, h3, hp, rfl, rfl, rfl⟩ true 0 (fun Q hq => ?_) (fun u1 c1 R Q hq => ?_)
      · unfold p_X10_pump
        refine k_isRoomT L ok hr ⟨fun z => absurd z (by decide), fun _ => k_withinT (lo := 0) (hi := 99) rfl rfl n1 n2 (by decide) ⟨fun _ => ⟨cIN (by omega) (by decide), fun u10 h10 => ?_⟩, fun z => absurd z (by decide)⟩⟩
        rw [cCL (by omega)] at h10
        subst h10
        exact k_doneD hq (L.up (f := 7) (i := r) (by decide) (by decide) (by decide) (by decide) (by simpa [rlN] using hr) rfl rfl (by simp [rlS])) (cd.w (by omega))
      · unfold p_X11_pump
        refine r_isRoomT R ok hr ⟨fun z => absurd z (by decide), fun _ => r_fromT (lo := 0) (hi := 99) (by decide) (by decide) n1 n2 (by decide) ⟨fun _ => r_roomRow ?_, fun z => absurd z (by decide)⟩⟩
        rw [l_3, cA]
        refine ⟨cIN (by omega) (by decide), fun u10 h10 => ?_⟩
        rw [cCL (by omega)] at h10
        subst h10
        exact r_isD hq okt (RR.one R.1 ok (by decide) (by decide) (by decide) (by simpa [rrN] using hr) (by decide) (by simp [rk]; omega) (by simp [rv, sU_at])) (rd.w (by omega))
    · refine pj (pc := p_X10_pump (nI r) b u) (pr := p_X11_pump (nI r) b) I ok R false 1 (fun Q hq => ?_) (fun u1 c1 R Q hq => ?_)
      · unfold p_X10_pump
        exact k_isRoomT L ok hr ⟨fun z => absurd z (by decide), fun _ => k_withinF (lo := 0) (hi := 99) rfl rfl hn (by decide) (by decide) ⟨fun z => absurd z (by decide), fun _ => k_refused hq cq.rf⟩⟩
      · unfold p_X11_pump
        exact r_isRoomT R ok hr ⟨fun z => absurd z (by decide), fun _ => r_fromF (lo := 0) (hi := 99) (by decide) (by decide) hn (by decide) ⟨fun z => absurd z (by decide), fun _ => r_isF (by decide) hq rq.rf⟩⟩
  · refine pj (pc := p_X10_pump a b u) (pr := p_X11_pump a b) I ok R false 1 (fun Q hq => ?_) (fun u1 c1 R Q hq => ?_)
    · unfold p_X10_pump
      exact k_isRoomF L ok hr ⟨fun _ => k_refused hq cq.rf, fun z => absurd z (by decide)⟩
    · unfold p_X11_pump
      exact r_isRoomF R ok hr ⟨fun _ => r_isF (by decide) hq rq.rf, fun z => absurd z (by decide)⟩
end DEEDS2
