/-! ===== questions of the land as it is ===== -/
section QSIMPLE
variable {σ : aS} {u : xM}
theorem K_status (I : INV u) : p_X10_status u (fun r u1 => p_X11_status u1 (fun r' u2 => r = r' ∧ INV u2)) := ⟨I.st, I⟩
theorem K_top (I : INV u) : p_X10_top u (fun r u1 => p_X11_top u1 (fun r' u2 => r = r' ∧ INV u2)) := ⟨I.tp, I⟩
theorem K_bottom (I : INV u) : p_X10_bottom u (fun r u1 => p_X11_bottom u1 (fun r' u2 => r = r' ∧ INV u2)) := ⟨I.bt, I⟩
theorem K_fault (I : INV u) (a : Int32) : p_X10_fault a u (fun r u1 => p_X11_fault a u1 (fun r' u2 => r = r' ∧ INV u2)) := by
  have h1 := I.fk
  have h2 := I.fp
  unfold p_X10_fault p_X11_fault
  by_cases c0 : a = 0
  · simp [c0, h1, I]
  · by_cases c1 : a = 1
    · simp [c1, h2, I]
    · simp [c0, c1, I]

theorem K_told (I : INV u) (a : Int32) : p_X10_told a u (fun r u1 => p_X11_told a u1 (fun r' u2 => r = r' ∧ INV u2)) := by
  obtain ⟨σ, S, L, ok, R⟩ := I.sp
  rcases below (a := a) 10 with ⟨w, hw, rfl⟩ | hw
  · rcases (by omega : w = 0 ∨ w = 1 ∨ w = 2 ∨ w = 3 ∨ w = 4 ∨ w = 5 ∨ w = 6 ∨ w = 7 ∨ w = 8 ∨ w = 9) with rfl | rfl | rfl | rfl | rfl | rfl | rfl | rfl | rfl | rfl
    · refine pj (pc := p_X10_told (nI 0) u) (pr := p_X11_told (nI 0)) I ok R (nI (σ 0 0)) 0 (fun Q hq => ?_) (fun u1 c1 R Q hq => ?_)
      · unfold p_X10_told
        rw [show gi u 84 0 = nI (σ 0 0) from L.f0]
        exact ⟨fun _ => k_fine hq cq.rf, fun c => absurd c (by decide), fun c => absurd c (by decide), fun c => absurd c (by decide), fun c => absurd c (by decide), fun c => absurd c (by decide), fun c => absurd c (by decide), fun c => absurd c (by decide), fun c => absurd c (by decide), fun c => absurd c (by decide), fun c0 c1 c2 c3 c4 c5 c6 c7 c8 c9 => absurd rfl c0⟩
      · unfold p_X11_told
        refine ⟨fun c => absurd c (by decide), fun _ => ⟨fun _ => ⟨fun c => absurd c (by decide), fun _ => ⟨cIN (by decide) (by decide), ?_⟩⟩, fun c => absurd (by decide) c⟩⟩
        rw [cCL (by decide), R.1.r0]
        exact r_gives hq rq.rf
    · refine pj (pc := p_X10_told (nI 1) u) (pr := p_X11_told (nI 1)) I ok R (nI (σ 1 0)) 0 (fun Q hq => ?_) (fun u1 c1 R Q hq => ?_)
      · unfold p_X10_told
        rw [show gi u 92 0 = nI (σ 1 0) from L.f1]
        exact ⟨fun c => absurd c (by decide), fun _ => k_fine hq cq.rf, fun c => absurd c (by decide), fun c => absurd c (by decide), fun c => absurd c (by decide), fun c => absurd c (by decide), fun c => absurd c (by decide), fun c => absurd c (by decide), fun c => absurd c (by decide), fun c => absurd c (by decide), fun c0 c1 c2 c3 c4 c5 c6 c7 c8 c9 => absurd rfl c1⟩
      · unfold p_X11_told
        refine ⟨fun c => absurd c (by decide), fun _ => ⟨fun _ => ⟨fun c => absurd c (by decide), fun _ => ⟨cIN (by decide) (by decide), ?_⟩⟩, fun c => absurd (by decide) c⟩⟩
        rw [cCL (by decide), R.1.r1]
        exact r_gives hq rq.rf
    · refine pj (pc := p_X10_told (nI 2) u) (pr := p_X11_told (nI 2)) I ok R (nI (σ 2 0)) 0 (fun Q hq => ?_) (fun u1 c1 R Q hq => ?_)
      · unfold p_X10_told
        rw [show gi u 83 2 = nI (σ 2 0) from L.f2]
        exact ⟨fun c => absurd c (by decide), fun c => absurd c (by decide), fun _ => k_fine hq cq.rf, fun c => absurd c (by decide), fun c => absurd c (by decide), fun c => absurd c (by decide), fun c => absurd c (by decide), fun c => absurd c (by decide), fun c => absurd c (by decide), fun c => absurd c (by decide), fun c0 c1 c2 c3 c4 c5 c6 c7 c8 c9 => absurd rfl c2⟩
      · unfold p_X11_told
        refine ⟨fun c => absurd c (by decide), fun _ => ⟨fun _ => ⟨fun c => absurd c (by decide), fun _ => ⟨cIN (by decide) (by decide), ?_⟩⟩, fun c => absurd (by decide) c⟩⟩
        rw [cCL (by decide), R.1.r2]
        exact r_gives hq rq.rf
    · refine pj (pc := p_X10_told (nI 3) u) (pr := p_X11_told (nI 3)) I ok R (nI (σ 3 0)) 0 (fun Q hq => ?_) (fun u1 c1 R Q hq => ?_)
      · unfold p_X10_told
        rw [show gi u 83 8 = nI (σ 3 0) from L.f3]
        exact ⟨fun c => absurd c (by decide), fun c => absurd c (by decide), fun c => absurd c (by decide), fun _ => k_fine hq cq.rf, fun c => absurd c (by decide), fun c => absurd c (by decide), fun c => absurd c (by decide), fun c => absurd c (by decide), fun c => absurd c (by decide), fun c => absurd c (by decide), fun c0 c1 c2 c3 c4 c5 c6 c7 c8 c9 => absurd rfl c3⟩
      · unfold p_X11_told
        refine ⟨fun c => absurd c (by decide), fun _ => ⟨fun _ => ⟨fun c => absurd c (by decide), fun _ => ⟨cIN (by decide) (by decide), ?_⟩⟩, fun c => absurd (by decide) c⟩⟩
        rw [cCL (by decide), R.1.r3]
        exact r_gives hq rq.rf
    · refine pj (pc := p_X10_told (nI 4) u) (pr := p_X11_told (nI 4)) I ok R (nI (allW σ)) 0 (fun Q hq => ?_) (fun u1 c1 R Q hq => ?_)
      · unfold p_X10_told
        exact ⟨fun c => absurd c (by decide), fun c => absurd c (by decide), fun c => absurd c (by decide), fun c => absurd c (by decide), fun _ => k_allWater L ok (k_fine hq cq.rf), fun c => absurd c (by decide), fun c => absurd c (by decide), fun c => absurd c (by decide), fun c => absurd c (by decide), fun c => absurd c (by decide), fun c0 c1 c2 c3 c4 c5 c6 c7 c8 c9 => absurd rfl c4⟩
      · unfold p_X11_told
        exact ⟨fun c => absurd c (by decide), fun _ => ⟨fun _ => ⟨fun _ => ⟨fun c => absurd rfl c, fun _ => r_allWater R.1 ok (r_gives hq rq.rf)⟩, fun c => absurd (by decide) c⟩, fun c => absurd (by decide) c⟩⟩
    · refine pj (pc := p_X10_told (nI 5) u) (pr := p_X11_told (nI 5)) I ok R (nI (mk (fun r => decide (0 < dep σ r)) (σ 0 0))) 0 (fun Q hq => ?_) (fun u1 c1 R Q hq => ?_)
      · unfold p_X10_told
        exact ⟨fun c => absurd c (by decide), fun c => absurd c (by decide), fun c => absurd c (by decide), fun c => absurd c (by decide), fun c => absurd c (by decide), fun _ => k_wetOnes L ok (k_fine hq cq.rf), fun c => absurd c (by decide), fun c => absurd c (by decide), fun c => absurd c (by decide), fun c => absurd c (by decide), fun c0 c1 c2 c3 c4 c5 c6 c7 c8 c9 => absurd rfl c5⟩
      · unfold p_X11_told
        refine ⟨fun c => absurd c (by decide), fun _ => ⟨fun _ => ⟨fun _ => ⟨fun _ => ?_, fun c => absurd c (by decide)⟩, fun c => absurd (by decide) c⟩, fun c => absurd (by decide) c⟩⟩
        rw [show nI 5 - (5 : Int32) = (0 : Int32) by decide]
        exact r_set0 R.1 ok (r_gives hq rq.rf)
    · refine pj (pc := p_X10_told (nI 6) u) (pr := p_X11_told (nI 6)) I ok R (nI (σ 22 0)) 0 (fun Q hq => ?_) (fun u1 c1 R Q hq => ?_)
      · unfold p_X10_told
        rw [show gi u 84 1 = nI (σ 22 0) from L.f22]
        exact ⟨fun c => absurd c (by decide), fun c => absurd c (by decide), fun c => absurd c (by decide), fun c => absurd c (by decide), fun c => absurd c (by decide), fun c => absurd c (by decide), fun _ => k_fine hq cq.rf, fun c => absurd c (by decide), fun c => absurd c (by decide), fun c => absurd c (by decide), fun c0 c1 c2 c3 c4 c5 c6 c7 c8 c9 => absurd rfl c6⟩
      · unfold p_X11_told
        refine ⟨fun c => absurd c (by decide), fun _ => ⟨fun _ => ⟨fun _ => ⟨fun _ => ?_, fun c => absurd c (by decide)⟩, fun c => absurd (by decide) c⟩, fun c => absurd (by decide) c⟩⟩
        rw [show nI 6 - (5 : Int32) = (1 : Int32) by decide]
        exact r_set1 R.1 ok (r_gives hq rq.rf)
    · refine pj (pc := p_X10_told (nI 7) u) (pr := p_X11_told (nI 7)) I ok R (nI (opn σ)) 0 (fun Q hq => ?_) (fun u1 c1 R Q hq => ?_)
      · unfold p_X10_told
        exact ⟨fun c => absurd c (by decide), fun c => absurd c (by decide), fun c => absurd c (by decide), fun c => absurd c (by decide), fun c => absurd c (by decide), fun c => absurd c (by decide), fun c => absurd c (by decide), fun _ => k_openNow L ok (k_fine hq cq.rf), fun c => absurd c (by decide), fun c => absurd c (by decide), fun c0 c1 c2 c3 c4 c5 c6 c7 c8 c9 => absurd rfl c7⟩
      · unfold p_X11_told
        refine ⟨fun c => absurd c (by decide), fun _ => ⟨fun _ => ⟨fun _ => ⟨fun _ => ?_, fun c => absurd c (by decide)⟩, fun c => absurd (by decide) c⟩, fun c => absurd (by decide) c⟩⟩
        rw [show nI 7 - (5 : Int32) = (2 : Int32) by decide]
        exact r_set2 R.1 ok (MD.mo R.2.1) (opn_lt ok) (r_gives hq rq.rf)
    · refine pj (pc := p_X10_told (nI 8) u) (pr := p_X11_told (nI 8)) I ok R (nI (σ 20 0)) 0 (fun Q hq => ?_) (fun u1 c1 R Q hq => ?_)
      · unfold p_X10_told
        rw [show gi u 92 1 = nI (σ 20 0) from L.f20]
        exact ⟨fun c => absurd c (by decide), fun c => absurd c (by decide), fun c => absurd c (by decide), fun c => absurd c (by decide), fun c => absurd c (by decide), fun c => absurd c (by decide), fun c => absurd c (by decide), fun c => absurd c (by decide), fun _ => k_fine hq cq.rf, fun c => absurd c (by decide), fun c0 c1 c2 c3 c4 c5 c6 c7 c8 c9 => absurd rfl c8⟩
      · unfold p_X11_told
        refine ⟨fun c => absurd c (by decide), fun _ => ⟨fun _ => ⟨fun _ => ⟨fun _ => ?_, fun c => absurd c (by decide)⟩, fun c => absurd (by decide) c⟩, fun c => absurd (by decide) c⟩⟩
        rw [show nI 8 - (5 : Int32) = (3 : Int32) by decide]
        exact r_set3 R.1 ok (r_gives hq rq.rf)
    · refine pj (pc := p_X10_told (nI 9) u) (pr := p_X11_told (nI 9)) I ok R (nI (σ 21 0)) 0 (fun Q hq => ?_) (fun u1 c1 R Q hq => ?_)
      · unfold p_X10_told
        rw [show gi u 92 2 = nI (σ 21 0) from L.f21]
        exact ⟨fun c => absurd c (by decide), fun c => absurd c (by decide), fun c => absurd c (by decide), fun c => absurd c (by decide), fun c => absurd c (by decide), fun c => absurd c (by decide), fun c => absurd c (by decide), fun c => absurd c (by decide), fun c => absurd c (by decide), fun _ => k_fine hq cq.rf, fun c0 c1 c2 c3 c4 c5 c6 c7 c8 c9 => absurd rfl c9⟩
      · unfold p_X11_told
        refine ⟨fun c => absurd c (by decide), fun _ => ⟨fun _ => ⟨fun _ => ⟨fun _ => ?_, fun c => absurd c (by decide)⟩, fun c => absurd (by decide) c⟩, fun c => absurd (by decide) c⟩⟩
        rw [show nI 9 - (5 : Int32) = (4 : Int32) by decide]
        exact r_set4 R.1 ok (r_gives hq rq.rf)
  · refine pj (pc := p_X10_told a u) (pr := p_X11_told a) I ok R (-1) 1 (fun Q hq => ?_) (fun u1 c1 R Q hq => ?_)
    · unfold p_X10_told
      exact ⟨fun c => absurd c (hw 0 (by decide)), fun c => absurd c (hw 1 (by decide)), fun c => absurd c (hw 2 (by decide)), fun c => absurd c (hw 3 (by decide)), fun c => absurd c (hw 4 (by decide)), fun c => absurd c (hw 5 (by decide)), fun c => absurd c (hw 6 (by decide)), fun c => absurd c (hw 7 (by decide)), fun c => absurd c (hw 8 (by decide)), fun c => absurd c (hw 9 (by decide)), fun _ _ _ _ _ _ _ _ _ _ => k_none hq cq.rf⟩
    · unfold p_X11_told
      refine ⟨fun _ => r_refuse hq rq.rf, fun c => ⟨fun c2 => absurd (rngG (n := 9) (fun r hr => hw r (by omega)) (by decide) c) (fun z => ?_), fun _ => r_refuse hq rq.rf⟩⟩
      rw [Int32.lt_iff_toInt_lt] at z
      rw [Int32.le_iff_toInt_le] at c2
      have : ((9 : Int32)).toInt = (nI 9).toInt := rfl
      omega
theorem K_room (I : INV u) (a w0 : Int32) : p_X10_room a w0 u (fun r u1 => p_X11_room a w0 u1 (fun r' u2 => r = r' ∧ INV u2)) := by
  obtain ⟨σ, S, L, ok, R⟩ := I.sp
  have h7 := ok.r
  rcases below (a := a) (σ 0 0) with ⟨r, hr, rfl⟩ | hr
  · have hm := ok.rm hr
    rcases below (a := w0) 8 with ⟨w, hw, rfl⟩ | hw
    · rcases (by omega : w = 0 ∨ w = 1 ∨ w = 2 ∨ w = 3 ∨ w = 4 ∨ w = 5 ∨ w = 6 ∨ w = 7) with rfl | rfl | rfl | rfl | rfl | rfl | rfl | rfl
      · refine pj (pc := p_X10_room (nI r) (nI 0) u) (pr := p_X11_room (nI r) (nI 0)) I ok R (nI (σ 4 r)) 0 (fun Q hq => ?_) (fun u1 c1 R Q hq => ?_)
        · unfold p_X10_room
          refine k_isRoomT L ok hr ⟨fun _ => ?_, fun c => absurd c (by decide)⟩
          refine ⟨fun _ => ⟨cIN (by omega) (by decide), ?_⟩, fun c => absurd c (by decide), fun c => absurd c (by decide), fun c => absurd c (by decide), fun c => absurd c (by decide), fun c => absurd c (by decide), fun c => absurd c (by decide), fun c => absurd c (by decide), fun c0 c1 c2 c3 c4 c5 c6 c7 => absurd rfl c0⟩
          rw [cCL (by omega), show gi u 86 r = nI (σ 4 r) from L.f4 hr]
          exact k_fine hq cq.rf
        · unfold p_X11_room
          refine r_isRoomT R ok hr ⟨fun c => absurd c (by decide), fun _ => ⟨fun c => absurd c (by decide), fun _ => ⟨fun _ => ?_, fun c => absurd (by decide) c⟩⟩⟩
          exact ⟨fun c => absurd c (by decide), fun _ => r_roomV (w := 0) (f := 4) R.1 ok hr rfl (by decide) (by decide) rfl (by simp [rk]; try omega) rfl (r_gives hq rq.rf)⟩
      · refine pj (pc := p_X10_room (nI r) (nI 1) u) (pr := p_X11_room (nI r) (nI 1)) I ok R (nI (σ 5 r)) 0 (fun Q hq => ?_) (fun u1 c1 R Q hq => ?_)
        · unfold p_X10_room
          refine k_isRoomT L ok hr ⟨fun _ => ?_, fun c => absurd c (by decide)⟩
          refine ⟨fun c => absurd c (by decide), fun _ => ⟨cIN (by omega) (by decide), ?_⟩, fun c => absurd c (by decide), fun c => absurd c (by decide), fun c => absurd c (by decide), fun c => absurd c (by decide), fun c => absurd c (by decide), fun c => absurd c (by decide), fun c0 c1 c2 c3 c4 c5 c6 c7 => absurd rfl c1⟩
          rw [cCL (by omega), show gi u 87 r = nI (σ 5 r) from L.f5 hr]
          exact k_fine hq cq.rf
        · unfold p_X11_room
          refine r_isRoomT R ok hr ⟨fun c => absurd c (by decide), fun _ => ⟨fun c => absurd c (by decide), fun _ => ⟨fun _ => ?_, fun c => absurd (by decide) c⟩⟩⟩
          exact ⟨fun c => absurd c (by decide), fun _ => r_roomV (w := 1) (f := 5) R.1 ok hr rfl (by decide) (by decide) rfl (by simp [rk]; try omega) rfl (r_gives hq rq.rf)⟩
      · refine pj (pc := p_X10_room (nI r) (nI 2) u) (pr := p_X11_room (nI r) (nI 2)) I ok R (nI (σ 6 r)) 0 (fun Q hq => ?_) (fun u1 c1 R Q hq => ?_)
        · unfold p_X10_room
          refine k_isRoomT L ok hr ⟨fun _ => ?_, fun c => absurd c (by decide)⟩
          refine ⟨fun c => absurd c (by decide), fun c => absurd c (by decide), fun _ => ⟨cIN (by omega) (by decide), ?_⟩, fun c => absurd c (by decide), fun c => absurd c (by decide), fun c => absurd c (by decide), fun c => absurd c (by decide), fun c => absurd c (by decide), fun c0 c1 c2 c3 c4 c5 c6 c7 => absurd rfl c2⟩
          rw [cCL (by omega), show gi u 88 r = nI (σ 6 r) from L.f6 hr]
          exact k_fine hq cq.rf
        · unfold p_X11_room
          refine r_isRoomT R ok hr ⟨fun c => absurd c (by decide), fun _ => ⟨fun c => absurd c (by decide), fun _ => ⟨fun _ => ?_, fun c => absurd (by decide) c⟩⟩⟩
          exact ⟨fun c => absurd c (by decide), fun _ => r_roomV (w := 2) (f := 6) R.1 ok hr rfl (by decide) (by decide) rfl (by simp [rk]; try omega) rfl (r_gives hq rq.rf)⟩
      · refine pj (pc := p_X10_room (nI r) (nI 3) u) (pr := p_X11_room (nI r) (nI 3)) I ok R (nI (σ 7 r)) 0 (fun Q hq => ?_) (fun u1 c1 R Q hq => ?_)
        · unfold p_X10_room
          refine k_isRoomT L ok hr ⟨fun _ => ?_, fun c => absurd c (by decide)⟩
          refine ⟨fun c => absurd c (by decide), fun c => absurd c (by decide), fun c => absurd c (by decide), fun _ => ⟨cIN (by omega) (by decide), ?_⟩, fun c => absurd c (by decide), fun c => absurd c (by decide), fun c => absurd c (by decide), fun c => absurd c (by decide), fun c0 c1 c2 c3 c4 c5 c6 c7 => absurd rfl c3⟩
          rw [cCL (by omega), show gi u 89 r = nI (σ 7 r) from L.f7 hr]
          exact k_fine hq cq.rf
        · unfold p_X11_room
          refine r_isRoomT R ok hr ⟨fun c => absurd c (by decide), fun _ => ⟨fun c => absurd c (by decide), fun _ => ⟨fun _ => ?_, fun c => absurd (by decide) c⟩⟩⟩
          exact ⟨fun c => absurd c (by decide), fun _ => r_roomV (w := 3) (f := 7) R.1 ok hr rfl (by decide) (by decide) rfl (by simp [rk]; try omega) rfl (r_gives hq rq.rf)⟩
      · refine pj (pc := p_X10_room (nI r) (nI 4) u) (pr := p_X11_room (nI r) (nI 4)) I ok R (nI (σ 8 r)) 0 (fun Q hq => ?_) (fun u1 c1 R Q hq => ?_)
        · unfold p_X10_room
          refine k_isRoomT L ok hr ⟨fun _ => ?_, fun c => absurd c (by decide)⟩
          refine ⟨fun c => absurd c (by decide), fun c => absurd c (by decide), fun c => absurd c (by decide), fun c => absurd c (by decide), fun _ => ⟨cIN (by omega) (by decide), ?_⟩, fun c => absurd c (by decide), fun c => absurd c (by decide), fun c => absurd c (by decide), fun c0 c1 c2 c3 c4 c5 c6 c7 => absurd rfl c4⟩
          rw [cCL (by omega), show gi u 90 r = nI (σ 8 r) from L.f8 hr]
          exact k_fine hq cq.rf
        · unfold p_X11_room
          refine r_isRoomT R ok hr ⟨fun c => absurd c (by decide), fun _ => ⟨fun c => absurd c (by decide), fun _ => ⟨fun _ => ?_, fun c => absurd (by decide) c⟩⟩⟩
          exact ⟨fun c => absurd c (by decide), fun _ => r_roomV (w := 4) (f := 8) R.1 ok hr rfl (by decide) (by decide) rfl (by simp [rk]; try omega) rfl (r_gives hq rq.rf)⟩
      · refine pj (pc := p_X10_room (nI r) (nI 5) u) (pr := p_X11_room (nI r) (nI 5)) I ok R (nI (dep σ r)) 0 (fun Q hq => ?_) (fun u1 c1 R Q hq => ?_)
        · unfold p_X10_room
          refine k_isRoomT L ok hr ⟨fun _ => ?_, fun c => absurd c (by decide)⟩
          exact ⟨fun c => absurd c (by decide), fun c => absurd c (by decide), fun c => absurd c (by decide), fun c => absurd c (by decide), fun c => absurd c (by decide), fun _ => k_depth L ok hr (k_fine hq cq.rf), fun c => absurd c (by decide), fun c => absurd c (by decide), fun c0 c1 c2 c3 c4 c5 c6 c7 => absurd rfl c5⟩
        · unfold p_X11_room
          refine r_isRoomT R ok hr ⟨fun c => absurd c (by decide), fun _ => ⟨fun c => absurd c (by decide), fun _ => ⟨fun _ => ?_, fun c => absurd (by decide) c⟩⟩⟩
          exact ⟨fun _ => ⟨fun c => absurd rfl c, fun _ => r_depthOf R.1 ok hr (r_gives hq rq.rf)⟩, fun c => absurd (by decide) c⟩
      · refine pj (pc := p_X10_room (nI r) (nI 6) u) (pr := p_X11_room (nI r) (nI 6)) I ok R (nI (sur σ r)) 0 (fun Q hq => ?_) (fun u1 c1 R Q hq => ?_)
        · unfold p_X10_room
          refine k_isRoomT L ok hr ⟨fun _ => ?_, fun c => absurd c (by decide)⟩
          refine ⟨fun c => absurd c (by decide), fun c => absurd c (by decide), fun c => absurd c (by decide), fun c => absurd c (by decide), fun c => absurd c (by decide), fun c => absurd c (by decide), fun _ => ⟨cIN (by omega) (by decide), k_depth L ok hr ?_⟩, fun c => absurd c (by decide), fun c0 c1 c2 c3 c4 c5 c6 c7 => absurd rfl c6⟩
          rw [cCL (by omega), show gi u 86 r = nI (σ 4 r) from L.f4 hr, cA, show σ 4 r + dep σ r = sur σ r by unfold sur; rw [if_pos (by omega)]]
          exact k_fine hq cq.rf
        · unfold p_X11_room
          refine r_isRoomT R ok hr ⟨fun c => absurd c (by decide), fun _ => ⟨fun c => absurd c (by decide), fun _ => ⟨fun _ => ?_, fun c => absurd (by decide) c⟩⟩⟩
          refine ⟨fun _ => ⟨fun _ => ⟨fun c => absurd rfl c, fun _ => ?_⟩, fun c => absurd c (by decide)⟩, fun c => absurd (by decide) c⟩
          have e : nI r = eR r := by unfold eR; rw [if_neg (by omega)]
          rw [e]
          exact r_surfaceOf R.1 ok (Or.inl hr) (r_gives hq rq.rf)
      · refine pj (pc := p_X10_room (nI r) (nI 7) u) (pr := p_X11_room (nI r) (nI 7)) I ok R (nI (σ 9 r)) 0 (fun Q hq => ?_) (fun u1 c1 R Q hq => ?_)
        · unfold p_X10_room
          refine k_isRoomT L ok hr ⟨fun _ => ?_, fun c => absurd c (by decide)⟩
          refine ⟨fun c => absurd c (by decide), fun c => absurd c (by decide), fun c => absurd c (by decide), fun c => absurd c (by decide), fun c => absurd c (by decide), fun c => absurd c (by decide), fun c => absurd c (by decide), fun _ => ⟨cIN (by omega) (by decide), ?_⟩, fun c0 c1 c2 c3 c4 c5 c6 c7 => absurd rfl c7⟩
          rw [cCL (by omega), show gi u 91 r = nI (σ 9 r) from L.f9 hr]
          exact k_fine hq cq.rf
        · unfold p_X11_room
          refine r_isRoomT R ok hr ⟨fun c => absurd c (by decide), fun _ => ⟨fun c => absurd c (by decide), fun _ => ⟨fun _ => ?_, fun c => absurd (by decide) c⟩⟩⟩
          exact ⟨fun _ => ⟨fun _ => ⟨fun _ => r_roomV (w := 6) (f := 9) R.1 ok hr rfl (by decide) (by decide) rfl (by simp [rk]; try omega) rfl (r_gives hq rq.rf), fun c => absurd c (by decide)⟩, fun c => absurd c (by decide)⟩, fun c => absurd (by decide) c⟩
    · refine pj (pc := p_X10_room (nI r) w0 u) (pr := p_X11_room (nI r) w0) I ok R (-1) 1 (fun Q hq => ?_) (fun u1 c1 R Q hq => ?_)
      · unfold p_X10_room
        exact k_isRoomT L ok hr ⟨fun _ => ⟨fun c => absurd c (hw 0 (by decide)), fun c => absurd c (hw 1 (by decide)), fun c => absurd c (hw 2 (by decide)), fun c => absurd c (hw 3 (by decide)), fun c => absurd c (hw 4 (by decide)), fun c => absurd c (hw 5 (by decide)), fun c => absurd c (hw 6 (by decide)), fun c => absurd c (hw 7 (by decide)), fun _ _ _ _ _ _ _ _ => k_none hq cq.rf⟩, fun c => absurd c (by decide)⟩
      · unfold p_X11_room
        refine r_isRoomT R ok hr ⟨fun c => absurd c (by decide), fun _ => ⟨fun _ => r_refuse hq rq.rf, fun c => ⟨fun c2 => absurd (rngG (n := 7) (fun r hr => hw r (by omega)) (by decide) c) (fun z => ?_), fun _ => r_refuse hq rq.rf⟩⟩⟩
        rw [Int32.lt_iff_toInt_lt] at z
        rw [Int32.le_iff_toInt_le] at c2
        have : ((7 : Int32)).toInt = (nI 7).toInt := rfl
        omega
  · refine pj (pc := p_X10_room a w0 u) (pr := p_X11_room a w0) I ok R (-1) 1 (fun Q hq => ?_) (fun u1 c1 R Q hq => ?_)
    · unfold p_X10_room
      exact k_isRoomF L ok hr ⟨fun c => absurd c (by decide), fun _ => k_none hq cq.rf⟩
    · unfold p_X11_room
      exact r_isRoomF R ok hr ⟨fun _ => r_refuse hq rq.rf, fun c => absurd c (by decide)⟩
theorem k_endAsTold {e : Nat} {Q : Int32 → xM → Prop} (he : e ≤ 7) (hq : Q (eR e) u) : p_X10_endAsTold (nI e) u Q := by
  unfold p_X10_endAsTold
  rw [l_7, cEQ (by omega) (by omega)]
  unfold eR at hq
  exact ⟨fun c => by rw [if_neg c] at hq; exact hq, fun c => by rw [if_pos c] at hq; exact hq⟩
theorem k_hoursOnRota {o d : Nat} {Q : Int32 → xM → Prop} (L : LR o σ u) (ok : okS σ) (hd : d < 32) (hq : Q (nI (rotD σ d)) u) : p_X0_hoursOnRota o (nI d) u Q := by
  have h10 := ok.p10
  unfold p_X0_hoursOnRota
  refine xloop (fun m i (s : Int32) => p_X0_hoursOnRota_L4 o Q m (nI d) s (nI i) u) (fun i s => s = nI (mk (fun h => (σ 19 h).testBit d) i)) 12 0 0 (Nat.zero_le _) rfl ?_ ?_
  · intro m s hs
    unfold p_X0_hoursOnRota_L4
    rw [hs]
    exact ⟨fun _ => hq, fun c => absurd (by decide) c⟩
  · intro m i s _ hi hs k
    unfold p_X0_hoursOnRota_L4
    have hh := (ok.hr hi).2
    refine ⟨fun c => absurd c (by rw [l_12, cLE (by omega) (by omega)]; omega), fun _ => ⟨cIN (by omega) (by decide), ?_⟩⟩
    rw [cCL (by omega), L.f19 hi, bTST (by omega) (by omega)]
    refine ⟨fun c x4 h4 => ?_, fun c x5 h5 x6 h6 => ?_⟩
    · rw [l_1, cA] at h4
      subst h4
      refine k s ?_
      rw [mk_n (by simpa using c)]; exact hs
    · rw [l_1, cA] at h6
      subst h6
      refine k x5 ?_
      rw [h5, hs, bPOW (by omega), bOR, mk_s (by exact c)]
theorem K_door (I : INV u) (a w0 : Int32) : p_X10_door a w0 u (fun r u1 => p_X11_door a w0 u1 (fun r' u2 => r = r' ∧ INV u2)) := by
  obtain ⟨σ, S, L, ok, R⟩ := I.sp
  have h7 := ok.r
  have h10 := ok.d
  rcases below (a := a) (σ 1 0) with ⟨d, hd, rfl⟩ | hd
  · have hm := ok.dr hd
    rcases below (a := w0) 6 with ⟨w, hw, rfl⟩ | hw
    · rcases (by omega : w = 0 ∨ w = 1 ∨ w = 2 ∨ w = 3 ∨ w = 4 ∨ w = 5) with rfl | rfl | rfl | rfl | rfl | rfl
      · refine pj (pc := p_X10_door (nI d) (nI 0) u) (pr := p_X11_door (nI d) (nI 0)) I ok R (eR (σ 10 d)) 0 (fun Q hq => ?_) (fun u1 c1 R Q hq => ?_)
        · unfold p_X10_door
          refine k_isDoorT L ok hd ⟨fun _ => ?_, fun c => absurd c (by decide)⟩
          refine ⟨fun _ => ⟨cIN (by omega) (by decide), ?_⟩, fun c => absurd c (by decide), fun c => absurd c (by decide), fun c => absurd c (by decide), fun c => absurd c (by decide), fun c => absurd c (by decide), fun c0 c1 c2 c3 c4 c5 => absurd rfl c0⟩
          rw [cCL (by omega), show gi u 94 d = nI (σ 10 d) from L.f10 hd]
          exact k_endAsTold (by omega) (k_fine hq cq.rf)
        · unfold p_X11_door
          refine r_isDoorT R ok hd ⟨fun c => absurd c (by decide), fun _ => ⟨fun c => absurd c (by decide), fun _ => ⟨fun c => absurd c (by decide), fun _ => ?_⟩⟩⟩
          exact r_doorV (w := 0) (f := 10) R.1 ok hd rfl (by decide) (by decide) rfl (by simp [rk]; try omega) rfl (r_gives hq rq.rf)
      · refine pj (pc := p_X10_door (nI d) (nI 1) u) (pr := p_X11_door (nI d) (nI 1)) I ok R (eR (σ 11 d)) 0 (fun Q hq => ?_) (fun u1 c1 R Q hq => ?_)
        · unfold p_X10_door
          refine k_isDoorT L ok hd ⟨fun _ => ?_, fun c => absurd c (by decide)⟩
          refine ⟨fun c => absurd c (by decide), fun _ => ⟨cIN (by omega) (by decide), ?_⟩, fun c => absurd c (by decide), fun c => absurd c (by decide), fun c => absurd c (by decide), fun c => absurd c (by decide), fun c0 c1 c2 c3 c4 c5 => absurd rfl c1⟩
          rw [cCL (by omega), show gi u 95 d = nI (σ 11 d) from L.f11 hd]
          exact k_endAsTold (by omega) (k_fine hq cq.rf)
        · unfold p_X11_door
          refine r_isDoorT R ok hd ⟨fun c => absurd c (by decide), fun _ => ⟨fun c => absurd c (by decide), fun _ => ⟨fun c => absurd c (by decide), fun _ => ?_⟩⟩⟩
          exact r_doorV (w := 1) (f := 11) R.1 ok hd rfl (by decide) (by decide) rfl (by simp [rk]; try omega) rfl (r_gives hq rq.rf)
      · refine pj (pc := p_X10_door (nI d) (nI 2) u) (pr := p_X11_door (nI d) (nI 2)) I ok R (nI (σ 12 d)) 0 (fun Q hq => ?_) (fun u1 c1 R Q hq => ?_)
        · unfold p_X10_door
          refine k_isDoorT L ok hd ⟨fun _ => ?_, fun c => absurd c (by decide)⟩
          refine ⟨fun c => absurd c (by decide), fun c => absurd c (by decide), fun _ => ⟨cIN (by omega) (by decide), ?_⟩, fun c => absurd c (by decide), fun c => absurd c (by decide), fun c => absurd c (by decide), fun c0 c1 c2 c3 c4 c5 => absurd rfl c2⟩
          rw [cCL (by omega), show gi u 96 d = nI (σ 12 d) from L.f12 hd]
          exact k_fine hq cq.rf
        · unfold p_X11_door
          refine r_isDoorT R ok hd ⟨fun c => absurd c (by decide), fun _ => ⟨fun c => absurd c (by decide), fun _ => ⟨fun c => absurd c (by decide), fun _ => ?_⟩⟩⟩
          exact r_doorV (w := 2) (f := 12) R.1 ok hd rfl (by decide) (by decide) rfl (by simp [rk]; try omega) rfl (r_gives hq rq.rf)
      · refine pj (pc := p_X10_door (nI d) (nI 3) u) (pr := p_X11_door (nI d) (nI 3)) I ok R (nI (σ 13 d)) 0 (fun Q hq => ?_) (fun u1 c1 R Q hq => ?_)
        · unfold p_X10_door
          refine k_isDoorT L ok hd ⟨fun _ => ?_, fun c => absurd c (by decide)⟩
          refine ⟨fun c => absurd c (by decide), fun c => absurd c (by decide), fun c => absurd c (by decide), fun _ => ⟨cIN (by omega) (by decide), ?_⟩, fun c => absurd c (by decide), fun c => absurd c (by decide), fun c0 c1 c2 c3 c4 c5 => absurd rfl c3⟩
          rw [cCL (by omega), show gi u 97 d = nI (σ 13 d) from L.f13 hd]
          exact k_fine hq cq.rf
        · unfold p_X11_door
          refine r_isDoorT R ok hd ⟨fun c => absurd c (by decide), fun _ => ⟨fun c => absurd c (by decide), fun _ => ⟨fun c => absurd c (by decide), fun _ => ?_⟩⟩⟩
          exact r_doorV (w := 3) (f := 13) R.1 ok hd rfl (by decide) (by decide) rfl (by simp [rk]; try omega) rfl (r_gives hq rq.rf)
      · refine pj (pc := p_X10_door (nI d) (nI 4) u) (pr := p_X11_door (nI d) (nI 4)) I ok R (nI (σ 14 d)) 0 (fun Q hq => ?_) (fun u1 c1 R Q hq => ?_)
        · unfold p_X10_door
          refine k_isDoorT L ok hd ⟨fun _ => ?_, fun c => absurd c (by decide)⟩
          refine ⟨fun c => absurd c (by decide), fun c => absurd c (by decide), fun c => absurd c (by decide), fun c => absurd c (by decide), fun _ => ⟨cIN (by omega) (by decide), ?_⟩, fun c => absurd c (by decide), fun c0 c1 c2 c3 c4 c5 => absurd rfl c4⟩
          rw [cCL (by omega), show gi u 98 d = nI (σ 14 d) from L.f14 hd]
          exact k_fine hq cq.rf
        · unfold p_X11_door
          refine r_isDoorT R ok hd ⟨fun c => absurd c (by decide), fun _ => ⟨fun c => absurd c (by decide), fun _ => ⟨fun c => absurd c (by decide), fun _ => ?_⟩⟩⟩
          exact r_doorV (w := 4) (f := 14) R.1 ok hd rfl (by decide) (by decide) rfl (by simp [rk]; try omega) rfl (r_gives hq rq.rf)
      · refine pj (pc := p_X10_door (nI d) (nI 5) u) (pr := p_X11_door (nI d) (nI 5)) I ok R (nI (rotD σ d)) 0 (fun Q hq => ?_) (fun u1 c1 R Q hq => ?_)
        · unfold p_X10_door
          refine k_isDoorT L ok hd ⟨fun _ => ?_, fun c => absurd c (by decide)⟩
          exact ⟨fun c => absurd c (by decide), fun c => absurd c (by decide), fun c => absurd c (by decide), fun c => absurd c (by decide), fun c => absurd c (by decide), fun _ => k_hoursOnRota L ok (by omega) (k_fine hq cq.rf), fun c0 c1 c2 c3 c4 c5 => absurd rfl c5⟩
        · unfold p_X11_door
          refine r_isDoorT R ok hd ⟨fun c => absurd c (by decide), fun _ => ⟨fun c => absurd c (by decide), fun _ => ⟨fun c => absurd c (by decide), fun _ => ?_⟩⟩⟩
          exact r_doorV (w := 5) (f := 19) R.1 ok hd rfl (by decide) (by decide) rfl (by simp [rk]; try omega) rfl (r_gives hq rq.rf)
    · refine pj (pc := p_X10_door (nI d) w0 u) (pr := p_X11_door (nI d) w0) I ok R (-1) 1 (fun Q hq => ?_) (fun u1 c1 R Q hq => ?_)
      · unfold p_X10_door
        exact k_isDoorT L ok hd ⟨fun _ => ⟨fun c => absurd c (hw 0 (by decide)), fun c => absurd c (hw 1 (by decide)), fun c => absurd c (hw 2 (by decide)), fun c => absurd c (hw 3 (by decide)), fun c => absurd c (hw 4 (by decide)), fun c => absurd c (hw 5 (by decide)), fun _ _ _ _ _ _ => k_none hq cq.rf⟩, fun c => absurd c (by decide)⟩
      · unfold p_X11_door
        exact r_isDoorT R ok hd ⟨fun c => absurd c (by decide), fun _ => ⟨fun _ => r_refuse hq rq.rf, fun c => ⟨fun _ => r_refuse hq rq.rf, fun c2 => absurd (rngG (n := 5) (fun r hr => hw r (by omega)) (by decide) c) c2⟩⟩⟩
  · refine pj (pc := p_X10_door a w0 u) (pr := p_X11_door a w0) I ok R (-1) 1 (fun Q hq => ?_) (fun u1 c1 R Q hq => ?_)
    · unfold p_X10_door
      exact k_isDoorF L ok hd ⟨fun c => absurd c (by decide), fun _ => k_none hq cq.rf⟩
    · unfold p_X11_door
      exact r_isDoorF R ok hd ⟨fun _ => r_refuse hq rq.rf, fun c => absurd c (by decide)⟩
theorem K_errand (I : INV u) (a w0 : Int32) : p_X10_errand a w0 u (fun r u1 => p_X11_errand a w0 u1 (fun r' u2 => r = r' ∧ INV u2)) := by
  obtain ⟨σ, S, L, ok, R⟩ := I.sp
  have h4 := ok.e
  have e2 : gi u 83 2 = nI (σ 2 0) := L.f2
  rcases below (a := a) (σ 2 0) with ⟨d, hd, rfl⟩ | hd
  · rcases below (a := w0) 3 with ⟨w, hw, rfl⟩ | hw
    · rcases (by omega : w = 0 ∨ w = 1 ∨ w = 2) with rfl | rfl | rfl
      · refine pj (pc := p_X10_errand (nI d) (nI 0) u) (pr := p_X11_errand (nI d) (nI 0)) I ok R (nI (σ 15 d)) 0 (fun Q hq => ?_) (fun u1 c1 R Q hq => ?_)
        · unfold p_X10_errand
          refine ⟨fun c => absurd c (by rw [cN0 (by omega)]; exact id), fun _ => ⟨fun _ => ?_, fun c => absurd (by rw [e2, cLT (by omega) (by omega)]; exact hd) c⟩⟩
          refine ⟨fun _ => ⟨cIN (by omega) (by decide), ?_⟩, fun c => absurd c (by decide), fun c => absurd c (by decide), fun c0 c1 c2 => absurd rfl c0⟩
          rw [cCL (by omega), show gi u 101 d = nI (σ 15 d) from L.f15 hd]
          exact k_fine hq cq.rf
        · unfold p_X11_errand
          refine r_isErrandT R ok hd ⟨fun c => absurd c (by decide), fun _ => ⟨fun c => absurd c (by decide), fun _ => ⟨fun c => absurd c (by decide), fun _ => ?_⟩⟩⟩
          rw [l_147, l_3, cM, cA, cA]
          refine ⟨cIN (by omega) (by decide), ?_⟩
          rw [cCL (by omega), show gi u1 273 (147 + 3 * d + 0) = nI (σ 15 d) from R.1.r15 hd]
          exact r_gives hq rq.rf
      · refine pj (pc := p_X10_errand (nI d) (nI 1) u) (pr := p_X11_errand (nI d) (nI 1)) I ok R (nI (σ 16 d)) 0 (fun Q hq => ?_) (fun u1 c1 R Q hq => ?_)
        · unfold p_X10_errand
          refine ⟨fun c => absurd c (by rw [cN0 (by omega)]; exact id), fun _ => ⟨fun _ => ?_, fun c => absurd (by rw [e2, cLT (by omega) (by omega)]; exact hd) c⟩⟩
          refine ⟨fun c => absurd c (by decide), fun _ => ⟨cIN (by omega) (by decide), ?_⟩, fun c => absurd c (by decide), fun c0 c1 c2 => absurd rfl c1⟩
          rw [cCL (by omega), show gi u 102 d = nI (σ 16 d) from L.f16 hd]
          exact k_fine hq cq.rf
        · unfold p_X11_errand
          refine r_isErrandT R ok hd ⟨fun c => absurd c (by decide), fun _ => ⟨fun c => absurd c (by decide), fun _ => ⟨fun c => absurd c (by decide), fun _ => ?_⟩⟩⟩
          rw [l_147, l_3, cM, cA, cA]
          refine ⟨cIN (by omega) (by decide), ?_⟩
          rw [cCL (by omega), show 147 + 3 * d + 1 = 148 + 3 * d by omega, R.1.r16 hd]
          exact r_gives hq rq.rf
      · refine pj (pc := p_X10_errand (nI d) (nI 2) u) (pr := p_X11_errand (nI d) (nI 2)) I ok R (nI (σ 17 d)) 0 (fun Q hq => ?_) (fun u1 c1 R Q hq => ?_)
        · unfold p_X10_errand
          refine ⟨fun c => absurd c (by rw [cN0 (by omega)]; exact id), fun _ => ⟨fun _ => ?_, fun c => absurd (by rw [e2, cLT (by omega) (by omega)]; exact hd) c⟩⟩
          refine ⟨fun c => absurd c (by decide), fun c => absurd c (by decide), fun _ => ⟨cIN (by omega) (by decide), ?_⟩, fun c0 c1 c2 => absurd rfl c2⟩
          rw [cCL (by omega), show gi u 103 d = nI (σ 17 d) from L.f17 hd]
          exact k_fine hq cq.rf
        · unfold p_X11_errand
          refine r_isErrandT R ok hd ⟨fun c => absurd c (by decide), fun _ => ⟨fun c => absurd c (by decide), fun _ => ⟨fun c => absurd c (by decide), fun _ => ?_⟩⟩⟩
          rw [l_147, l_3, cM, cA, cA]
          refine ⟨cIN (by omega) (by decide), ?_⟩
          rw [cCL (by omega), show 147 + 3 * d + 2 = 149 + 3 * d by omega, R.1.r17 hd]
          exact r_gives hq rq.rf
    · refine pj (pc := p_X10_errand (nI d) w0 u) (pr := p_X11_errand (nI d) w0) I ok R (-1) 1 (fun Q hq => ?_) (fun u1 c1 R Q hq => ?_)
      · unfold p_X10_errand
        exact ⟨fun _ => k_none hq cq.rf, fun _ => ⟨fun _ => ⟨fun c => absurd c (hw 0 (by decide)), fun c => absurd c (hw 1 (by decide)), fun c => absurd c (hw 2 (by decide)), fun _ _ _ => k_none hq cq.rf⟩, fun _ => k_none hq cq.rf⟩⟩
      · unfold p_X11_errand
        exact r_isErrandT R ok hd ⟨fun c => absurd c (by decide), fun _ => ⟨fun _ => r_refuse hq rq.rf, fun c => ⟨fun _ => r_refuse hq rq.rf, fun c2 => absurd (rngG (n := 2) (fun r hr => hw r (by omega)) (by decide) c) c2⟩⟩⟩
  · refine pj (pc := p_X10_errand a w0 u) (pr := p_X11_errand a w0) I ok R (-1) 1 (fun Q hq => ?_) (fun u1 c1 R Q hq => ?_)
    · unfold p_X10_errand
      refine ⟨fun _ => k_none hq cq.rf, fun c => ⟨fun c2 => absurd (rngF hd (by omega) c) (fun z => ?_), fun _ => k_none hq cq.rf⟩⟩
      rw [e2, Int32.lt_iff_toInt_lt] at c2
      rw [Int32.le_iff_toInt_le] at z
      omega
    · unfold p_X11_errand
      exact r_isErrandF R ok hd ⟨fun _ => r_refuse hq rq.rf, fun c => absurd c (by decide)⟩
theorem K_tide (I : INV u) (a : Int32) : p_X10_tide a u (fun r u1 => p_X11_tide a u1 (fun r' u2 => r = r' ∧ INV u2)) := by
  obtain ⟨σ, S, L, ok, R⟩ := I.sp
  rcases below (a := a) 12 with ⟨h, hh, rfl⟩ | hh
  · refine pj (pc := p_X10_tide (nI h) u) (pr := p_X11_tide (nI h)) I ok R (nI (σ 18 h)) 0 (fun Q hq => ?_) (fun u1 c1 R Q hq => ?_)
    · unfold p_X10_tide
      refine k_isHourT hh ⟨fun c => absurd c (by decide), fun _ => ⟨cIN (by omega) (by decide), ?_⟩⟩
      rw [cCL (by omega), show gi u 104 h = nI (σ 18 h) from L.f18 hh]
      exact k_fine hq cq.rf
    · unfold p_X11_tide
      refine r_isHourT hh ⟨fun c => absurd c (by decide), fun _ => ?_⟩
      rw [l_135, cA]
      refine ⟨cIN (by omega) (by decide), ?_⟩
      rw [cCL (by omega), R.1.r18 hh]
      exact r_gives hq rq.rf
  · refine pj (pc := p_X10_tide a u) (pr := p_X11_tide a) I ok R (-1) 1 (fun Q hq => ?_) (fun u1 c1 R Q hq => ?_)
    · unfold p_X10_tide
      exact k_isHourF hh ⟨fun _ => k_none hq cq.rf, fun c => absurd c (by decide)⟩
    · unfold p_X11_tide
      exact r_isHourF hh ⟨fun _ => r_refuse hq rq.rf, fun c => absurd c (by decide)⟩
theorem k_asItFlows {Q : xM → Prop} (L : LR 83 σ u) (ok : okS σ) (hq : ∀ u', LR 83 σ u' → FFF 83 σ (σ 1 0) u' → cq u u' → Q u') : p_X10_asItFlows u Q := by
  unfold p_X10_asItFlows
  exact k_findSurfaces L ok (fun u1 L1 S1 x1 => k_findFlows L1 ok S1 (fun u2 L2 F2 x2 => hq u2 L2 F2 ((cq.xs x1 (fun k hk => by omega)).tr (cq.xs x2 (fun k hk => by omega)))))
theorem K_drive (I : INV u) (a : Int32) : p_X10_drive a u (fun r u1 => p_X11_drive a u1 (fun r' u2 => r = r' ∧ INV u2)) := by
  obtain ⟨σ, S, L, ok, R⟩ := I.sp
  have h10 := ok.d
  rcases below (a := a) (σ 1 0) with ⟨d, hd, rfl⟩ | hd
  · refine pj (pc := p_X10_drive (nI d) u) (pr := p_X11_drive (nI d)) I ok R (nI (drv σ d)) 0 (fun Q hq => ?_) (fun u1 c1 R Q hq => ?_)
    · unfold p_X10_drive
      refine k_isDoorT L ok hd ⟨fun _ => k_asItFlows L ok (fun u1 L1 F1 c1 => ⟨cIN (by omega) (by decide), ?_⟩), fun c => absurd c (by decide)⟩
      rw [cCL (by omega), show gi u1 106 d = nI (drv σ d) from (F1 d hd).1]
      exact k_fine hq c1
    · unfold p_X11_drive
      exact r_isDoorT R ok hd ⟨fun c => absurd c (by decide), fun _ => r_driveOf R.1 ok hd (r_gives hq rq.rf)⟩
  · refine pj (pc := p_X10_drive a u) (pr := p_X11_drive a) I ok R (-1) 1 (fun Q hq => ?_) (fun u1 c1 R Q hq => ?_)
    · unfold p_X10_drive
      exact k_isDoorF L ok hd ⟨fun c => absurd c (by decide), fun _ => k_none hq cq.rf⟩
    · unfold p_X11_drive
      exact r_isDoorF R ok hd ⟨fun _ => r_refuse hq rq.rf, fun c => absurd c (by decide)⟩
theorem K_flow (I : INV u) (a : Int32) : p_X10_flow a u (fun r u1 => p_X11_flow a u1 (fun r' u2 => r = r' ∧ INV u2)) := by
  obtain ⟨σ, S, L, ok, R⟩ := I.sp
  have h10 := ok.d
  rcases below (a := a) (σ 1 0) with ⟨d, hd, rfl⟩ | hd
  · refine pj (pc := p_X10_flow (nI d) u) (pr := p_X11_flow (nI d)) I ok R (iI (sfl (opn σ) σ d)) 0 (fun Q hq => ?_) (fun u1 c1 R Q hq => ?_)
    · unfold p_X10_flow
      refine k_isDoorT L ok hd ⟨fun _ => k_asItFlows L ok (fun u1 L1 F1 c1 => ⟨cIN (by omega) (by decide), ?_⟩), fun c => absurd c (by decide)⟩
      rw [cCL (by omega), show gi u1 108 d = iI (sfl (opn σ) σ d) from (F1 d hd).2.2]
      exact k_fine hq c1
    · unfold p_X11_flow
      exact r_isDoorT R ok hd ⟨fun c => absurd c (by decide), fun _ => r_flowOf R.1 ok hd (MD.mo R.2.1) (r_gives hq rq.rf)⟩
  · refine pj (pc := p_X10_flow a u) (pr := p_X11_flow a) I ok R (-1) 1 (fun Q hq => ?_) (fun u1 c1 R Q hq => ?_)
    · unfold p_X10_flow
      exact k_isDoorF L ok hd ⟨fun c => absurd c (by decide), fun _ => k_none hq cq.rf⟩
    · unfold p_X11_flow
      exact r_isDoorF R ok hd ⟨fun _ => r_refuse hq rq.rf, fun c => absurd c (by decide)⟩
theorem K_flowOpen (I : INV u) (a : Int32) : p_X10_flowOpen a u (fun r u1 => p_X11_flowOpen a u1 (fun r' u2 => r = r' ∧ INV u2)) := by
  obtain ⟨σ, S, L, ok, R⟩ := I.sp
  have h10 := ok.d
  rcases below (a := a) (σ 1 0) with ⟨d, hd, rfl⟩ | hd
  · refine pj (pc := p_X10_flowOpen (nI d) u) (pr := p_X11_flowOpen (nI d)) I ok R (iI (sgn σ d (fop σ d))) 0 (fun Q hq => ?_) (fun u1 c1 R Q hq => ?_)
    · unfold p_X10_flowOpen
      refine k_isDoorT L ok hd ⟨fun _ => k_asItFlows L ok (fun u1 L1 F1 c1 => ⟨cIN (by omega) (by decide), ?_⟩), fun c => absurd c (by decide)⟩
      rw [cCL (by omega), show gi u1 107 d = iI (sgn σ d (fop σ d)) from (F1 d hd).2.1]
      exact k_fine hq c1
    · unfold p_X11_flowOpen
      exact r_isDoorT R ok hd ⟨fun c => absurd c (by decide), fun _ => r_flowBy (op := true) R.1 ok hd (r_gives hq rq.rf)⟩
  · refine pj (pc := p_X10_flowOpen a u) (pr := p_X11_flowOpen a) I ok R (-1) 1 (fun Q hq => ?_) (fun u1 c1 R Q hq => ?_)
    · unfold p_X10_flowOpen
      exact k_isDoorF L ok hd ⟨fun c => absurd c (by decide), fun _ => k_none hq cq.rf⟩
    · unfold p_X11_flowOpen
      exact r_isDoorF R ok hd ⟨fun _ => r_refuse hq rq.rf, fun c => absurd c (by decide)⟩
end QSIMPLE
