/-! ===== through, greatest, the first that drowns ===== -/
def ntz (m : Nat) : Nat := vO id (fstO m.testBit 32)
theorem ntz_all : ((List.range 128).all fun m => m == 0 || (decide (ntz m < 7) && decide ((nI m ^^^ (-1 : Int32)) &&& (nI m - (1 : Int32)) = nI (2 ^ ntz m - 1)))) = true := by decide +kernel
section THRU
variable {σ τ : aS} {u u' u0 : xM} {o : Nat} {md : Option Nat}
theorem k_ntz {m : Nat} {Q : Int32 → xM → Prop} (h0 : m ≠ 0) (hm : m < 128) (hq : Q (nI (ntz m)) u) : p_J6_numberOfTrailingZeros_0f7a4 (nI m) u Q := by
  have h := List.all_eq_true.mp ntz_all m (List.mem_range.mpr hm)
  simp only [Bool.or_eq_true, beq_iff_eq, Bool.and_eq_true, decide_eq_true_eq] at h
  rcases h with h | ⟨h1, h2⟩
  · exact absurd h h0
  unfold p_J6_numberOfTrailingZeros_0f7a4
  rw [h2]
  intro x1 hx
  subst hx
  generalize ntz m = t at h1 hq
  rcases (by omega : t = 0 ∨ t = 1 ∨ t = 2 ∨ t = 3 ∨ t = 4 ∨ t = 5 ∨ t = 6) with rfl | rfl | rfl | rfl | rfl | rfl | rfl
  · refine ⟨fun c => absurd c (by decide), fun _ => ?_⟩
    rw [show nI (2 ^ 0 - 1) &&& (32 : Int32) = nI 0 by decide]
    exact hq
  · refine ⟨fun _ => ⟨fun _ => ⟨fun _ => ?_, fun c => absurd (by decide) c⟩, fun c => absurd (by decide) c⟩, fun c => absurd (by decide) c⟩
    unfold p_J6_numberOfTrailingZeros_0f7a4_L49
    refine ⟨fun _ => ?_, fun c => absurd (by decide) c⟩
    unfold p_J6_numberOfTrailingZeros_0f7a4_L62
    refine ⟨fun _ => ?_, fun c => absurd (by decide) c⟩
    exact (show ((1 : Int32) + (((nI (2 ^ 1 - 1))).toUInt32 >>> ((1 : Int32).toUInt32 &&& Int32.toUInt32 31)).toInt32) = nI 1 by decide) ▸ hq
  · refine ⟨fun _ => ⟨fun _ => ⟨fun _ => ?_, fun c => absurd (by decide) c⟩, fun c => absurd (by decide) c⟩, fun c => absurd (by decide) c⟩
    unfold p_J6_numberOfTrailingZeros_0f7a4_L49
    refine ⟨fun _ => ?_, fun c => absurd (by decide) c⟩
    unfold p_J6_numberOfTrailingZeros_0f7a4_L62
    refine ⟨fun _ => ?_, fun c => absurd (by decide) c⟩
    exact (show ((1 : Int32) + (((nI (2 ^ 2 - 1))).toUInt32 >>> ((1 : Int32).toUInt32 &&& Int32.toUInt32 31)).toInt32) = nI 2 by decide) ▸ hq
  · refine ⟨fun _ => ⟨fun _ => ⟨fun _ => ?_, fun c => absurd (by decide) c⟩, fun c => absurd (by decide) c⟩, fun c => absurd (by decide) c⟩
    unfold p_J6_numberOfTrailingZeros_0f7a4_L49
    refine ⟨fun _ => ?_, fun c => absurd (by decide) c⟩
    unfold p_J6_numberOfTrailingZeros_0f7a4_L62
    refine ⟨fun c => absurd c (by decide), fun _ y2 g2 y3 g3 => ?_⟩
    subst g2
    subst g3
    exact (show ((1 : Int32) + 2 + ((((nI (2 ^ 3 - 1))).toUInt32 >>> ((2 : Int32).toUInt32 &&& Int32.toUInt32 31)).toInt32.toUInt32 >>> ((1 : Int32).toUInt32 &&& Int32.toUInt32 31)).toInt32) = nI 3 by decide) ▸ hq
  · refine ⟨fun _ => ⟨fun _ => ⟨fun _ => ?_, fun c => absurd (by decide) c⟩, fun c => absurd (by decide) c⟩, fun c => absurd (by decide) c⟩
    unfold p_J6_numberOfTrailingZeros_0f7a4_L49
    refine ⟨fun _ => ?_, fun c => absurd (by decide) c⟩
    unfold p_J6_numberOfTrailingZeros_0f7a4_L62
    refine ⟨fun c => absurd c (by decide), fun _ y2 g2 y3 g3 => ?_⟩
    subst g2
    subst g3
    exact (show ((1 : Int32) + 2 + ((((nI (2 ^ 4 - 1))).toUInt32 >>> ((2 : Int32).toUInt32 &&& Int32.toUInt32 31)).toInt32.toUInt32 >>> ((1 : Int32).toUInt32 &&& Int32.toUInt32 31)).toInt32) = nI 4 by decide) ▸ hq
  · refine ⟨fun _ => ⟨fun _ => ⟨fun _ => ?_, fun c => absurd (by decide) c⟩, fun c => absurd (by decide) c⟩, fun c => absurd (by decide) c⟩
    unfold p_J6_numberOfTrailingZeros_0f7a4_L49
    refine ⟨fun c => absurd c (by decide), fun _ x2 h2 x3 h3 => ?_⟩
    subst h2
    subst h3
    unfold p_J6_numberOfTrailingZeros_0f7a4_L62
    refine ⟨fun _ => ?_, fun c => absurd (by decide) c⟩
    exact (show (((1 : Int32) + 4) + ((((nI (2 ^ 5 - 1)).toUInt32 >>> ((4 : Int32).toUInt32 &&& Int32.toUInt32 31)).toInt32).toUInt32 >>> ((1 : Int32).toUInt32 &&& Int32.toUInt32 31)).toInt32) = nI 5 by decide) ▸ hq
  · refine ⟨fun _ => ⟨fun _ => ⟨fun _ => ?_, fun c => absurd (by decide) c⟩, fun c => absurd (by decide) c⟩, fun c => absurd (by decide) c⟩
    unfold p_J6_numberOfTrailingZeros_0f7a4_L49
    refine ⟨fun c => absurd c (by decide), fun _ x2 h2 x3 h3 => ?_⟩
    subst h2
    subst h3
    unfold p_J6_numberOfTrailingZeros_0f7a4_L62
    refine ⟨fun _ => ?_, fun c => absurd (by decide) c⟩
    exact (show (((1 : Int32) + 4) + ((((nI (2 ^ 6 - 1)).toUInt32 >>> ((4 : Int32).toUInt32 &&& Int32.toUInt32 31)).toInt32).toUInt32 >>> ((1 : Int32).toUInt32 &&& Int32.toUInt32 31)).toInt32) = nI 6 by decide) ▸ hq
theorem pas_le (ok : okS σ) {d : Nat} (hd : d < σ 1 0) (op : Nat) : pas op σ d ≤ 90882 := by
  unfold pas pAm
  have h1 : (sfl op σ d).natAbs ≤ 90882 := by
    rw [sfl_abs]
    exact flo_le ok hd op
  split <;> omega
theorem mvd_s (md : Option Nat) (σ : aS) (n d : Nat) : mvd md σ (n + 1) d = mvd md σ n d + pas (omd md (hrsB md n σ)) (hrsB md n σ) d := rfl
theorem K_through (I : INV u) (a b : Int32) : p_X10_through a b u (fun r u1 => p_X11_through a b u1 (fun r' u2 => r = r' ∧ INV u2)) := by
  obtain ⟨σ, S, L, ok, R⟩ := I.sp
  have h3 := okS.hour S
  have hp : σ 23 0 = 4095 := S.2.2.2.2.1
  have h10 := ok.d
  rcases below (a := a) (σ 1 0) with ⟨d, hd, rfl⟩ | hd
  · rcases fromTo (a := b) 0 99 (by decide) with ⟨n, n1, n2, rfl⟩ | hn
    · refine pj (pc := p_X10_through (nI d) (nI n) u) (pr := p_X11_through (nI d) (nI n)) I ok R (nI (mvd none σ n d)) 0 (fun Q hq => ?_) (fun u1 c1 R Q hq => ?_)
      · unfold p_X10_through
        refine k_isDoorT L ok hd ⟨fun z => absurd z (by decide), fun _ => k_withinT (lo := 0) (hi := 99) rfl rfl n1 n2 (by decide) ⟨fun _ => k_asItIs L ok (fun u1 L1 _ c1 => ?_), fun z => absurd z (by decide)⟩⟩
        refine xloop (fun m i (s : Int32 × xM) => p_X10_through_L35 Q m (nI d) (nI n) s.1 (nI i) s.2) (fun i s => s.1 = nI (mvd none σ i d) ∧ LR 110 (hrs i σ) s.2 ∧ cq u s.2) n 0 (0, u1) (Nat.zero_le _) ⟨rfl, L1, c1⟩ ?_ ?_
        · intro m s hs
          unfold p_X10_through_L35
          rw [hs.1]
          exact ⟨fun _ => k_fine hq hs.2.2, fun c => absurd (by rw [cLE (by omega) (by omega)]; exact Nat.le_refl _) c⟩
        · intro m i s _ hi hs k
          have oki := hrs_ok ok i (by omega)
          have hd2 : d < hrs i σ 1 0 := by rw [hrs_kept i σ (by decide : kept 1)]; exact hd
          unfold p_X10_through_L35
          refine ⟨fun c => absurd c (by rw [cLE (by omega) (by omega)]; omega), fun _ => ?_⟩
          refine k_goOneHour hs.2.1 oki (by rw [hrs_hour]; omega) (fun u2 L2 p2 x2 => ⟨cIN (by omega) (by decide), fun x6 h6 x7 h7 => ?_⟩)
          rw [cCL (by omega), show gi u2 136 d = nI (pas (opn (hrs i σ)) (hrs i σ) d) from p2 d hd2, hs.1, cA] at h6
          rw [l_1, cA] at h7
          subst h7
          refine k (x6, u2) ⟨?_, L2, hs.2.2.hr x2⟩
          rw [h6, mvd_s, hrs_B hp]; rfl
      · unfold p_X11_through p_X11_isSpan
        refine r_isDoorT R ok hd ⟨fun z => absurd z (by decide), fun _ => r_fromT (lo := 0) (hi := 99) (by decide) (by decide) n1 n2 (by decide) ⟨fun _ => ⟨cIN (by omega) (by decide), fun u10 h10' => ?_⟩, fun z => absurd z (by decide)⟩⟩
        rw [cCL (by omega)] at h10'
        have q1 : rq u1 u10 := by rw [h10']; exact ⟨fun k i a => by rw [gi_si, if_neg (by omega)], fun k i a => rfl⟩
        have R2 : RR 0 σ u10 := R.1.k ok (fun i _ => by rw [h10', gi_si, if_neg (by omega)])
        refine r_waterIn R2 ok (by omega) (md := none) (R.2.1.cg (q1.1 _ _ (by omega)) (q1.1 _ _ (by omega))) ((q1.1 _ _ (by omega)).trans R.2.2) (Or.inl ⟨rfl, rfl⟩) (fun u2 q2 mv => ⟨cIN (by omega) (by decide), ?_⟩)
        rw [cCL (by omega), mv d hd, h10', gi_at, Int32.zero_add]
        exact r_gives hq (q1.tr q2)
    · refine pj (pc := p_X10_through (nI d) b u) (pr := p_X11_through (nI d) b) I ok R (-1) 1 (fun Q hq => ?_) (fun u1 c1 R Q hq => ?_)
      · unfold p_X10_through
        exact k_isDoorT L ok hd ⟨fun z => absurd z (by decide), fun _ => k_withinF (lo := 0) (hi := 99) rfl rfl hn (by decide) (by decide) ⟨fun z => absurd z (by decide), fun _ => k_none hq cq.rf⟩⟩
      · unfold p_X11_through p_X11_isSpan
        exact r_isDoorT R ok hd ⟨fun z => absurd z (by decide), fun _ => r_fromF (lo := 0) (hi := 99) (by decide) (by decide) hn (by decide) ⟨fun z => absurd z (by decide), fun _ => r_refuse hq rq.rf⟩⟩
  · refine pj (pc := p_X10_through a b u) (pr := p_X11_through a b) I ok R (-1) 1 (fun Q hq => ?_) (fun u1 c1 R Q hq => ?_)
    · unfold p_X10_through
      exact k_isDoorF L ok hd ⟨fun _ => k_none hq cq.rf, fun z => absurd z (by decide)⟩
    · unfold p_X11_through
      exact r_isDoorF R ok hd ⟨fun _ => r_refuse hq rq.rf, fun z => absurd z (by decide)⟩
/-- the greatest depth up to then -/
def gst (σ : aS) (r : Nat) : Nat → Nat
  | 0 => dep σ r
  | n + 1 => max (gst σ r n) (dep (hrsB none (n + 1) σ) r)
theorem gst_le (ok : okS σ) {r : Nat} (hr : r < σ 0 0) (n : Nat) (hh : σ 3 0 + n ≤ 20000) : gst σ r n ≤ 9999 := by
  induction n with
  | zero => exact dep_le ok hr
  | succ n ih =>
    have h1 := ih (by omega)
    have h2 := dep_le (hrsB_ok (md := none) ok (n + 1) hh) (r := r) (by rw [hrsB_kept none (n + 1) σ (by decide : kept 0)]; exact hr)
    unfold gst
    omega
theorem K_greatest (I : INV u) (a b : Int32) : p_X10_greatest a b u (fun r u1 => p_X11_greatest a b u1 (fun r' u2 => r = r' ∧ INV u2)) := by
  obtain ⟨σ, S, L, ok, R⟩ := I.sp
  have h3 := okS.hour S
  have hp : σ 23 0 = 4095 := S.2.2.2.2.1
  have h7 := ok.r
  rcases below (a := a) (σ 0 0) with ⟨r, hr, rfl⟩ | hr
  · rcases fromTo (a := b) 0 99 (by decide) with ⟨n, n1, n2, rfl⟩ | hn
    · refine pj (pc := p_X10_greatest (nI r) (nI n) u) (pr := p_X11_greatest (nI r) (nI n)) I ok R (nI (gst σ r n)) 0 (fun Q hq => ?_) (fun u1 c1 R Q hq => ?_)
      · unfold p_X10_greatest
        refine k_isRoomT L ok hr ⟨fun z => absurd z (by decide), fun _ => k_withinT (lo := 0) (hi := 99) rfl rfl n1 n2 (by decide) ⟨fun _ => k_asItIs L ok (fun u1 L1 _ c1 => k_depth L1 ok hr ?_), fun z => absurd z (by decide)⟩⟩
        refine xloop (fun m i (s : Int32 × xM) => p_X10_greatest_L42 Q m (nI r) (nI n) s.1 (nI i) s.2) (fun i s => s.1 = nI (gst σ r i) ∧ LR 110 (hrs i σ) s.2 ∧ cq u s.2) n 0 (nI (dep σ r), u1) (Nat.zero_le _) ⟨rfl, L1, c1⟩ ?_ ?_
        · intro m s hs
          unfold p_X10_greatest_L42
          rw [hs.1]
          exact ⟨fun _ => k_fine hq hs.2.2, fun c => absurd (by rw [cLE (by omega) (by omega)]; exact Nat.le_refl _) c⟩
        · intro m i s _ hi hs k
          have oki := hrs_ok ok i (by omega)
          have oki1 := hrs_ok ok (i + 1) (by omega)
          have g1 := gst_le ok hr i (by omega)
          have hr1 : r < hrs (i + 1) σ 0 0 := by rw [hrs_kept (i + 1) σ (by decide : kept 0)]; exact hr
          have d1 := dep_le oki1 hr1
          unfold p_X10_greatest_L42
          refine ⟨fun c => absurd c (by rw [cLE (by omega) (by omega)]; omega), fun _ => ?_⟩
          refine k_goOneHour hs.2.1 oki (by rw [hrs_hour]; omega) (fun u2 L2 _ x2 => k_depth (σ := hrs (i + 1) σ) L2 oki1 hr1 (fun x7 h7' x8 h8 => ?_))
          rw [hs.1, iteMax (by omega) (by omega)] at h7'
          rw [l_1, cA] at h8
          subst h8
          refine k (x7, u2) ⟨?_, L2, hs.2.2.hr x2⟩
          rw [h7', hrs_B hp]; rfl
      · unfold p_X11_greatest p_X11_isSpan
        refine r_isRoomT R ok hr ⟨fun z => absurd z (by decide), fun _ => r_fromT (lo := 0) (hi := 99) (by decide) (by decide) n1 n2 (by decide) ⟨fun _ => r_keepsT rfl (fun u2 k1 x1 s1 => ?_), fun z => absurd z (by decide)⟩⟩
        have R1 := R.1.k ok s1
        have m23 := x1.1 272 23 (by omega)
        have m24 := x1.1 272 24 (by omega)
        have m25 := x1.1 272 25 (by omega)
        refine r_depthOf R1 ok hr ?_
        refine xloop (fun m i (s : Int32 × xM) => p_X11_greatest_L37 Q m (nI r) (nI n) s.1 (nI i) s.2) (fun i s => s.1 = nI (gst σ r i) ∧ RR 0 (hrsB none i σ) s.2 ∧ KT u1 s.2 ∧ xsame gP u2 s.2) n 0 (nI (dep σ r), u2) (Nat.zero_le _) ⟨rfl, R1, k1, xsame.rf⟩ ?_ ?_
        · intro m s hs
          unfold p_X11_greatest_L37
          rw [hs.1]
          refine ⟨fun _ => ?_, fun c => absurd (by rw [cLE (by omega) (by omega)]; exact Nat.le_refl _) c⟩
          refine r_restT rfl hs.2.2.1 (fun u3 k3 s3 x3 => r_gives hq (k3.rq s3 ⟨?_, ?_, ?_⟩ ⟨?_, ?_⟩))
          · rw [x3.1 272 23 (by omega), hs.2.2.2.1 272 23 (by simp [gP]), m23]
          · rw [x3.1 272 24 (by omega), hs.2.2.2.1 272 24 (by simp [gP]), m24]
          · rw [x3.1 272 25 (by omega), hs.2.2.2.1 272 25 (by simp [gP]), m25]
          · rw [x3.1 272 26 (by omega), hs.2.2.2.1 272 26 (by simp [gP]), x1.1 272 26 (by omega)]
          · rw [x3.1 272 27 (by omega), hs.2.2.2.1 272 27 (by simp [gP]), x1.1 272 27 (by omega)]
        · intro m i s _ hi hs k
          have oki := hrsB_ok (md := none) ok i (by omega)
          have oki1 := hrsB_ok (md := none) ok (i + 1) (by omega)
          have g1 := gst_le ok hr i (by omega)
          have hr1 : r < hrsB none (i + 1) σ 0 0 := by rw [hrsB_kept none (i + 1) σ (by decide : kept 0)]; exact hr
          have d1 := dep_le oki1 hr1
          have mo : MO (hrsB none i σ) (opn (hrsB none i σ)) s.2 := Or.inl ⟨by rw [hs.2.2.2.1 272 23 (by simp [gP]), m23]; exact R.2.1.1, by rw [hs.2.2.2.1 272 24 (by simp [gP]), m24]; exact R.2.1.2, rfl⟩
          unfold p_X11_greatest_L37
          refine ⟨fun c => absurd c (by rw [cLE (by omega) (by omega)]; omega), fun _ => ?_⟩
          refine r_goesBy (pu := true) hs.2.1 oki (by rw [hrsB_hour]; omega) mo (by rw [hs.2.2.2.1 272 25 (by simp [gP]), m25]; exact R.2.2) (fun u3 R3 g3 _ => r_depthOf (σ := hrsB none (i + 1) σ) R3 oki1 hr1 (fun x9 h9 x10 h10 => ?_))
          rw [hs.1, iteMax (by omega) (by omega)] at h9
          rw [l_1, cA] at h10
          subst h10
          exact k (x9, u3) ⟨h9, R3, hs.2.2.1.g g3, hs.2.2.2.tr g3.1⟩
    · refine pj (pc := p_X10_greatest (nI r) b u) (pr := p_X11_greatest (nI r) b) I ok R (-1) 1 (fun Q hq => ?_) (fun u1 c1 R Q hq => ?_)
      · unfold p_X10_greatest
        exact k_isRoomT L ok hr ⟨fun z => absurd z (by decide), fun _ => k_withinF (lo := 0) (hi := 99) rfl rfl hn (by decide) (by decide) ⟨fun z => absurd z (by decide), fun _ => k_none hq cq.rf⟩⟩
      · unfold p_X11_greatest p_X11_isSpan
        exact r_isRoomT R ok hr ⟨fun z => absurd z (by decide), fun _ => r_fromF (lo := 0) (hi := 99) (by decide) (by decide) hn (by decide) ⟨fun z => absurd z (by decide), fun _ => r_refuse hq rq.rf⟩⟩
  · refine pj (pc := p_X10_greatest a b u) (pr := p_X11_greatest a b) I ok R (-1) 1 (fun Q hq => ?_) (fun u1 c1 R Q hq => ?_)
    · unfold p_X10_greatest
      exact k_isRoomF L ok hr ⟨fun _ => k_none hq cq.rf, fun z => absurd z (by decide)⟩
    · unfold p_X11_greatest
      exact r_isRoomF R ok hr ⟨fun _ => r_refuse hq rq.rf, fun z => absurd z (by decide)⟩
end THRU
