/-! ===== sillFor, siege, borne ===== -/
section SIEGE
variable {σ τ : aS} {u u' u0 : xM} {o : Nat}
theorem ndf_e0 {a b : Nat} (hs : ∀ i, b.testBit i = true → a.testBit i = true) : (ndf a b = 0) = (a = b) := by
  apply propext
  constructor
  · exact fun h => ndf_0 h hs
  · intro h; rw [h, ndf_self]
theorem K_sillFor (I : INV u) (a : Int32) : p_X10_sillFor a u (fun r u1 => p_X11_sillFor a u1 (fun r' u2 => r = r' ∧ INV u2)) := by
  obtain ⟨σ, S, L, ok, R⟩ := I.sp
  have h3 := okS.hour S
  have hp : σ 23 0 = 4095 := S.2.2.2.2.1
  have h10 := ok.d
  have hD := ok.drowned
  have hp7 := ok.p7
  rcases below (a := a) (σ 1 0) with ⟨d, hd, rfl⟩ | hd
  · have hm := ok.dr hd
    have hup : ∀ h j, (σ 22 0).testBit j = true → (hrsB none 12 (tO σ d h) 22 0).testBit j = true := fun h j hj => hrsB_up (σ := tO σ d h) none 12 j hj
    refine pj (pc := p_X10_sillFor (nI d) u) (pr := p_X11_sillFor (nI d)) I ok R (eO (fstO (fun h => decide (hrsB none 12 (tO σ d h) 22 0 = σ 22 0)) (100 - σ 12 d))) (sO (fstO (fun h => decide (hrsB none 12 (tO σ d h) 22 0 = σ 22 0)) (100 - σ 12 d))) (fun Q hq => ?_) (fun u1 c1 R Q hq => ?_)
    · unfold p_X10_sillFor
      refine k_isDoorT L ok hd ⟨fun _ => ?_, fun z => absurd z (by decide)⟩
      refine xloop (fun m i (s : xM) => p_X10_sillFor_L16 Q m (nI d) (nI i) s) (fun i s => LR 83 σ s ∧ cq u s ∧ ∀ j, j < i → hrsB none 12 (tO σ d j) 22 0 ≠ σ 22 0) (100 - σ 12 d) 0 u (Nat.zero_le _) ⟨L, cq.rf, fun j hj => by omega⟩ ?_ ?_
      · intro m s hs
        unfold p_X10_sillFor_L16
        rw [fstO_no (fun j hj => decide_eq_false (hs.2.2 j hj))] at hq
        refine ⟨cIN (by omega) (by decide), fun _ => k_none hq hs.2.1, fun c => absurd ?_ c⟩
        rw [cCL (by omega), show gi s 96 d = nI (σ 12 d) from hs.1.f12 hd, cA, l_99, cLT (by omega) (by omega)]
        omega
      · intro m i s _ hi hs k
        have okt := okS_tO (h := i) ok hd (by omega)
        have okn := hrsB_ok (md := none) okt 12 (by show σ 3 0 + 12 ≤ 20000; omega)
        have d7 := okn.drowned
        have p7 := okn.p7
        unfold p_X10_sillFor_L16
        refine ⟨cIN (by omega) (by decide), fun c => absurd c ?_, fun _ => k_asItIs hs.1 ok (fun u1 L1 L83 c1 u6 h6 => ⟨cIN (by omega) (by decide), cIN (by omega) (by decide), fun u9 h9 => ?_⟩)⟩
        · rw [cCL (by omega), show gi s 96 d = nI (σ 12 d) from hs.1.f12 hd, cA, l_99, cLT (by omega) (by omega)]
          omega
        have L2 : LR 110 (sU σ 20 0 (σ 20 0 ||| 2 ^ d)) u6 := by rw [h6]; exact k_holdT L1 ok hd rfl
        have L83b : LR 83 σ u6 := by rw [h6]; exact L83.w2 (by omega)
        have c2 : cq u u6 := by rw [h6]; exact (hs.2.1.tr c1).w (by omega)
        rw [cCL (by omega), show gi u6 123 d = nI (σ 12 d) from L2.f12 (i := d) hd, cA] at h9
        have L3 : LR 110 (tO σ d i) u9 := by
          rw [h9]
          exact L2.up (f := 12) (i := d) (by decide) (by decide) (by decide) (by decide) (by show d < σ 1 0; exact hd) rfl rfl (by simp [rlS])
        have L83c : LR 83 σ u9 := by rw [h9]; exact L83b.w2 (by omega)
        have c3 : cq u u9 := by rw [h9]; exact c2.w (by omega)
        refine k_goOn (n := 12) L3 okt (by show σ 3 0 + 12 ≤ 20000; omega) (fun u10 L4 x4 => ?_)
        have L83d := L83c.hr x4 (by omega)
        have e23 : tO σ d i 23 0 = 4095 := hp
        rw [hrs_B e23] at L4
        unfold p_X10_drownedMore
        rw [show gi u10 (110 + 1) 1 = nI (hrsB none 12 (tO σ d i) 22 0) from L4.f22, show gi u10 84 1 = nI (σ 22 0) from L83d.f22, bNOT (by omega)]
        dsimp only
        rw [cE0 (Nat.lt_of_le_of_lt (ndf_le _ _) (by omega)), ndf_e0 (hup i)]
        refine ⟨fun c x8 h8 => ?_, fun c => ?_⟩
        · rw [l_1, cA] at h8
          subst h8
          refine k u10 ⟨L83d, c3.hr x4, fun j hj => ?_⟩
          by_cases e : j = i
          · subst e; exact c
          · exact hs.2.2 j (by omega)
        · rw [fstO_at (n := 100 - σ 12 d) hi (fun j hj => decide_eq_false (hs.2.2 j hj)) (decide_eq_true c)] at hq
          exact k_fine hq (c3.hr x4)
    · unfold p_X11_sillFor
      refine r_isDoorT R ok hd ⟨fun _ => ?_, fun z => absurd z (by decide)⟩
      refine xloop (fun m i (s : xM) => p_X11_sillFor_L16 Q m (nI d) (nI i) s) (fun i s => RS σ s ∧ rq u1 s ∧ ∀ j, j < i → hrsB none 12 (tO σ d j) 22 0 ≠ σ 22 0) (100 - σ 12 d) 0 u1 (Nat.zero_le _) ⟨R, rq.rf, fun j hj => by omega⟩ ?_ ?_
      · intro m s hs
        unfold p_X11_sillFor_L16
        rw [fstO_no (fun j hj => decide_eq_false (hs.2.2 j hj))] at hq
        refine r_doorV (w := 2) (f := 12) (v := nI (σ 12 d)) hs.1.1 ok hd rfl (by decide) (by decide) rfl (by simp [rk]; omega) rfl ?_
        refine ⟨fun _ => r_refuse hq hs.2.1, fun c => absurd ?_ c⟩
        rw [cA, l_100, cLE (by omega) (by omega)]
        omega
      · intro m i s _ hi hs k
        have okt := okS_tO (h := i) ok hd (by omega)
        have okn := hrsB_ok (md := none) okt 12 (by show σ 3 0 + 12 ≤ 20000; omega)
        have d7 := okn.drowned
        have p7 := okn.p7
        unfold p_X11_sillFor_L16
        refine r_doorV (w := 2) (f := 12) (v := nI (σ 12 d)) hs.1.1 ok hd rfl (by decide) (by decide) rfl (by simp [rk]; omega) rfl ?_
        refine ⟨fun c => absurd c ?_, fun _ => r_triesOpen hs.1 ok h3 hd (by omega) (fun u6 q6 _ e6 => r_set1 (hs.1.rq ok q6).1 ok ?_)⟩
        · rw [cA, l_100, cLE (by omega) (by omega)]
          omega
        · rw [e6, cEQ (by omega) (by omega)]
          refine ⟨fun c x10 h10 => ?_, fun c => ?_⟩
          · rw [l_1, cA] at h10
            subst h10
            refine k u6 ⟨hs.1.rq ok q6, hs.2.1.tr q6, fun j hj => ?_⟩
            by_cases e : j = i
            · subst e; exact c
            · exact hs.2.2 j (by omega)
          · rw [fstO_at (n := 100 - σ 12 d) hi (fun j hj => decide_eq_false (hs.2.2 j hj)) (decide_eq_true c)] at hq
            exact r_gives hq (hs.2.1.tr q6)
  · refine pj (pc := p_X10_sillFor a u) (pr := p_X11_sillFor a) I ok R (-1) 1 (fun Q hq => ?_) (fun u1 c1 R Q hq => ?_)
    · unfold p_X10_sillFor
      exact k_isDoorF L ok hd ⟨fun z => absurd z (by decide), fun _ => k_none hq cq.rf⟩
    · unfold p_X11_sillFor
      exact r_isDoorF R ok hd ⟨fun z => absurd z (by decide), fun _ => r_refuse hq rq.rf⟩
/-- tides below n are h -/
def sT (σ : aS) (h n : Nat) : aS := sF σ 18 (fun k => if k < n then h else σ 18 k)
theorem sT_0 {h : Nat} : sT σ h 0 = σ := by
  unfold sT
  have : (fun k => if k < 0 then h else σ 18 k) = σ 18 := by
    funext r
    rw [if_neg (by omega)]
  rw [this, sF_id]
theorem sT_s {h i : Nat} : sU (sT σ h i) 18 i h = sT σ h (i + 1) := by
  funext f j
  rw [sU_at]
  unfold sT
  rw [sF_at, sF_at]
  by_cases e : f = 18
  · subst e
    rw [if_pos rfl, if_pos rfl]
    by_cases e2 : j = i
    · subst e2
      rw [if_pos ⟨rfl, rfl⟩, if_pos (by omega)]
    · rw [if_neg (fun z => e2 z.2)]
      by_cases e3 : j < i
      · rw [if_pos e3, if_pos (by omega)]
      · rw [if_neg e3, if_neg (by omega)]
  · rw [if_neg (fun z => e z.1), if_neg e, if_neg e]
theorem okS_sT (ok : okS σ) {h : Nat} (hh : h ≤ 99) (n : Nat) : okS (sT σ h n) := ⟨ok.r, ok.d, ok.e, ok.h, fun q hq => ok.rm hq, fun q hq => ok.dr hq, fun e he => ok.er he, fun q hq => by
  have := ok.hr hq
  refine ⟨?_, this.2⟩
  show (if q < n then h else σ 18 q) ≤ 99
  split
  · exact hh
  · exact this.1, ok.held, ok.walled, ok.drowned, ok.ph⟩
theorem k_setAllTides {h : Nat} {Q : xM → Prop} (L : LR o σ u) (hq : ∀ u', LR o (sT σ h 12) u' → xsame (fun k => k ≠ o + 21) u u' → Q u') : p_X1_setAllTides o (nI h) u Q := by
  unfold p_X1_setAllTides
  refine xloop (fun m i (s : xM) => p_X1_setAllTides_L2 o Q m (nI h) (nI i) s) (fun i s => LR o (sT σ h i) s ∧ xsame (fun k => k ≠ o + 21) u s) 12 0 u (Nat.zero_le _) ⟨by rw [sT_0]; exact L, xsame.rf⟩ ?_ ?_
  · intro m s hs
    unfold p_X1_setAllTides_L2
    exact ⟨fun _ => hq s hs.1 hs.2, fun c => absurd (by decide) c⟩
  · intro m i s _ hi hs k
    unfold p_X1_setAllTides_L2
    refine ⟨fun c => absurd c (by rw [l_12, cLE (by omega) (by omega)]; omega), fun _ => ⟨cIN (by omega) (by decide), fun u3 h3 x4 h4 => ?_⟩⟩
    rw [cCL (by omega)] at h3
    rw [l_1, cA] at h4
    subst h4
    refine k u3 ⟨?_, ?_⟩
    · rw [h3, ← sT_s]
      exact hs.1.up (f := 18) (i := i) (by decide) (by decide) (by decide) (by decide) (by simpa [rlN] using hi) rfl rfl (by simp [rlS])
    · rw [h3]
      exact hs.2.tr (xsame.si (by simp))
theorem k_besieged {h : Nat} {Q : xM → Prop} (L : LR 83 σ u) (ok : okS σ) (hp : σ 23 0 = 4095) (h3 : σ 3 0 ≤ 9999) (hh : h ≤ 99) (hq : ∀ u', LR 110 (hrsB none 12 (sT σ h 12)) u' → LR 83 σ u' → cq u u' → Q u') : p_X10_besieged (nI h) u Q := by
  unfold p_X10_besieged
  refine k_asItIs L ok (fun u1 L1 L83 c1 => k_setAllTides L1 (fun u2 L2 x2 => k_goOn (n := 12) L2 (okS_sT ok hh 12) (by show σ 3 0 + 12 ≤ 20000; omega) (fun u3 L3 x3 => ?_)))
  rw [hrs_B (show sT σ h 12 23 0 = 4095 from hp)] at L3
  exact hq u3 L3 ((L83.same _ x2 (fun n hn => by omega)).hr x3 (by omega)) ((c1.tr (cq.xs x2 (fun k hk => by omega))).hr x3)
theorem r_siegeOf {h : Nat} {Q : Int32 → xM → Prop} (R : RS σ u) (ok : okS σ) (h3 : σ 3 0 ≤ 9999) (hh : h ≤ 99) (hq : ∀ u', rq u u' → Q (nI (hrsB none 12 (sT σ h 12) 22 0)) u') : p_X11_siegeOf (nI h) u Q := by
  unfold p_X11_siegeOf
  refine r_keepsS rfl R ok (fun u1 k1 R1 => ?_)
  refine xloop (fun m i (s : xM) => p_X11_siegeOf_L9 Q m (nI h) (nI i) s) (fun i s => RR 0 (sT σ h i) s ∧ KS u s) 12 0 u1 (Nat.zero_le _) ⟨by rw [sT_0]; exact R1.1, k1⟩ ?_ ?_
  · intro m s hs
    unfold p_X11_siegeOf_L9
    refine ⟨fun _ => r_goesS (n := 12) (hs.2.rs R hs.1) (okS_sT ok hh 12) (by show σ 3 0 + 12 ≤ 20000; omega) (fun u2 R2 g2 => r_set1 R2.1 (hrsB_ok (okS_sT ok hh 12) 12 (by show σ 3 0 + 12 ≤ 20000; omega)) ?_), fun c => absurd (by decide) c⟩
    exact r_restS rfl (hs.2.g g2) R ok (fun u6 _ q6 _ _ => hq u6 q6)
  · intro m i s _ hi hs k
    unfold p_X11_siegeOf_L9
    rw [l_135, cA]
    refine ⟨fun c => absurd c (by rw [l_12, cLE (by omega) (by omega)]; omega), fun _ => ⟨cIN (by omega) (by decide), fun u8 h8 x9 h9 => ?_⟩⟩
    rw [cCL (by omega)] at h8
    rw [l_1, cA] at h9
    subst h9
    refine k u8 ⟨?_, ?_⟩
    · rw [h8, ← sT_s]
      exact RR.one hs.1 (okS_sT ok hh i) (by decide) (by decide) (by decide) (by simpa [rrN] using hi) (by decide) (by simp [rk]) (by simp [rv, sU_at])
    · rw [h8]
      exact hs.2.w (by omega)
theorem K_siege (I : INV u) (a : Int32) : p_X10_siege a u (fun r u1 => p_X11_siege a u1 (fun r' u2 => r = r' ∧ INV u2)) := by
  obtain ⟨σ, S, L, ok, R⟩ := I.sp
  have h3 := okS.hour S
  have hp : σ 23 0 = 4095 := S.2.2.2.2.1
  rcases fromTo (a := a) 0 99 (by decide) with ⟨n, n1, n2, rfl⟩ | hn
  · refine pj (pc := p_X10_siege (nI n) u) (pr := p_X11_siege (nI n)) I ok R (nI (hrsB none 12 (sT σ n 12) 22 0)) 0 (fun Q hq => ?_) (fun u1 c1 R Q hq => ?_)
    · unfold p_X10_siege
      refine k_withinT (lo := 0) (hi := 99) rfl rfl n1 n2 (by decide) ⟨fun _ => k_besieged L ok hp h3 n2 (fun u4 L4 _ c4 => ?_), fun z => absurd z (by decide)⟩
      rw [show gi u4 111 1 = nI (hrsB none 12 (sT σ n 12) 22 0) from L4.f22]
      exact k_fine hq c4
    · unfold p_X11_siege
      exact r_fromT (lo := 0) (hi := 99) (by decide) (by decide) n1 n2 (by decide) ⟨fun z => absurd z (by decide), fun _ => r_siegeOf R ok h3 n2 (fun u2 q2 => r_gives hq q2)⟩
  · refine pj (pc := p_X10_siege a u) (pr := p_X11_siege a) I ok R (-1) 1 (fun Q hq => ?_) (fun u1 c1 R Q hq => ?_)
    · unfold p_X10_siege
      exact k_withinF (lo := 0) (hi := 99) rfl rfl hn (by decide) (by decide) ⟨fun z => absurd z (by decide), fun _ => k_none hq cq.rf⟩
    · unfold p_X11_siege
      exact r_fromF (lo := 0) (hi := 99) (by decide) (by decide) hn (by decide) ⟨fun _ => r_refuse hq rq.rf, fun z => absurd z (by decide)⟩
end SIEGE
