/-! ===== pour, feed ===== -/
section POUR
variable {σ τ ρ : aS} {u u' u0 u1 : xM} {o o1 : Nat}
theorem nn_of {a : Int32} (h : ¬ a < 0) : ∃ n, n < 2147483648 ∧ a = nI n := by
  have h0 : 0 ≤ a.toInt := by
    rw [Int32.lt_iff_toInt_lt] at h
    have : (0 : Int32).toInt = 0 := by decide
    omega
  have h1 := Int32.toInt_lt a
  refine ⟨a.toInt.toNat, by omega, ?_⟩
  have : (nI a.toInt.toNat).toInt = ((a.toInt.toNat : Nat) : Int) := nI_toInt (by omega)
  apply Int32.toInt_inj.mp
  omega
theorem k_hasRow {p m i n : Nat} {Q : Bool → xM → Prop} (h : gi u p 2 = nI m) (hm : m ≤ 60) (hi : i < 2147483648) (hn : n < 2147483648) (hq : Q (decide (i + n ≤ m)) u) : p_X9_hasRow p (nI i) (nI n) u Q := by
  unfold p_X9_hasRow
  rw [h, cN0 hi, cN0 hn, cLT (by omega) hi]
  refine ⟨fun c => c.elim, fun _ => ⟨fun c => c.elim, fun _ => ⟨fun c => ?_, fun c => ?_⟩⟩⟩
  · rw [decide_eq_false (by omega)] at hq; exact hq
  · rw [cS (by omega), cLT (by omega) hn]
    refine ⟨fun d => ?_, fun d => ?_⟩
    · rw [decide_eq_false (by omega)] at hq; exact hq
    · rw [decide_eq_true (by omega)] at hq; exact hq
theorem ct.cpl {t k0 sp k1 dp n : Nat} (h : ct t u0 u) (hk : k1 = 51 + 2 * t) (ht : t < 4) : ct t u0 (cpl u k0 sp k1 dp n) := ⟨fun a b hab => h.1 a b hab, fun a b hab => by rw [gl_cpl, if_neg (by omega)]; exact h.2 a b hab⟩
theorem K_pour (I : INV u) (a b c d e : Int32) : p_X10_pour a b c d e u (fun r u1 => p_X11_pour a b c d e u1 (fun r' u2 => r = r' ∧ INV u2)) := by
  obtain ⟨σ, S, L, ok, R⟩ := I.sp
  rcases below (a := a) 4 with ⟨t1, ht1, rfl⟩ | ha
  · rcases below (a := c) 4 with ⟨t2, ht2, rfl⟩ | hc
    · by_cases hb : b < 0
      · refine pj (pc := p_X10_pour (nI t1) b (nI t2) d e u) (pr := p_X11_pour (nI t1) b (nI t2) d e) I ok R false 1 (fun Q hq => ?_) (fun u1 c1 R Q hq => ?_)
        · unfold p_X10_pour
          exact k_trayT ht1 ⟨fun z => (nomatch z), fun _ _ => k_trayT ht2 ⟨fun z => (nomatch z), fun _ _ => ⟨fun _ => k_refused hq cq.rf, fun z => absurd hb z⟩⟩⟩
        · unfold p_X11_pour
          exact r_trayT ht1 ⟨fun z => absurd z (by decide), fun _ => r_trayT ht2 ⟨fun z => absurd z (by decide), fun _ => ⟨fun _ => r_isF (by decide) hq rq.rf, fun z => absurd hb z⟩⟩⟩
      · by_cases hd : d < 0
        · refine pj (pc := p_X10_pour (nI t1) b (nI t2) d e u) (pr := p_X11_pour (nI t1) b (nI t2) d e) I ok R false 1 (fun Q hq => ?_) (fun u1 c1 R Q hq => ?_)
          · unfold p_X10_pour
            exact k_trayT ht1 ⟨fun z => (nomatch z), fun _ _ => k_trayT ht2 ⟨fun z => (nomatch z), fun _ _ => ⟨fun z => absurd z hb, fun _ => ⟨fun _ => k_refused hq cq.rf, fun z => absurd hd z⟩⟩⟩⟩
          · unfold p_X11_pour
            exact r_trayT ht1 ⟨fun z => absurd z (by decide), fun _ => r_trayT ht2 ⟨fun z => absurd z (by decide), fun _ => ⟨fun z => absurd z hb, fun _ => ⟨fun _ => r_isF (by decide) hq rq.rf, fun z => absurd hd z⟩⟩⟩⟩
        · by_cases he : 0 ≤ e
          · obtain ⟨p, hp, rfl⟩ := nn_of hb
            obtain ⟨q, hq0, rfl⟩ := nn_of hd
            obtain ⟨n, hn, rfl⟩ := nn_of (a := e) (by rw [Int32.lt_iff_toInt_lt]; rw [Int32.le_iff_toInt_le] at he; omega)
            obtain ⟨s1, hs1, sa1, sb1, hm1⟩ := I.tra t1 ht1
            obtain ⟨s2, hs2, sa2, sb2, hm2⟩ := I.tra t2 ht2
            rcases hm1 with ⟨ma1, mb1⟩ | ⟨m1, hm1, ma1, mb1, mc1⟩
            · refine pj (pc := p_X10_pour (nI t1) (nI p) (nI t2) (nI q) (nI n) u) (pr := p_X11_pour (nI t1) (nI p) (nI t2) (nI q) (nI n)) I ok R false 2 (fun Q hq => ?_) (fun u1 c1 R Q hq => ?_)
              · unfold p_X10_pour
                refine k_trayT ht1 ⟨fun z => (nomatch z), fun x ex => ?_⟩
                rw [← (Option.some.inj ex)]
                exact k_trayT ht2 ⟨fun z => (nomatch z), fun _ _ => ⟨fun z => absurd z hb, fun _ => ⟨fun z => absurd z hd, fun _ => ⟨fun _ => k_isMissingT ma1 ⟨fun _ => k_refused hq cq.rf, fun z => absurd z (by decide)⟩, fun z => absurd he z⟩⟩⟩⟩
              · unfold p_X11_pour
                refine r_trayT ht1 ⟨fun z => absurd z (by decide), fun _ => r_trayT ht2 ⟨fun z => absurd z (by decide), fun _ => ⟨fun z => absurd z hb, fun _ => ⟨fun z => absurd z hd, fun _ => ⟨fun _ => ⟨cIN (by omega) (by decide), ?_⟩, fun z => absurd he z⟩⟩⟩⟩⟩
                rw [cCL (by omega), c1.1 276 t1 (by omega), mb1]
                exact ⟨fun _ => r_isF (by decide) hq rq.rf, fun z => absurd rfl z⟩
            · rcases hm2 with ⟨ma2, mb2⟩ | ⟨m2, hm2, ma2, mb2, mc2⟩
              · refine pj (pc := p_X10_pour (nI t1) (nI p) (nI t2) (nI q) (nI n) u) (pr := p_X11_pour (nI t1) (nI p) (nI t2) (nI q) (nI n)) I ok R false 2 (fun Q hq => ?_) (fun u1 c1 R Q hq => ?_)
                · unfold p_X10_pour
                  refine k_trayT ht1 ⟨fun z => (nomatch z), fun x ex => ?_⟩
                  rw [← (Option.some.inj ex)]
                  refine k_trayT ht2 ⟨fun z => (nomatch z), fun y ey => ?_⟩
                  rw [← (Option.some.inj ey)]
                  exact ⟨fun z => absurd z hb, fun _ => ⟨fun z => absurd z hd, fun _ => ⟨fun _ => k_isMissingF ma1 (by omega) ⟨fun z => absurd z (by decide), fun _ => k_isMissingT ma2 ⟨fun z => absurd z (by decide), fun _ => k_refused hq cq.rf⟩⟩, fun z => absurd he z⟩⟩⟩
                · unfold p_X11_pour
                  refine r_trayT ht1 ⟨fun z => absurd z (by decide), fun _ => r_trayT ht2 ⟨fun z => absurd z (by decide), fun _ => ⟨fun z => absurd z hb, fun _ => ⟨fun z => absurd z hd, fun _ => ⟨fun _ => ⟨cIN (by omega) (by decide), ?_⟩, fun z => absurd he z⟩⟩⟩⟩⟩
                  rw [cCL (by omega), cCL (by omega), c1.1 276 t1 (by omega), c1.1 276 t2 (by omega), mb1, mb2]
                  exact ⟨fun z => absurd z (nI_ne_m1 (by omega)), fun _ => ⟨cIN (by omega) (by decide), fun z => absurd rfl z, fun _ => r_isF (by decide) hq rq.rf⟩⟩
              · by_cases hs : s1 = s2
                · by_cases hr : p + n ≤ m1 ∧ q + n ≤ m2
                  · refine ptr (pc := p_X10_pour (nI t1) (nI p) (nI t2) (nI q) (nI n) u) (pr := p_X11_pour (nI t1) (nI p) (nI t2) (nI q) (nI n)) I (t := t2) (s := s2) (m := m2) (f := fun j => if q ≤ j ∧ j < q + n then gl u (51 + 2 * t1) (p + (j - q)) else gl u (51 + 2 * t2) j) ht2 hs2 hm2 true 0 (fun Q hq => ?_) (fun u1 c1 Q hq => ?_)
                    · unfold p_X10_pour
                      refine k_trayT ht1 ⟨fun z => (nomatch z), fun x ex => ?_⟩
                      rw [← (Option.some.inj ex)]
                      refine k_trayT ht2 ⟨fun z => (nomatch z), fun y ey => ?_⟩
                      rw [← (Option.some.inj ey)]
                      refine ⟨fun z => absurd z hb, fun _ => ⟨fun z => absurd z hd, fun _ => ⟨fun _ => k_isMissingF ma1 (by omega) ⟨fun z => absurd z (by decide), fun _ => k_isMissingF ma2 (by omega) ⟨fun _ => ⟨fun _ => k_hasRow ma1 hm1 hp hn ?_, fun z => absurd (by rw [sa1, sa2, hs]) z⟩, fun z => absurd z (by decide)⟩⟩, fun z => absurd he z⟩⟩⟩
                      rw [decide_eq_true hr.1]
                      refine ⟨fun z => absurd z (by decide), fun _ => k_hasRow ma2 hm2 hq0 hn ?_⟩
                      rw [decide_eq_true hr.2]
                      refine ⟨fun _ => ⟨⟨hb, hd, by rw [cN0 hn]; exact fun z => z, by rw [cCL hp, cCL hn]; omega, by rw [cCL hq0, cCL hn]; omega⟩, fun u9 h9 => ?_⟩, fun z => absurd z (by decide)⟩
                      rw [cCL hp, cCL hn, cCL hq0, show 50 + 2 * t1 + 1 = 51 + 2 * t1 by omega, show 50 + 2 * t2 + 1 = 51 + 2 * t2 by omega] at h9
                      refine k_doneT ht2 hq (by rw [h9]; exact ct.rf.cpl rfl ht2) ⟨by rw [h9]; exact sa2, by rw [h9]; exact ma2, fun j hj => ?_⟩
                      dsimp only
                      rw [h9, gl_cpl]
                      by_cases e : q ≤ j ∧ j < q + n
                      · rw [if_pos ⟨rfl, e⟩, if_pos e]
                      · rw [if_neg (fun z => e z.2), if_neg e]
                    · have mb1' := (c1.1 276 t1 (by omega)).trans mb1
                      have mb2' := (c1.1 276 t2 (by omega)).trans mb2
                      have sb1' := (c1.1 275 t1 (by omega)).trans sb1
                      have sb2' := (c1.1 275 t2 (by omega)).trans sb2
                      unfold p_X11_pour
                      refine r_trayT ht1 ⟨fun z => absurd z (by decide), fun _ => r_trayT ht2 ⟨fun z => absurd z (by decide), fun _ => ⟨fun z => absurd z hb, fun _ => ⟨fun z => absurd z hd, fun _ => ⟨fun _ => ⟨cIN (by omega) (by decide), ?_⟩, fun z => absurd he z⟩⟩⟩⟩⟩
                      rw [cCL (by omega), cCL (by omega), mb1', mb2', sb1', sb2', cS (by omega), cS (by omega), cLT (by omega) (by omega), cLE (by omega) (by omega)]
                      refine ⟨fun z => absurd z (nI_ne_m1 (by omega)), fun _ => ⟨cIN (by omega) (by decide), fun _ => ⟨cIN (by omega) (by decide), cIN (by omega) (by decide), fun _ => ⟨cIN (by omega) (by decide), fun z => absurd z (by omega), fun _ => ⟨cIN (by omega) (by decide), fun _ => ?_, fun z => absurd (by omega) z⟩⟩, fun z => absurd (by rw [hs]) z⟩, fun z => absurd z (nI_ne_m1 (by omega))⟩⟩
                      refine xloop (fun k i (w : xM) => p_X11_pour_L118 Q k (nI t1) (nI p) (nI t2) (nI q) (nI n) (nI i) w) (fun i w => rt t2 u1 w ∧ gi w 275 t2 = nI s2 ∧ gi w 276 t2 = nI m2 ∧ ∀ x, gl w 277 x = if (if q ≤ p then 60 * t2 + q else 60 * t2 + q + n - i) ≤ x ∧ x < (if q ≤ p then 60 * t2 + q else 60 * t2 + q + n - i) + i then gl u1 277 (60 * t1 + p + (x - (60 * t2 + q))) else gl u1 277 x) n 0 u1 (Nat.zero_le _) ⟨rt.rf, sb2', mb2', fun x => by rw [if_neg (by split <;> omega)]⟩ ?_ ?_
                      · intro k w hw
                        unfold p_X11_pour_L118
                        refine ⟨fun _ => r_done rfl hq hw.1 ⟨hw.2.1, hw.2.2.1, fun j hj => ?_⟩, fun z => absurd (by rw [cLE (by omega) (by omega)]; exact Nat.le_refl _) z⟩
                        dsimp only
                        rw [hw.2.2.2]
                        by_cases e : q ≤ j ∧ j < q + n
                        · rw [if_pos (by split <;> omega), if_pos e, c1.2 277 _ (by omega), mc1 _ (by omega)]
                          congr 1
                          omega
                        · rw [if_neg (by split <;> omega), if_neg e, c1.2 277 _ (by omega), mc2 _ hj]
                      · intro k i w _ hi hw kk
                        have st : ∀ j, j = (if q ≤ p then i else n - 1 - i) → p_X11_pour_L143 Q (p_X11_pour_L118 Q k) (nI t1) (nI p) (nI t2) (nI q) (nI n) (nI i) (nI j) w := fun j ej => by
                          have hj : j < n := by rw [ej]; split <;> omega
                          unfold p_X11_pour_L143
                          rw [l_60, cM, cA, cA, cM, cA, cA]
                          refine ⟨cIN (by omega) (by decide), cIN (by omega) (by decide), fun u3 h3 x4 h4 => ?_⟩
                          rw [l_1, cA] at h4
                          subst h4
                          rw [cCL (by omega), cCL (by omega)] at h3
                          refine kk u3 ⟨by rw [h3]; exact hw.1.sl ⟨rfl, by omega, by omega⟩, by rw [h3]; exact hw.2.1, by rw [h3]; exact hw.2.2.1, fun x => ?_⟩
                          rw [h3, gl_sl]
                          by_cases ex : x = 60 * t2 + q + j
                          · rw [if_pos ⟨rfl, ex⟩, if_pos (by split at ej <;> rename_i cc <;> simp only [cc, if_true, if_false] <;> omega), hw.2.2.2, if_neg (by split at ej <;> rename_i cc <;> simp only [cc, if_true, if_false] <;> omega)]
                            congr 1
                            omega
                          · rw [if_neg (fun z => ex z.2), hw.2.2.2]
                            by_cases ey : (if q ≤ p then 60 * t2 + q else 60 * t2 + q + n - i) ≤ x ∧ x < (if q ≤ p then 60 * t2 + q else 60 * t2 + q + n - i) + i
                            · rw [if_pos ey, if_pos (by split at ej <;> rename_i cc <;> simp only [cc, if_true, if_false] at ey ⊢ <;> omega)]
                            · rw [if_neg ey, if_neg (by split at ej <;> rename_i cc <;> simp only [cc, if_true, if_false] at ey ⊢ <;> omega)]
                        unfold p_X11_pour_L118
                        rw [cLE (by omega) (by omega), cLE (by omega) (by omega)]
                        refine ⟨fun z => absurd z (by omega), fun _ => ⟨fun z => st i (by rw [if_pos z]), fun z => ?_⟩⟩
                        rw [l_1, cS (by omega), cS (by omega)]
                        exact st (n - 1 - i) (by rw [if_neg z])
                  · refine pj (pc := p_X10_pour (nI t1) (nI p) (nI t2) (nI q) (nI n) u) (pr := p_X11_pour (nI t1) (nI p) (nI t2) (nI q) (nI n)) I ok R false 3 (fun Q hq => ?_) (fun u1 c1 R Q hq => ?_)
                    · unfold p_X10_pour
                      refine k_trayT ht1 ⟨fun z => (nomatch z), fun x ex => ?_⟩
                      rw [← (Option.some.inj ex)]
                      refine k_trayT ht2 ⟨fun z => (nomatch z), fun y ey => ?_⟩
                      rw [← (Option.some.inj ey)]
                      refine ⟨fun z => absurd z hb, fun _ => ⟨fun z => absurd z hd, fun _ => ⟨fun _ => k_isMissingF ma1 (by omega) ⟨fun z => absurd z (by decide), fun _ => k_isMissingF ma2 (by omega) ⟨fun _ => ⟨fun _ => k_hasRow ma1 hm1 hp hn ?_, fun z => absurd (by rw [sa1, sa2, hs]) z⟩, fun z => absurd z (by decide)⟩⟩, fun z => absurd he z⟩⟩⟩
                      refine ⟨fun _ => k_refused hq cq.rf, fun z => k_hasRow ma2 hm2 hq0 hn ⟨fun z2 => ?_, fun _ => k_refused hq cq.rf⟩⟩
                      rw [decide_eq_true_eq] at z z2
                      exact absurd ⟨z, z2⟩ hr
                    · have mb1' := (c1.1 276 t1 (by omega)).trans mb1
                      have mb2' := (c1.1 276 t2 (by omega)).trans mb2
                      have sb1' := (c1.1 275 t1 (by omega)).trans sb1
                      have sb2' := (c1.1 275 t2 (by omega)).trans sb2
                      unfold p_X11_pour
                      refine r_trayT ht1 ⟨fun z => absurd z (by decide), fun _ => r_trayT ht2 ⟨fun z => absurd z (by decide), fun _ => ⟨fun z => absurd z hb, fun _ => ⟨fun z => absurd z hd, fun _ => ⟨fun _ => ⟨cIN (by omega) (by decide), ?_⟩, fun z => absurd he z⟩⟩⟩⟩⟩
                      rw [cCL (by omega), cCL (by omega), mb1', mb2', sb1', sb2', nI_iI m1, nI_iI p, nI_iI m2, nI_iI q, nI_iI n, iI_sub, iI_sub, iI_lt (by omega) (by omega) (by omega) (by omega), iI_le (by omega) (by omega) (by omega) (by omega), ← nI_iI, ← nI_iI]
                      exact ⟨fun z => absurd z (nI_ne_m1 (by omega)), fun _ => ⟨cIN (by omega) (by decide), fun _ => ⟨cIN (by omega) (by decide), cIN (by omega) (by decide), fun _ => ⟨cIN (by omega) (by decide), fun _ => r_isF (by decide) hq rq.rf, fun z => ⟨cIN (by omega) (by decide), fun z2 => absurd ⟨by omega, by omega⟩ hr, fun _ => r_isF (by decide) hq rq.rf⟩⟩, fun z => absurd (by rw [hs]) z⟩, fun z => absurd z (nI_ne_m1 (by omega))⟩⟩
                · refine pj (pc := p_X10_pour (nI t1) (nI p) (nI t2) (nI q) (nI n) u) (pr := p_X11_pour (nI t1) (nI p) (nI t2) (nI q) (nI n)) I ok R false 8 (fun Q hq => ?_) (fun u1 c1 R Q hq => ?_)
                  · unfold p_X10_pour
                    refine k_trayT ht1 ⟨fun z => (nomatch z), fun x ex => ?_⟩
                    rw [← (Option.some.inj ex)]
                    refine k_trayT ht2 ⟨fun z => (nomatch z), fun y ey => ?_⟩
                    rw [← (Option.some.inj ey)]
                    refine ⟨fun z => absurd z hb, fun _ => ⟨fun z => absurd z hd, fun _ => ⟨fun _ => k_isMissingF ma1 (by omega) ⟨fun z => absurd z (by decide), fun _ => k_isMissingF ma2 (by omega) ⟨fun _ => ⟨fun z => absurd z ?_, fun _ => k_refused hq cq.rf⟩, fun z => absurd z (by decide)⟩⟩, fun z => absurd he z⟩⟩⟩
                    rw [sa1, sa2, cEQ (by omega) (by omega)]
                    exact hs
                  · have mb1' := (c1.1 276 t1 (by omega)).trans mb1
                    have mb2' := (c1.1 276 t2 (by omega)).trans mb2
                    have sb1' := (c1.1 275 t1 (by omega)).trans sb1
                    have sb2' := (c1.1 275 t2 (by omega)).trans sb2
                    unfold p_X11_pour
                    refine r_trayT ht1 ⟨fun z => absurd z (by decide), fun _ => r_trayT ht2 ⟨fun z => absurd z (by decide), fun _ => ⟨fun z => absurd z hb, fun _ => ⟨fun z => absurd z hd, fun _ => ⟨fun _ => ⟨cIN (by omega) (by decide), ?_⟩, fun z => absurd he z⟩⟩⟩⟩⟩
                    rw [cCL (by omega), cCL (by omega), mb1', mb2', sb1', sb2', cEQ (a := s1) (by omega) (by omega)]
                    exact ⟨fun z => absurd z (nI_ne_m1 (by omega)), fun _ => ⟨cIN (by omega) (by decide), fun _ => ⟨cIN (by omega) (by decide), cIN (by omega) (by decide), fun z => absurd z hs, fun _ => r_isF (by decide) hq rq.rf⟩, fun z => absurd z (nI_ne_m1 (by omega))⟩⟩
          · refine pj (pc := p_X10_pour (nI t1) b (nI t2) d e u) (pr := p_X11_pour (nI t1) b (nI t2) d e) I ok R false 1 (fun Q hq => ?_) (fun u1 c1 R Q hq => ?_)
            · unfold p_X10_pour
              exact k_trayT ht1 ⟨fun z => (nomatch z), fun _ _ => k_trayT ht2 ⟨fun z => (nomatch z), fun _ _ => ⟨fun z => absurd z hb, fun _ => ⟨fun z => absurd z hd, fun _ => ⟨fun z => absurd z he, fun _ => k_refused hq cq.rf⟩⟩⟩⟩⟩
            · unfold p_X11_pour
              exact r_trayT ht1 ⟨fun z => absurd z (by decide), fun _ => r_trayT ht2 ⟨fun z => absurd z (by decide), fun _ => ⟨fun z => absurd z hb, fun _ => ⟨fun z => absurd z hd, fun _ => ⟨fun z => absurd z he, fun _ => r_isF (by decide) hq rq.rf⟩⟩⟩⟩⟩
    · refine pj (pc := p_X10_pour (nI t1) b c d e u) (pr := p_X11_pour (nI t1) b c d e) I ok R false 1 (fun Q hq => ?_) (fun u1 c1 R Q hq => ?_)
      · unfold p_X10_pour
        exact k_trayT ht1 ⟨fun z => (nomatch z), fun _ _ => k_trayF hc ⟨fun _ => k_refused hq cq.rf, fun _ ex => (nomatch ex)⟩⟩
      · unfold p_X11_pour
        exact r_trayT ht1 ⟨fun z => absurd z (by decide), fun _ => r_trayF hc ⟨fun _ => r_isF (by decide) hq rq.rf, fun z => absurd z (by decide)⟩⟩
  · refine pj (pc := p_X10_pour a b c d e u) (pr := p_X11_pour a b c d e) I ok R false 1 (fun Q hq => ?_) (fun u1 c1 R Q hq => ?_)
    · unfold p_X10_pour
      refine k_trayF ha ⟨fun _ => ?_, fun _ ex => (nomatch ex)⟩
      rcases below (a := c) 4 with ⟨t2, ht2, rfl⟩ | hc
      · exact k_trayT ht2 ⟨fun z => (nomatch z), fun _ _ => k_refused hq cq.rf⟩
      · exact k_trayF hc ⟨fun _ => k_refused hq cq.rf, fun _ ex => (nomatch ex)⟩
    · unfold p_X11_pour
      exact r_trayF ha ⟨fun _ => r_isF (by decide) hq rq.rf, fun z => absurd z (by decide)⟩
end POUR
