/-! ===== borne; walls: gain ===== -/
section GAIN
variable {σ τ : aS} {u u' u0 : xM} {o : Nat}
/-- heights from the highest down: the j-th is 99 - j -/
def bnA (σ : aS) : Option Nat := (fstO (fun j => decide (hrsB none 12 (sT σ (99 - j) 12) 22 0 = σ 22 0)) 100).map (fun j => 99 - j)
theorem bnA_lt {h : Nat} (e : bnA σ = some h) : h ≤ 99 := by
  unfold bnA at e
  cases hf : fstO (fun j => decide (hrsB none 12 (sT σ (99 - j) 12) 22 0 = σ 22 0)) 100 with
  | none => rw [hf] at e; cases e
  | some j =>
    rw [hf] at e
    simp only [Option.map_some, Option.some.injEq] at e
    omega
theorem K_borne (I : INV u) : p_X10_borne u (fun r u1 => p_X11_borne u1 (fun r' u2 => r = r' ∧ INV u2)) := by
  obtain ⟨σ, S, L, ok, R⟩ := I.sp
  have h3 := okS.hour S
  have hp : σ 23 0 = 4095 := S.2.2.2.2.1
  have hD := ok.drowned
  have hp7 := ok.p7
  have hup : ∀ h j, (σ 22 0).testBit j = true → (hrsB none 12 (sT σ h 12) 22 0).testBit j = true := fun h j hj => hrsB_up (σ := sT σ h 12) none 12 j hj
  have hlt : ∀ h, h ≤ 99 → hrsB none 12 (sT σ h 12) 22 0 < 128 := fun h hh => by
    have okn := hrsB_ok (md := none) (okS_sT ok hh 12) 12 (by show σ 3 0 + 12 ≤ 20000; omega)
    exact Nat.lt_of_lt_of_le okn.drowned okn.p7
  have no : ∀ {p : Nat → Bool}, (∀ j, j < 100 → p j = false) → fstO p 100 = none := fun h => fstO_no h
  refine pj (pc := p_X10_borne u) (pr := p_X11_borne) I ok R (eO (bnA σ)) (sO (bnA σ)) (fun Q hq => ?_) (fun u1 c1 R Q hq => ?_)
  · unfold p_X10_borne
    refine xloop (fun m i (s : Int32 × xM) => p_X10_borne_L3 Q m s.1 s.2) (fun i s => s.1 = iI (99 - (i : Int)) ∧ LR 83 σ s.2 ∧ cq u s.2 ∧ ∀ j, j < i → hrsB none 12 (sT σ (99 - j) 12) 22 0 ≠ σ 22 0) 100 0 (99, u) (Nat.zero_le _) ⟨rfl, L, cq.rf, fun j hj => by omega⟩ ?_ ?_
    · intro m s hs
      have e : bnA σ = none := by
        unfold bnA
        rw [fstO_no (fun j hj => decide_eq_false (hs.2.2.2 j hj))]; rfl
      rw [e] at hq
      unfold p_X10_borne_L3
      rw [hs.1]
      exact ⟨fun _ => k_none hq hs.2.2.1, fun c => absurd (by decide) c⟩
    · intro m i s _ hi hs k
      have ev : s.1 = nI (99 - i) := by rw [hs.1, nI_iI]; congr 1; omega
      have h1 := hlt (99 - i) (by omega)
      unfold p_X10_borne_L3
      rw [ev, cN0 (by omega)]
      refine ⟨fun c => c.elim, fun _ => k_besieged hs.2.1 ok hp h3 (by omega) (fun u4 L4 L83 c4 => ?_)⟩
      unfold p_X10_drownedMore
      rw [show gi u4 (110 + 1) 1 = nI (hrsB none 12 (sT σ (99 - i) 12) 22 0) from L4.f22, show gi u4 84 1 = nI (σ 22 0) from L83.f22, bNOT (by omega)]
      dsimp only
      rw [cE0 (Nat.lt_of_le_of_lt (ndf_le _ _) (by omega)), ndf_e0 (hup _)]
      refine ⟨fun c x8 h8 => k (x8, u4) ⟨?_, L83, hs.2.2.1.tr c4, fun j hj => ?_⟩, fun c => ?_⟩
      · show x8 = _
        rw [h8, nI_iI, show (-1 : Int32) = iI (-1) from by decide, iI_add]
        congr 1; omega
      · by_cases e : j = i
        · subst e; exact c
        · exact hs.2.2.2 j (by omega)
      · have e : bnA σ = some (99 - i) := by
          unfold bnA
          rw [fstO_at (n := 100) hi (fun j hj => decide_eq_false (hs.2.2.2 j hj)) (decide_eq_true c)]; rfl
        rw [e] at hq
        exact k_fine hq (hs.2.2.1.tr c4)
  · unfold p_X11_borne
    refine xloop (fun m i (s : Int32 × xM) => p_X11_borne_L3 Q m s.1 s.2) (fun i s => s.1 = iI (99 - (i : Int)) ∧ RS σ s.2 ∧ rq u1 s.2 ∧ ∀ j, j < i → hrsB none 12 (sT σ (99 - j) 12) 22 0 ≠ σ 22 0) 100 0 (99, u1) (Nat.zero_le _) ⟨rfl, R, rq.rf, fun j hj => by omega⟩ ?_ ?_
    · intro m s hs
      have e : bnA σ = none := by
        unfold bnA
        rw [fstO_no (fun j hj => decide_eq_false (hs.2.2.2 j hj))]; rfl
      rw [e] at hq
      unfold p_X11_borne_L3 p_X11_borne_L26
      rw [hs.1]
      exact ⟨fun _ => ⟨fun c => absurd c (by decide), fun _ => r_refuse hq hs.2.2.1⟩, fun c => absurd (by decide) c⟩
    · intro m i s _ hi hs k
      have ev : s.1 = nI (99 - i) := by rw [hs.1, nI_iI]; congr 1; omega
      have h1 := hlt (99 - i) (by omega)
      unfold p_X11_borne_L3
      rw [ev, cN0 (by omega)]
      refine ⟨fun c => c.elim, fun _ => r_siegeOf hs.2.1 ok h3 (by omega) (fun u4 q4 => r_set1 (hs.2.1.rq ok q4).1 ok ?_)⟩
      rw [cEQ (by omega) (by omega)]
      refine ⟨fun c => ?_, fun c x7 h7 => k (x7, u4) ⟨?_, hs.2.1.rq ok q4, hs.2.2.1.tr q4, fun j hj => ?_⟩⟩
      · have e : bnA σ = some (99 - i) := by
          unfold bnA
          rw [fstO_at (n := 100) hi (fun j hj => decide_eq_false (hs.2.2.2 j hj)) (decide_eq_true c)]; rfl
        rw [e] at hq
        unfold p_X11_borne_L26
        exact ⟨fun _ => r_gives hq (hs.2.2.1.tr q4), fun z => absurd (nI_pos' (by omega)) z⟩
      · show x7 = _
        rw [h7, nI_iI, show (-1 : Int32) = iI (-1) from by decide, iI_add]
        congr 1; omega
      · by_cases e : j = i
        · subst e; exact c
        · exact hs.2.2.2 j (by omega)
/-- walls more -/
def wO (σ : aS) (m : Nat) : aS := sU σ 21 0 (σ 21 0 ||| m)
theorem okS_wO (ok : okS σ) {m : Nat} (hm : m < 2 ^ σ 1 0) : okS (wO σ m) := okS_walled ok (or_lt2 ok.walled hm)
theorem k_waterWalled {m : Nat} {Q : Int32 → xM → Prop} (L : LR 83 σ u) (ok : okS σ) (hp : σ 23 0 = 4095) (h3 : σ 3 0 ≤ 9999) (hm : m < 2 ^ σ 1 0) (hq : ∀ u', LR 83 σ u' → cq u u' → Q (nI (allW (hrsB none 12 (wO σ m)))) u') : p_X10_waterWalled (nI m) u Q := by
  unfold p_X10_waterWalled
  refine k_asItIs L ok (fun u1 L1 L83 c1 u2 h2 => ?_)
  rw [show gi u1 119 2 = nI (σ 21 0) from L1.f21, bOR] at h2
  have L2 : LR 110 (wO σ m) u2 := by
    rw [h2]
    exact L1.up (f := 21) (i := 0) (by decide) (by decide) (by decide) (by decide) (by simp [rlN]) rfl rfl rfl
  have c2 : cq u u2 := by rw [h2]; exact c1.w (by omega)
  have L3 : LR 83 σ u2 := by rw [h2]; exact L83.w2 (by omega)
  refine k_waterIn (n := 12) L2 (okS_wO ok hm) (by show σ 3 0 + 12 ≤ 20000; omega) (fun u3 _ x3 => ?_)
  rw [hrs_B (show wO σ m 23 0 = 4095 from hp)]
  exact hq u3 (L3.hr x3 (by omega)) (c2.hr x3)
theorem r_waterWalled {a b : Nat} {Q : Int32 → xM → Prop} (R : RS σ u) (ok : okS σ) (h3 : σ 3 0 ≤ 9999) (ha : a < σ 1 0) (hb : b < σ 1 0) (hq : ∀ u', rq u u' → Q (nI (allW (hrsB none 12 (wO σ (2 ^ a ||| 2 ^ b))))) u') : p_X11_waterWalled (nI a) (nI b) u Q := by
  have h10 := ok.d
  have oka := okS_wO ok (p2lt ha)
  have okb := okS_wO ok (or_lt2 (p2lt ha) (p2lt hb))
  unfold p_X11_waterWalled
  refine r_doorV (w := 7) (f := 21) (v := nI (bitN (σ 21 0) a)) R.1 ok ha rfl (by decide) (by decide) rfl (by simp [rk]; omega) rfl ?_
  refine r_doorV (w := 7) (f := 21) (v := nI (bitN (σ 21 0) b)) R.1 ok hb rfl (by decide) (by decide) rfl (by simp [rk]; omega) rfl ?_
  refine r_doorRow ?_
  rw [l_7, cA]
  refine ⟨cIN (by omega) (by decide), fun u8 h8 => r_doorRow ?_⟩
  rw [cCL (by omega), show 55 + 8 * a + 7 = 62 + 8 * a by omega] at h8
  rw [cA]
  refine ⟨cIN (by omega) (by decide), fun u12 h12 => ?_⟩
  rw [cCL (by omega), show 55 + 8 * b + 7 = 62 + 8 * b by omega] at h12
  have R8 : RR 0 (wO σ (2 ^ a)) u8 := by
    rw [h8]
    refine RR.bit R.1 ok (Or.inr (Or.inl rfl)) (by simpa [rrN] using ha) (by simp [rk]) ?_ (fun j _ hj => ?_)
    · rw [bitN_o2, if_pos rfl]; rfl
    · rw [bitN_o2, if_neg hj]
  have R12 : RR 0 (wO σ (2 ^ a ||| 2 ^ b)) u12 := by
    have e : wO σ (2 ^ a ||| 2 ^ b) = sU (wO σ (2 ^ a)) 21 0 ((σ 21 0 ||| 2 ^ a) ||| 2 ^ b) := by
      funext f i
      unfold wO
      rw [sU_at, sU_at, sU_at, Nat.or_assoc]
      split
      · rfl
      · rfl
    rw [h12, e]
    refine RR.bit R8 oka (Or.inr (Or.inl rfl)) (by show b < σ 1 0; exact hb) (by simp [rk]) ?_ (fun j _ hj => ?_)
    · rw [bitN_o2, if_pos rfl]; rfl
    · rw [bitN_o2, if_neg hj]; rfl
  have g23 : ∀ i, gi u12 272 i = gi u 272 i := fun i => by rw [h12, gi_si, if_neg (by omega), h8, gi_si, if_neg (by omega)]
  refine r_waterIn R12 okb (n := 12) (md := none) (by show σ 3 0 + 12 ≤ 20000; omega) (R.2.1.cg (g23 23) (g23 24)) ((g23 25).trans R.2.2) (Or.inl ⟨rfl, rfl⟩) (fun u13 q13 _ => r_doorRow ?_)
  rw [cA]
  refine ⟨cIN (by omega) (by decide), fun u18 h18 => r_doorRow ?_⟩
  rw [cCL (by omega), show 55 + 8 * b + 7 = 62 + 8 * b by omega] at h18
  rw [cA]
  refine ⟨cIN (by omega) (by decide), fun u22 h22 => ?_⟩
  rw [cCL (by omega), show 55 + 8 * a + 7 = 62 + 8 * a by omega] at h22
  refine hq u22 ⟨fun k i hk => ?_, fun k i hk => ?_⟩
  · rw [h22, gi_si]
    by_cases e1 : k = 273 ∧ i = 62 + 8 * a
    · rw [if_pos e1, e1.1, e1.2, R.1.r21 ha]
    · rw [if_neg e1, h18, gi_si]
      by_cases e2 : k = 273 ∧ i = 62 + 8 * b
      · rw [if_pos e2, e2.1, e2.2, R.1.r21 hb]
      · rw [if_neg e2, q13.1 k i hk, h12, gi_si, if_neg e2, h8, gi_si, if_neg e1]
  · rw [h22, h18, gl_si, gl_si, q13.2 k i hk, h12, h8, gl_si, gl_si]
theorem wO_0 : wO σ 0 = σ := by
  funext f i
  unfold wO
  rw [sU_at, Nat.or_zero]
  split
  · rename_i z; rw [z.1, z.2]
  · rfl
theorem K_gain (I : INV u) (a : Int32) : p_X10_gain a u (fun r u1 => p_X11_gain a u1 (fun r' u2 => r = r' ∧ INV u2)) := by
  obtain ⟨σ, S, L, ok, R⟩ := I.sp
  have h3 := okS.hour S
  have hp : σ 23 0 = 4095 := S.2.2.2.2.1
  have h10 := ok.d
  rcases below (a := a) (σ 1 0) with ⟨d, hd, rfl⟩ | hd
  · refine pj (pc := p_X10_gain (nI d) u) (pr := p_X11_gain (nI d)) I ok R (nI (allW (hrsB none 12 σ)) - nI (allW (hrsB none 12 (wO σ (2 ^ d))))) 0 (fun Q hq => ?_) (fun u1 c1 R Q hq => ?_)
    · unfold p_X10_gain
      refine k_isDoorT L ok hd ⟨fun _ => ?_, fun z => absurd z (by decide)⟩
      refine k_waterWalled (m := 0) L ok hp h3 (Nat.two_pow_pos _) (fun u4 L4 c4 => ?_)
      rw [wO_0, bPOW (by omega)]
      exact k_waterWalled L4 ok hp h3 (p2lt hd) (fun u6 _ c6 => k_fine hq (c4.tr c6))
    · unfold p_X11_gain
      refine r_isDoorT R ok hd ⟨fun z => absurd z (by decide), fun _ => ?_⟩
      refine r_waterIn R.1 ok (n := 12) (by omega) R.2.1 R.2.2 (Or.inl ⟨rfl, rfl⟩) (fun u2 q2 _ => ?_)
      refine r_waterWalled (R.rq ok q2) ok h3 hd hd (fun u3 q3 => ?_)
      rw [Nat.or_self]
      exact r_gives hq (q2.tr q3)
  · refine pj (pc := p_X10_gain a u) (pr := p_X11_gain a) I ok R (-1) 1 (fun Q hq => ?_) (fun u1 c1 R Q hq => ?_)
    · unfold p_X10_gain
      exact k_isDoorF L ok hd ⟨fun z => absurd z (by decide), fun _ => k_none hq cq.rf⟩
    · unfold p_X11_gain
      exact r_isDoorF R ok hd ⟨fun _ => r_refuse hq rq.rf, fun z => absurd z (by decide)⟩
end GAIN
