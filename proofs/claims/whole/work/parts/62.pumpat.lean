/-! ===== pumpAt ===== -/
section PUMPAT
variable {σ τ ρ : aS} {u u' u0 : xM} {o o1 : Nat}
theorem lO_c {W : Nat → Nat} {a : Option Nat} {r : Nat} (h1 : ∀ b, a = some b → W b < 1000000) (h2 : W r < 1000000) : (nI (lO W a) ≤ nI (W r)) = (bL W r a = false) ∧ (nI (W r) < nI (lO W a)) = (bL W r a = true) := by
  have h3 : lO W a < 2147483648 := by
    cases a with
    | none => simp [lO]
    | some b => have := h1 b rfl; simp only [lO]; omega
  rw [cLE (by omega) (by omega), cLT (by omega) (by omega)]
  unfold bL
  constructor
  · apply propext
    rw [decide_eq_false_iff_not]
    omega
  · rw [decide_eq_true_eq]
def pA (σ : aS) (n r : Nat) : aS := sU σ 7 r (min 99 (σ 7 r + n))
theorem K_pumpAt (I : INV u) (a : Int32) : p_X10_pumpAt a u (fun r u1 => p_X11_pumpAt a u1 (fun r' u2 => r = r' ∧ INV u2)) := by
  obtain ⟨σ, S, L, ok, R⟩ := I.sp
  have h3 := okS.hour S
  have hp : σ 23 0 = 4095 := S.2.2.2.2.1
  have h7 := ok.r
  rcases fromTo (a := a) 1 99 (by decide) with ⟨n, n1, n2, rfl⟩ | hn
  · have okt : ∀ r, okS (pA σ n r) := fun r => okS_pump ok (by omega)
    have h3t : ∀ r, pA σ n r 3 0 = σ 3 0 := fun r => rfl
    generalize hW : (fun r => allW (hrsB none 12 (pA σ n r))) = W
    have hWr : ∀ r, allW (hrsB none 12 (pA σ n r)) = W r := fun r => by rw [← hW]
    have hWb : ∀ r, W r < 1000000 := fun r => by
      have h1 := allW_le (hrsB_ok (md := none) (okt r) 12 (by show σ 3 0 + 12 ≤ 20000; omega))
      rw [hWr] at h1
      omega
    refine pj (pc := p_X10_pumpAt (nI n) u) (pr := p_X11_pumpAt (nI n)) I ok R (eO (pkO (bL W) (σ 0 0))) (sO (pkO (bL W) (σ 0 0))) (fun Q hq => ?_) (fun u1 c1 R Q hq => ?_)
    · unfold p_X10_pumpAt
      refine k_withinT (lo := 1) (hi := 99) rfl rfl n1 n2 (by decide) ⟨fun _ => ?_, fun z => absurd z (by decide)⟩
      refine xloop (fun m i (s : Int32 × Int32 × xM) => p_X10_pumpAt_L25 Q m (nI n) s.1 s.2.1 (nI i) s.2.2) (fun i s => s.1 = eO (pkO (bL W) i) ∧ s.2.1 = nI (lO W (pkO (bL W) i)) ∧ cq u s.2.2 ∧ LR 83 σ s.2.2) (σ 0 0) 0 (-1, 1000000, u) (Nat.zero_le _) ⟨rfl, l_1000000, cq.rf, L⟩ ?_ ?_
      · intro m s hs
        unfold p_X10_pumpAt_L25
        rw [show gi s.2.2 84 0 = nI (σ 0 0) from hs.2.2.2.f0, hs.1]
        exact ⟨fun _ => k_endO (fun j hj => by have := pkO_lt hj; omega) hq hs.2.2.1, fun c => absurd (by rw [cLE (by omega) (by omega)]; exact Nat.le_refl _) c⟩
      · intro m i s _ hi hs k
        have hm := ok.rm hi
        have cmp := lO_c (W := W) (a := pkO (bL W) i) (r := i) (fun b _ => hWb b) (hWb i)
        unfold p_X10_pumpAt_L25
        rw [show gi s.2.2 84 0 = nI (σ 0 0) from hs.2.2.2.f0]
        refine ⟨fun c => absurd c (by rw [cLE (by omega) (by omega)]; omega), fun _ => k_asItIs hs.2.2.2 ok (fun u7 L7 L83 c7 => ⟨cIN (by omega) (by decide), fun x9 h9 => ⟨cIN (by omega) (by decide), fun u11 h11 => ?_⟩⟩)⟩
        rw [cCL (by omega), show gi u7 116 i = nI (σ 7 i) from L7.f7 hi, cA, l_99, iteMin (by omega) (by omega)] at h9
        rw [cCL (by omega)] at h11
        have L2 : LR 110 (pA σ n i) u11 := by
          rw [h11]
          exact L7.up (f := 7) (i := i) (by decide) (by decide) (by decide) (by decide) (by simpa [rlN] using hi) h9 rfl (by simp [rlS])
        have c2 : cq u u11 := by rw [h11]; exact (hs.2.2.1.tr c7).w (by omega)
        have L3 : LR 83 σ u11 := by rw [h11]; exact L83.w2 (by omega)
        refine k_waterIn (n := 12) L2 (okt i) (by show σ 3 0 + 12 ≤ 20000; omega) (fun u12 _ x12 => ?_)
        rw [hrs_B (show pA σ n i 23 0 = 4095 from hp), hWr, hs.2.1, cmp.1]
        refine ⟨fun c x hx => ?_, fun c x hx => ?_⟩
        · rw [l_1, cA] at hx
          subst hx
          have e : pkO (bL W) (i + 1) = pkO (bL W) i := by rw [pkO, if_neg (by rw [c]; decide)]
          exact k (s.1, nI (lO W (pkO (bL W) i)), u12) ⟨by rw [e]; exact hs.1, by rw [e], c2.hr x12, L3.hr x12 (by omega)⟩
        · rw [l_1, cA] at hx
          subst hx
          have e : pkO (bL W) (i + 1) = some i := by rw [pkO, if_pos (by simpa using c)]
          exact k (nI i, nI (W i), u12) ⟨by rw [e]; rfl, by rw [e]; rfl, c2.hr x12, L3.hr x12 (by omega)⟩
    · unfold p_X11_pumpAt
      refine r_fromT (lo := 1) (hi := 99) (by decide) (by decide) n1 n2 (by decide) ⟨fun _ => ?_, fun z => absurd z (by decide)⟩
      refine xloop (fun m i (s : Int32 × Int32 × xM) => p_X11_pumpAt_L27 Q m (nI n) s.1 s.2.1 (nI i) s.2.2) (fun i s => s.1 = eO (pkO (bL W) i) ∧ s.2.1 = nI (lO W (pkO (bL W) i)) ∧ rq u1 s.2.2 ∧ RS σ s.2.2) (σ 0 0) 0 (-1, 1000000, u1) (Nat.zero_le _) ⟨rfl, l_1000000, rq.rf, R⟩ ?_ ?_
      · intro m s hs
        unfold p_X11_pumpAt_L27
        rw [(r_at l_0 (by decide)).2, hs.2.2.2.1.r0, hs.1]
        exact ⟨(r_at l_0 (by decide)).1, fun _ => r_endO (fun j hj => by have := pkO_lt hj; omega) hq hs.2.2.1, fun c => absurd (by rw [cLE (by omega) (by omega)]; exact Nat.le_refl _) c⟩
      · intro m i s _ hi hs k
        have hm := ok.rm hi
        have cmp := lO_c (W := W) (a := pkO (bL W) i) (r := i) (fun b _ => hWb b) (hWb i)
        unfold p_X11_pumpAt_L27
        rw [(r_at l_0 (by decide)).2, hs.2.2.2.1.r0]
        refine ⟨(r_at l_0 (by decide)).1, fun c => absurd c (by rw [cLE (by omega) (by omega)]; omega), fun _ => ?_⟩
        refine r_roomV (w := 3) (f := 7) (v := nI (σ 7 i)) hs.2.2.2.1 ok hi rfl (by decide) (by decide) rfl (by simp [rk]; omega) rfl (r_roomRow ?_)
        intro x9 h9
        rw [cA, l_99, iteMin (by omega) (by omega)] at h9
        rw [l_3, cA]
        refine ⟨cIN (by omega) (by decide), fun u11 h11 => ?_⟩
        rw [cCL (by omega), show 6 + 7 * i + 3 = 9 + 7 * i by omega] at h11
        have R2 : RR 0 (pA σ n i) u11 := by
          rw [h11]
          exact RR.one hs.2.2.2.1 ok (by decide) (by decide) (by decide) (by simpa [rrN] using hi) (by decide) (by simp [rk]) (by rw [h9]; simp [rv, sU_at])
        have g23 : ∀ j, gi u11 272 j = gi s.2.2 272 j := fun j => by rw [h11, gi_si, if_neg (by omega)]
        refine r_waterIn R2 (okt i) (n := 12) (md := none) (by show σ 3 0 + 12 ≤ 20000; omega) (hs.2.2.2.2.1.cg (g23 23) (g23 24)) ((g23 25).trans hs.2.2.2.2.2) (Or.inl ⟨rfl, rfl⟩) (fun u12 q12 _ => r_roomRow ?_)
        rw [cA]
        refine ⟨cIN (by omega) (by decide), fun u17 h17 => ?_⟩
        rw [cCL (by omega), show 6 + 7 * i + 3 = 9 + 7 * i by omega] at h17
        have q17 : rq s.2.2 u17 := ⟨fun k j hk => by
          rw [h17, gi_si]
          by_cases e1 : k = 273 ∧ j = 9 + 7 * i
          · rw [if_pos e1, e1.1, e1.2, hs.2.2.2.1.r7 hi]
          · rw [if_neg e1, q12.1 k j hk, h11, gi_si, if_neg e1], fun k j hk => by rw [h17, gl_si, q12.2 k j hk, h11, gl_si]⟩
        rw [hWr, hs.2.1, cmp.2]
        refine ⟨fun c x hx => ?_, fun c x hx => ?_⟩
        · rw [l_1, cA] at hx
          subst hx
          have e : pkO (bL W) (i + 1) = some i := by rw [pkO, if_pos c]
          exact k (nI i, nI (W i), u17) ⟨by rw [e]; rfl, by rw [e]; rfl, hs.2.2.1.tr q17, hs.2.2.2.rq ok q17⟩
        · rw [l_1, cA] at hx
          subst hx
          have e : pkO (bL W) (i + 1) = pkO (bL W) i := by rw [pkO, if_neg c]
          exact k (s.1, nI (lO W (pkO (bL W) i)), u17) ⟨by rw [e]; exact hs.1, by rw [e], hs.2.2.1.tr q17, hs.2.2.2.rq ok q17⟩
  · refine pj (pc := p_X10_pumpAt a u) (pr := p_X11_pumpAt a) I ok R (-1) 1 (fun Q hq => ?_) (fun u1 c1 R Q hq => ?_)
    · unfold p_X10_pumpAt
      exact k_withinF (lo := 1) (hi := 99) rfl rfl hn (by decide) (by decide) ⟨fun z => absurd z (by decide), fun _ => k_none hq cq.rf⟩
    · unfold p_X11_pumpAt
      exact r_fromF (lo := 1) (hi := 99) (by decide) (by decide) hn (by decide) ⟨fun z => absurd z (by decide), fun _ => r_refuse hq rq.rf⟩
end PUMPAT
