/-! ===== pumpFor, bailFor ===== -/
section PUMP
variable {σ τ ρ : aS} {u u' u0 : xM} {o o1 : Nat}
theorem r_keepsQ {a : Int32} {Q : xM → Prop} (ha : a = 3144) (R : RS σ u) (ok : okS σ) (hq : ∀ u', KS u u' → RS σ u' → rq u u' → Q u') : p_X11_keeps a u Q :=
  r_keepsT ha (fun u' k x s => hq u' ⟨k, fun i h1 h2 => x.1 272 i (by omega)⟩ ⟨R.1.k ok s, R.2.1.cg (x.1 272 23 (by omega)) (x.1 272 24 (by omega)), (x.1 272 25 (by omega)).trans R.2.2⟩ (k.rq s ⟨x.1 272 23 (by omega), x.1 272 24 (by omega), x.1 272 25 (by omega)⟩ ⟨x.1 272 26 (by omega), x.1 272 27 (by omega)⟩))
theorem K_pumpFor (I : INV u) (a : Int32) : p_X10_pumpFor a u (fun r u1 => p_X11_pumpFor a u1 (fun r' u2 => r = r' ∧ INV u2)) := by
  obtain ⟨σ, S, L, ok, R⟩ := I.sp
  have h3 := okS.hour S
  have hp : σ 23 0 = 4095 := S.2.2.2.2.1
  have h7 := ok.r
  rcases below (a := a) (σ 0 0) with ⟨r, hr, rfl⟩ | hr
  · have hm := ok.rm hr
    generalize hP : (fun n => !(hrsB none 24 (sU σ 7 r n) 22 0).testBit r) = p
    have hPn : ∀ n, (hrsB none 24 (sU σ 7 r n) 22 0).testBit r = !p n := fun n => by rw [← hP]; simp
    refine pj (pc := p_X10_pumpFor (nI r) u) (pr := p_X11_pumpFor (nI r)) I ok R (eO (fstO p 100)) (sO (fstO p 100)) (fun Q hq => ?_) (fun u1 c1 R Q hq => ?_)
    · unfold p_X10_pumpFor
      refine k_isRoomT L ok hr ⟨fun _ => ?_, fun z => absurd z (by decide)⟩
      refine xloop (fun m i (s : xM) => p_X10_pumpFor_L16 Q m (nI r) (nI i) s) (fun i s => LR 83 σ s ∧ cq u s ∧ ∀ j, j < i → p j = false) 100 0 u (Nat.zero_le _) ⟨L, cq.rf, fun j hj => by omega⟩ ?_ ?_
      · intro m s hs
        unfold p_X10_pumpFor_L16
        rw [fstO_no hs.2.2] at hq
        exact ⟨fun _ => k_none hq hs.2.1, fun c => absurd (by decide) c⟩
      · intro m i s _ hi hs k
        have okt := okS_pump (r := r) (v := i) ok (by omega)
        unfold p_X10_pumpFor_L16
        refine ⟨fun c => absurd c (by rw [l_99, cLT (by omega) (by omega)]; omega), fun _ => k_asItIs hs.1 ok (fun u1 L1 L83 c1 => ⟨cIN (by omega) (by decide), fun u6 h6 => ?_⟩)⟩
        rw [cCL (by omega)] at h6
        have L2 : LR 110 (sU σ 7 r i) u6 := by
          rw [h6]
          exact L1.up (f := 7) (i := r) (by decide) (by decide) (by decide) (by decide) (by simpa [rlN] using hr) rfl rfl (by simp [rlS])
        have L3 : LR 83 σ u6 := by rw [h6]; exact L83.w2 (by omega)
        have c2 : cq u u6 := by rw [h6]; exact (hs.2.1.tr c1).w (by omega)
        refine k_goOn (n := 24) L2 okt (by show σ 3 0 + 24 ≤ 20000; omega) (fun u7 L4 x4 => ?_)
        refine k_isDrowned L4 (hrs_ok okt 24 (by show σ 3 0 + 24 ≤ 20000; omega)) (by omega) ?_
        rw [hrs_B (show sU σ 7 r i 23 0 = 4095 from hp), hPn]
        refine ⟨fun c x hx => ?_, fun c => ?_⟩
        · rw [l_1, cA] at hx
          subst hx
          refine k u7 ⟨L3.hr x4 (by omega), c2.hr x4, fun j hj => ?_⟩
          by_cases e : j = i
          · subst e; simpa using c
          · exact hs.2.2 j (by omega)
        · rw [fstO_at (n := 100) hi hs.2.2 (by simpa using c)] at hq
          exact k_fine hq (c2.hr x4)
    · unfold p_X11_pumpFor
      refine r_isRoomT R ok hr ⟨fun _ => r_keepsQ rfl R ok (fun u2 k2 R2 q2 => ?_), fun z => absurd z (by decide)⟩
      refine xloop (fun m i (s : Int32 × xM) => p_X11_pumpFor_L25 Q m (nI r) s.1 (nI i) s.2) (fun i s => KS u1 s.2 ∧ RS σ s.2 ∧ rq u1 s.2 ∧ ((s.1 = -1 ∧ ∀ j, j < i → p j = false) ∨ ∃ k, k < 100 ∧ s.1 = nI k ∧ fstO p 100 = some k)) 100 0 (-1, u2) (Nat.zero_le _) ⟨k2, R2, q2, Or.inl ⟨rfl, fun j hj => by omega⟩⟩ ?_ ?_
      · intro m s hs
        have end1 : p_X11_orNone s.1 s.2 (fun r3 u2 => Q r3 u2) := by
          rcases hs.2.2.2 with ⟨e, hz⟩ | ⟨k, hk, e, ek⟩
          · rw [fstO_no hz] at hq
            rw [e]
            exact r_orNone' hq hs.2.2.1
          · rw [ek] at hq
            rw [e]
            exact r_orNone (nI_ne_m1 (by omega)) hq hs.2.2.1
        unfold p_X11_pumpFor_L25
        exact ⟨fun _ => end1, fun c => absurd (by decide) c⟩
      · intro m i s _ hi hs kk
        unfold p_X11_pumpFor_L25
        refine ⟨fun c => absurd c (by rw [l_100, cLE (by omega) (by omega)]; omega), fun _ => ?_⟩
        rcases hs.2.2.2 with ⟨e, hz⟩ | ⟨k, hk, e, ek⟩
        · rw [e]
          refine ⟨fun c => absurd rfl c, fun _ => r_roomRow ?_⟩
          rw [l_3, cA]
          refine ⟨cIN (by omega) (by decide), fun u10 h10 => ?_⟩
          rw [cCL (by omega)] at h10
          have okt := okS_pump (r := r) (v := i) ok (by omega)
          have okn := hrsB_ok (md := none) okt 24 (by show σ 3 0 + 24 ≤ 20000; omega)
          have R3 : RR 0 (sU σ 7 r i) u10 := by
            rw [h10]
            exact RR.one hs.2.1.1 ok (by decide) (by decide) (by decide) (by simpa [rrN] using hr) (by decide) (by simp [rk]; omega) (by simp [rv, sU_at])
          have k3 : KS u1 u10 := by rw [h10]; exact hs.1.w (by omega)
          refine r_goesS (n := 24) (k3.rs R R3) okt (by show σ 3 0 + 24 ≤ 20000; omega) (fun u11 R4 g4 => ?_)
          have hr2 : r < hrsB none 24 (sU σ 7 r i) 0 0 := by rw [hrsB_kept none 24 _ (by decide : kept 0)]; exact hr
          refine r_roomV (w := 5) (f := 22) (v := nI (bitN (hrsB none 24 (sU σ 7 r i) 22 0) r)) R4.1 okn hr2 rfl (by decide) (by decide) rfl (by simp [rk]; omega) rfl ?_
          have fin : ∀ x : Int32, ((x = -1 ∧ p i = false) ∨ (x = nI i ∧ p i = true)) → p_X11_pumpFor_L66 Q (p_X11_pumpFor_L25 Q m) (nI r) x (nI i) u11 := fun x hx => by
            unfold p_X11_pumpFor_L66
            refine r_restS rfl (k3.g g4) R ok (fun u12 k5 q5 R5 _ x2 h2 => ?_)
            rw [l_1, cA] at h2
            subst h2
            refine kk (x, u12) ⟨k5, R5, q5, ?_⟩
            rcases hx with ⟨hx, hpi⟩ | ⟨hx, hpi⟩
            · refine Or.inl ⟨hx, fun j hj => ?_⟩
              by_cases ej : j = i
              · subst ej; exact hpi
              · exact hz j (by omega)
            · exact Or.inr ⟨i, hi, hx, fstO_at hi hz hpi⟩
          have hb := hPn i
          unfold bitN
          rw [hb]
          cases hpi : p i with
          | true => exact ⟨fun c => absurd rfl c, fun _ => fin _ (Or.inr ⟨rfl, hpi⟩)⟩
          | false => exact ⟨fun _ => fin _ (Or.inl ⟨rfl, hpi⟩), fun c => absurd c (by decide)⟩
        · rw [ek] at hq
          rw [e]
          exact ⟨fun _ => r_orNone (nI_ne_m1 (by omega)) hq hs.2.2.1, fun c => absurd c (nI_ne_m1 (by omega))⟩
  · refine pj (pc := p_X10_pumpFor a u) (pr := p_X11_pumpFor a) I ok R (-1) 1 (fun Q hq => ?_) (fun u1 c1 R Q hq => ?_)
    · unfold p_X10_pumpFor
      exact k_isRoomF L ok hr ⟨fun z => absurd z (by decide), fun _ => k_none hq cq.rf⟩
    · unfold p_X11_pumpFor
      exact r_isRoomF R ok hr ⟨fun z => absurd z (by decide), fun _ => r_refuse hq rq.rf⟩
theorem rl_ne1 : ((List.range 24).all fun f => f == 3 || f == 22 || f == 8 || f == 9 || (rlO f != 7 && rlO f != 8 && (rlO f != 0 || rlS f != 8) && (rlO f != 1 || rlS f != 1))) = true := by decide +kernel
theorem rl_ne (f : Nat) (hf : f < 24) (h3 : f ≠ 3) (h22 : f ≠ 22) (h8 : f ≠ 8) (h9 : f ≠ 9) : rlO f ≠ 7 ∧ rlO f ≠ 8 ∧ (rlO f = 0 → rlS f ≠ 8) ∧ (rlO f = 1 → rlS f ≠ 1) := by
  have h := List.all_eq_true.mp rl_ne1 f (List.mem_range.mpr hf)
  simp only [Bool.or_eq_true, beq_iff_eq, Bool.and_eq_true, bne_iff_ne] at h
  omega
theorem k_copyWater {Q : xM → Prop} (Lρ : LR o ρ u) (L : LR o1 σ u) (ok : okS σ) (hk : ∀ f i, kept f → ρ f i = σ f i) (hoo : o + 27 ≤ o1 ∨ o1 + 27 ≤ o) (hq : ∀ u', LR o σ u' → xsame (hrP o) u u' → Q u') : p_X1_copyWaterFrom o o1 u Q := by
  have h7 := ok.r
  unfold p_X1_copyWaterFrom
  intro v1 e1 v2 e2 v3 e3 v4 e4
  refine hq v4 (fun f hf i hi => ?_) ?_
  · have hl := hi
    have hn : rlN ρ f = rlN σ f := by
      unfold rlN
      rw [hk 0 0 (by decide), hk 1 0 (by decide), hk 2 0 (by decide)]
    have a3 := L.f3
    have a22 := L.f22
    by_cases k3 : f = 3
    · subst k3
      have : i = 0 := rl_lim (Or.inl rfl) hf hl
      subst this
      rw [e4, gi_cpi, if_neg (by simp [rlO]), e3, gi_cpi, if_neg (by simp [rlO]), e2, gi_si, if_neg (by simp [rlO]), e1, gi_si, if_pos ⟨rfl, rfl⟩, a3]
    · by_cases k22 : f = 22
      · subst k22
        have : i = 0 := rl_lim (Or.inr (Or.inl rfl)) hf hl
        subst this
        rw [e4, gi_cpi, if_neg (by simp [rlO]), e3, gi_cpi, if_neg (by simp [rlO]), e2, gi_si, if_pos ⟨rfl, rfl⟩, e1, gi_si, if_neg (by omega), a22]
      · by_cases k8 : f = 8
        · subst k8
          have hi : i < σ 0 0 := by simpa [rlN] using hl
          rw [e4, gi_cpi, if_neg (by simp [rlO]), e3, gi_cpi, if_pos ⟨rfl, by omega, by simp [rlS]; omega⟩, e2, gi_si, if_neg (by omega), e1, gi_si, if_neg (by omega)]
          rw [show 0 + (rlS 8 + i - 0) = i by simp [rlS]]
          exact L.f8 hi
        · by_cases k9 : f = 9
          · subst k9
            have hi : i < σ 0 0 := by simpa [rlN] using hl
            rw [e4, gi_cpi, if_pos ⟨rfl, by omega, by simp [rlS]; omega⟩, e3, gi_cpi, if_neg (by omega), e2, gi_si, if_neg (by omega), e1, gi_si, if_neg (by omega)]
            rw [show 0 + (rlS 9 + i - 0) = i by simp [rlS]]
            exact L.f9 hi
          · have hne := rl_ne f hf k3 k22 k8 k9
            obtain ⟨n7, n8, n0, n1⟩ := hne
            have hlim := rl_lim (σ := σ) (f := f) (i := i)
            rw [e4, gi_cpi, if_neg (by omega), e3, gi_cpi, if_neg (by omega), e2, gi_si, if_neg, e1, gi_si, if_neg]
            · rw [Lρ f hf i (by rw [hn]; exact hl), hk f i ⟨k3, k8, k9, k22⟩]
            · rintro ⟨z1, z2⟩
              have z0 : rlO f = 0 := by omega
              have := hlim (Or.inl z0) hf hl
              have := n0 z0
              omega
            · rintro ⟨z1, z2⟩
              have z0 : rlO f = 1 := by omega
              have := hlim (Or.inr (Or.inl z0)) hf hl
              have := n1 z0
              omega
  · rw [e4, e3, e2, e1]
    exact (((xsame.si (by simp [hrP])).tr (xsame.si (by simp [hrP]))).tr (xsame.cpi (by simp [hrP]))).tr (xsame.cpi (by simp [hrP]))
end PUMP
