/-! ===== tries with the mode as it is; the first that drowns ===== -/
def KS (u0 u : xM) : Prop := KT u0 u ∧ ∀ i, 23 ≤ i → i < 28 → gi u 272 i = gi u0 272 i
theorem ntz_all2 : ((List.range 128).all fun m => m == 0 || (m.testBit (ntz m) && (List.range (ntz m)).all fun j => !m.testBit j)) = true := by decide +kernel
section FIRST
variable {σ τ : aS} {u u' u0 : xM} {o : Nat}
theorem KS.g (h : KS u0 u) (g : gsame u u') : KS u0 u' := ⟨h.1.g g, fun i h1 h2 => (g.1.1 272 i ⟨by omega, by omega, by omega⟩).trans (h.2 i h1 h2)⟩
theorem KS.w {k i : Nat} {x : Int32} (h : KS u0 u) (hk : (k = 273 ∧ i < 160) ∨ (k = 272 ∧ 28 ≤ i ∧ i < 39) ∨ (280 ≤ k ∧ k < 289)) : KS u0 (si u k i x) := ⟨h.1.w (by omega), fun j h1 h2 => by rw [gi_si, if_neg (by omega)]; exact h.2 j h1 h2⟩
theorem KS.rs (h : KS u0 u) (R0 : RS σ u0) (R : RR 0 τ u) : RS τ u := ⟨R, R0.2.1.cg (h.2 23 (by omega) (by omega)) (h.2 24 (by omega) (by omega)), (h.2 25 (by omega) (by omega)).trans R0.2.2⟩
theorem r_keepsS {a : Int32} {Q : xM → Prop} (ha : a = 3144) (R : RS σ u) (ok : okS σ) (hq : ∀ u', KS u u' → RS σ u' → Q u') : p_X11_keeps a u Q :=
  r_keepsT ha (fun u' k x s => hq u' ⟨k, fun i h1 h2 => x.1 272 i (by omega)⟩ ⟨R.1.k ok s, R.2.1.cg (x.1 272 23 (by omega)) (x.1 272 24 (by omega)), (x.1 272 25 (by omega)).trans R.2.2⟩)
theorem r_restS {a : Int32} {Q : xM → Prop} (ha : a = 3144) (h : KS u0 u) (R0 : RS σ u0) (ok : okS σ) (hq : ∀ u', KS u0 u' → rq u0 u' → RS σ u' → xsame (fun k => k ≠ 273) u u' → Q u') : p_X11_restores a u Q :=
  r_restT ha h.1 (fun u3 k3 s3 x3 => by
    have k5 : KS u0 u3 := ⟨k3, fun i h1 h2 => (x3.1 272 i (by omega)).trans (h.2 i h1 h2)⟩
    exact hq u3 k5 (k3.rq s3 ⟨k5.2 23 (by omega) (by omega), k5.2 24 (by omega) (by omega), k5.2 25 (by omega) (by omega)⟩ ⟨k5.2 26 (by omega) (by omega), k5.2 27 (by omega) (by omega)⟩) (k5.rs R0 (R0.1.k ok s3)) x3)
theorem RS.rq (R : RS σ u) (ok : okS σ) (h : rq u u') : RS σ u' := ⟨R.1.k ok (fun i _ => h.1 273 i (by omega)), R.2.1.cg (h.1 272 23 (by omega)) (h.1 272 24 (by omega)), (h.1 272 25 (by omega)).trans R.2.2⟩
theorem r_goesByS {Q : Int32 → xM → Prop} (R : RS σ u) (ok : okS σ) (hh : σ 3 0 < 20000) (hq : ∀ u', RR 0 (stp (opn σ) true σ) u' → gsame u u' → (∀ d, d < σ 1 0 → gi u' 282 d = gi u 282 d + nI (pas (opn σ) σ d)) → Q (nI (ndf (drw (opn σ) true σ) (σ 22 0))) u') : p_X11_goesBy u Q :=
  r_goesBy (pu := true) R.1 ok hh R.mo R.2.2 hq
theorem gsame.rs (g : gsame u u') (R : RS σ u) (R' : RR 0 τ u') : RS τ u' := ⟨R', R.2.1.cg (g.1.1 272 23 (by simp [gP])) (g.1.1 272 24 (by simp [gP])), (g.1.1 272 25 (by simp [gP])).trans R.2.2⟩
theorem r_goesS {n : Nat} {Q : Int32 → xM → Prop} (R : RS σ u) (ok : okS σ) (hn : σ 3 0 + n ≤ 20000) (hq : ∀ u', RS (hrsB none n σ) u' → gsame u u' → Q (nI (ndf (hrsB none n σ 22 0) (σ 22 0))) u') : p_X11_goes (nI n) u Q :=
  r_goes R.1 ok hn R.2.1 R.2.2 (fun u' R' g _ => hq u' (g.rs R R') g)
theorem ndf_0 {a b : Nat} (h : ndf a b = 0) (hs : ∀ i, b.testBit i = true → a.testBit i = true) : a = b := by
  apply Nat.eq_of_testBit_eq
  intro i
  have h1 : (ndf a b).testBit i = false := by rw [h, Nat.zero_testBit]
  rw [ndf_testBit] at h1
  have h2 := hs i
  cases ha : a.testBit i <;> cases hb : b.testBit i <;> simp_all
/-- what drowned in the k-th hour or before -/
def mor (σ : aS) (k : Nat) : Nat := ndf (hrsB none k σ 22 0) (σ 22 0)
theorem mor_lt (ok : okS σ) (k : Nat) (hh : σ 3 0 + k ≤ 20000) : mor σ k < 128 := by
  have h1 := (hrsB_ok (md := none) ok k hh).drowned
  have h2 := (hrsB_ok (md := none) ok k hh).p7
  exact Nat.lt_of_lt_of_le (ndf_lt h1) h2
theorem mor_s {k : Nat} (h : ∀ j, j < k → mor σ (j + 1) = 0) : hrsB none k σ 22 0 = σ 22 0 := by
  cases k with
  | zero => rfl
  | succ k => exact ndf_0 (h k (by omega)) (fun i hi => hrsB_up none (k + 1) i hi)
def fdA (σ : aS) : Option Nat := (fstO (fun k => decide (mor σ (k + 1) ≠ 0)) 99).map (fun k => ntz (mor σ (k + 1)))
theorem fdA_no (h : ∀ j, j < 99 → mor σ (j + 1) = 0) : fdA σ = none := by
  unfold fdA
  rw [fstO_no (fun j hj => by simp [h j hj])]; rfl
theorem fdA_at {i : Nat} (hi : i < 99) (h : ∀ j, j < i → mor σ (j + 1) = 0) (hp : mor σ (i + 1) ≠ 0) : fdA σ = some (ntz (mor σ (i + 1))) := by
  unfold fdA
  rw [fstO_at (n := 99) hi (fun j hj => by simp [h j hj]) (by simp [hp])]; rfl
theorem K_firstDrowned (I : INV u) : p_X10_firstDrowned u (fun r u1 => p_X11_firstDrowned u1 (fun r' u2 => r = r' ∧ INV u2)) := by
  obtain ⟨σ, S, L, ok, R⟩ := I.sp
  have h3 := okS.hour S
  have hp : σ 23 0 = 4095 := S.2.2.2.2.1
  refine pj (pc := p_X10_firstDrowned u) (pr := p_X11_firstDrowned) I ok R (eO (fdA σ)) (sO (fdA σ)) (fun Q hq => ?_) (fun u1 c1 R Q hq => ?_)
  · unfold p_X10_firstDrowned
    refine k_asItIs L ok (fun u1 L1 L83 c1 => ?_)
    refine xloop (fun m i (s : xM) => p_X10_firstDrowned_L7 Q m (nI i) s) (fun i s => LR 110 (hrs i σ) s ∧ LR 83 σ s ∧ cq u s ∧ ∀ j, j < i → mor σ (j + 1) = 0) 99 0 u1 (Nat.zero_le _) ⟨L1, L83, c1, fun j hj => by omega⟩ ?_ ?_
    · intro m s hs
      unfold p_X10_firstDrowned_L7
      rw [fdA_no hs.2.2.2] at hq
      exact ⟨fun _ => k_none hq hs.2.2.1, fun c => absurd (by decide) c⟩
    · intro m i s _ hi hs k
      have oki := hrs_ok ok i (by omega)
      have oki1 := hrs_ok ok (i + 1) (by omega)
      have d7 := oki1.drowned
      have p7 := oki1.p7
      have ml := mor_lt ok (i + 1) (by omega)
      unfold p_X10_firstDrowned_L7
      refine ⟨fun c => absurd c (by rw [l_99, cLE (by omega) (by omega)]; omega), fun _ => ?_⟩
      refine k_goOneHour hs.1 oki (by rw [hrs_hour]; omega) (fun u2 L2 _ x2 => ?_)
      have L2' := hs.2.1.hr x2 (by omega)
      unfold p_X10_drownedMore
      rw [show gi u2 (110 + 1) 1 = nI (hrs (i + 1) σ 22 0) from L2.f22, show gi u2 84 1 = nI (σ 22 0) from L2'.f22, bNOT (by omega), hrs_B hp, show ndf (hrsB none (i + 1) σ 22 0) (σ 22 0) = mor σ (i + 1) from rfl]
      dsimp only
      rw [cE0 (by omega)]
      refine ⟨fun c x8 h8 => ?_, fun c => ?_⟩
      · rw [l_1, cA] at h8
        subst h8
        refine k u2 ⟨L2, L2', hs.2.2.1.hr x2, fun j hj => ?_⟩
        by_cases e : j = i
        · subst e; exact c
        · exact hs.2.2.2 j (by omega)
      · rw [fdA_at hi hs.2.2.2 c] at hq
        exact k_ntz c ml (k_fine hq (hs.2.2.1.hr x2))
  · unfold p_X11_firstDrowned
    refine r_keepsS rfl R ok (fun u2 k1 R1 => ?_)
    have fin0 : ∀ s, KS u1 s → fdA σ = none → p_X11_firstDrowned_L32 Q (0 : Int32) s := fun s ks he => by
      rw [he] at hq
      unfold p_X11_firstDrowned_L32
      refine r_restS rfl ks R ok (fun u3 _ q3 _ _ => ⟨1, ?_⟩)
      unfold p_X11_firstDrowned_L41 p_X11_firstDrowned_L60
      exact ⟨fun _ => ⟨fun c => absurd rfl c, fun _ => r_refuse hq q3⟩, fun c => absurd rfl c⟩
    have fin1 : ∀ s m, KS u1 s → m ≠ 0 → m < 128 → fdA σ = some (ntz m) → p_X11_firstDrowned_L32 Q (nI m) s := fun s m ks m0 ml he => by
      rw [he] at hq
      have hz := List.all_eq_true.mp ntz_all2 m (List.mem_range.mpr ml)
      simp only [Bool.or_eq_true, beq_iff_eq, Bool.and_eq_true, List.all_eq_true, List.mem_range] at hz
      rcases hz with hz | ⟨z1, z2⟩
      · exact absurd hz m0
      have z7 := List.all_eq_true.mp ntz_all m (List.mem_range.mpr ml)
      simp only [Bool.or_eq_true, beq_iff_eq, Bool.and_eq_true, decide_eq_true_eq] at z7
      have z7 : ntz m < 7 := by
        rcases z7 with z7 | z7
        · exact absurd z7 m0
        · exact z7.1
      unfold p_X11_firstDrowned_L32
      refine r_restS rfl ks R ok (fun u3 _ q3 _ _ => ?_)
      refine xloop (fun n i (_ : Unit) => p_X11_firstDrowned_L41 Q n (nI m) (nI i) u3) (fun i _ => True) (ntz m) 0 () (Nat.zero_le _) trivial ?_ ?_
      · intro n _ _
        unfold p_X11_firstDrowned_L41
        rw [cE0 (by omega)]
        refine ⟨fun c => absurd c m0, fun _ => r_isIn (by omega) (by omega) ⟨fun _ => ?_, fun c => absurd (z1.symm.trans c) (by decide)⟩⟩
        unfold p_X11_firstDrowned_L60
        rw [cE0 (by omega)]
        exact ⟨fun _ => r_gives hq q3, fun c => absurd c m0⟩
      · intro n i _ _ hi _ k
        unfold p_X11_firstDrowned_L41
        rw [cE0 (by omega)]
        have zi := z2 i hi
        refine ⟨fun c => absurd c m0, fun _ => r_isIn (by omega) (by omega) ⟨fun c => absurd c (by simpa using zi), fun _ x5 h5 => ?_⟩⟩
        rw [l_1, cA] at h5
        subst h5
        exact k () trivial
    refine xloop (fun m i (s : Int32 × xM) => p_X11_firstDrowned_L11 Q m s.1 (nI i) s.2) (fun i s => KS u1 s.2 ∧ ((s.1 = 0 ∧ RR 0 (hrsB none i σ) s.2 ∧ ∀ j, j < i → mor σ (j + 1) = 0) ∨ (∃ k, k < 99 ∧ s.1 = nI (mor σ (k + 1)) ∧ mor σ (k + 1) ≠ 0 ∧ ∀ j, j < k → mor σ (j + 1) = 0))) 99 0 (0, u2) (Nat.zero_le _) ⟨k1, Or.inl ⟨rfl, R1.1, fun j hj => by omega⟩⟩ ?_ ?_
    · intro m s hs
      unfold p_X11_firstDrowned_L11
      refine ⟨fun _ => ?_, fun c => absurd (by decide) c⟩
      rcases hs.2 with ⟨e, _, hz⟩ | ⟨k, hk, e, h0, hz⟩
      · rw [e]; exact fin0 s.2 hs.1 (fdA_no hz)
      · rw [e]; exact fin1 s.2 _ hs.1 h0 (mor_lt ok _ (by omega)) (fdA_at hk hz h0)
    · intro m i s _ hi hs kk
      unfold p_X11_firstDrowned_L11
      refine ⟨fun c => absurd c (by rw [l_99, cLE (by omega) (by omega)]; omega), fun _ => ?_⟩
      rcases hs.2 with ⟨e, Ri, hz⟩ | ⟨k, hk, e, h0, hz⟩
      · rw [e]
        refine ⟨fun c => absurd rfl c, fun _ => ?_⟩
        have oki := hrsB_ok (md := none) ok i (by omega)
        refine r_goesByS (hs.1.rs R Ri) oki (by rw [hrsB_hour]; omega) (fun u3 R3 g3 _ => ?_)
        have em : ndf (drw (opn (hrsB none i σ)) true (hrsB none i σ)) (hrsB none i σ 22 0) = mor σ (i + 1) := by
          rw [mor_s hz]; rfl
        rw [em]
        intro x5 h5
        rw [l_1, cA] at h5
        subst h5
        by_cases c : mor σ (i + 1) = 0
        · refine kk (nI (mor σ (i + 1)), u3) ⟨hs.1.g g3, Or.inl ⟨by rw [c]; rfl, R3, fun j hj => ?_⟩⟩
          by_cases ej : j = i
          · subst ej; exact c
          · exact hz j (by omega)
        · exact kk (nI (mor σ (i + 1)), u3) ⟨hs.1.g g3, Or.inr ⟨i, hi, rfl, c, hz⟩⟩
      · have ml := mor_lt ok (k + 1) (by omega)
        rw [e]
        exact ⟨fun _ => fin1 s.2 _ hs.1 h0 ml (fdA_at hk hz h0), fun c => absurd c (by rw [cE0 (by omega)]; exact h0)⟩
end FIRST
