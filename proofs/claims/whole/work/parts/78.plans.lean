/-! ===== plan, planned ===== -/
def cE (h : Nat → Nat) (n : Nat) : Nat := 4096 * (if 0 < n then h 0 else 0) + 256 * (if 1 < n then h 1 else 0) + 16 * (if 2 < n then h 2 else 0) + (if 3 < n then h 3 else 0)
section PLANS
variable {σ τ ρ θ : aS} {u u' u0 u1 : xM} {D W : Nat → Nat}
theorem cE_nb {h : Nat → Nat} {n : Nat} (hh : ∀ e, e < n → h e < 16) {e : Nat} (he : e < 4) : nb (cE h n) e = if e < n then h e else 0 := by
  have b0 : (if 0 < n then h 0 else 0) < 16 := by split <;> rename_i z <;> first | exact hh 0 z | omega
  have b1 : (if 1 < n then h 1 else 0) < 16 := by split <;> rename_i z <;> first | exact hh 1 z | omega
  have b2 : (if 2 < n then h 2 else 0) < 16 := by split <;> rename_i z <;> first | exact hh 2 z | omega
  have b3 : (if 3 < n then h 3 else 0) < 16 := by split <;> rename_i z <;> first | exact hh 3 z | omega
  unfold cE
  rcases (by omega : e = 0 ∨ e = 1 ∨ e = 2 ∨ e = 3) with z | z | z | z
  · subst z; rw [nb0]; omega
  · subst z; rw [nb1]; omega
  · subst z; rw [nb2]; omega
  · subst z; rw [nb3]; omega
theorem cE_lt {h : Nat → Nat} {n : Nat} (hh : ∀ e, e < n → h e < 16) : cE h n < 65536 := by
  have b0 : (if 0 < n then h 0 else 0) < 16 := by split <;> rename_i z <;> first | exact hh 0 z | omega
  have b1 : (if 1 < n then h 1 else 0) < 16 := by split <;> rename_i z <;> first | exact hh 1 z | omega
  have b2 : (if 2 < n then h 2 else 0) < 16 := by split <;> rename_i z <;> first | exact hh 2 z | omega
  have b3 : (if 3 < n then h 3 else 0) < 16 := by split <;> rename_i z <;> first | exact hh 3 z | omega
  unfold cE
  omega
theorem VAL_cE (ok : okS σ) {h : Nat → Nat} (hh : ∀ e, e < σ 2 0 → σ 16 e ≤ h e ∧ h e ≤ σ 17 e) : VAL σ (cE h (σ 2 0)) := by
  have h4 := ok.e
  have hb : ∀ e, e < σ 2 0 → h e < 16 := fun e he => by
    have h1 := hh e he
    have h2 := ok.er he
    omega
  refine ⟨cE_lt hb, fun e he => ?_, fun e he he4 => ?_⟩
  · rw [cE_nb hb (by omega), if_pos he]; exact hh e he
  · rw [cE_nb hb he4, if_neg (by omega)]
theorem okS_cR0 (ok : okS σ) : okS (cR0 σ 12) := by
  have e : ∀ f, f ≠ 19 → cR0 σ 12 f = σ f := fun f hf => by
    funext i
    unfold cR0
    rw [sF_at, if_neg hf]
  have e19 : ∀ k, k < 12 → cR0 σ 12 19 k = 0 := fun k hk => by
    unfold cR0
    rw [sF_at, if_pos rfl, if_pos hk]
  unfold okS
  rw [e 0 (by decide), e 1 (by decide), e 2 (by decide), e 3 (by decide), e 4 (by decide), e 5 (by decide), e 6 (by decide), e 7 (by decide), e 8 (by decide), e 9 (by decide), e 10 (by decide), e 11 (by decide), e 12 (by decide), e 13 (by decide), e 14 (by decide), e 15 (by decide), e 16 (by decide), e 17 (by decide), e 18 (by decide), e 20 (by decide), e 21 (by decide), e 22 (by decide), e 23 (by decide)]
  exact ⟨ok.r, ok.d, ok.e, ok.h, fun r hr => ok.rm hr, fun d hd => ok.dr hd, fun e he => ok.er he, fun k hk => ⟨(ok.hr hk).1, by rw [e19 k hk]; exact Nat.two_pow_pos _⟩, ok.held, ok.walled, ok.drowned, ok.ph⟩
theorem k_planErrands (L : LR 83 σ u) (ok : okS σ) (h3 : σ 3 0 ≤ 9999) (hp23 : σ 23 0 = 4095) (hD : ∀ c, VAL σ c → pop (hJ (gA σ c) 12 σ 22 0) = D c) (hW : ∀ c, VAL σ c → allW (hJ (gA σ c) 12 σ) = W c) (bD : ∀ c, D c < 8) (bW : ∀ c, W c < 1000000) {Q : xM → Prop} (hq : ∀ u' b, BST D W (VAL σ) (some b) → gi u' 5 4 = nI (D b) → gi u' 5 5 = nI (W b) → gi u' 5 6 = nI b → cq u u' → Q u') : p_X6_planErrands 83 u Q := by
  have h4 := ok.e
  have hl16 : 2 ^ σ 2 0 ≤ 16 := p2le (b := 4) h4
  have h0 := Nat.two_pow_pos (σ 2 0)
  unfold p_X6_planErrands
  refine k_copyFrom (by omega) (fun u1 c1 => k_clearRota (L.cp ok c1) (fun u2 L2 x2 u3 h3' u4 h4' u5 h5' => ?_))
  have x1 := c1.2.2.2.2
  have L5 : LR 137 (cR0 σ 12) u5 := by rw [h5', h4', h3']; exact ((L2.w2 (by omega)).w2 (by omega)).w2 (by omega)
  have c5 : cq u u5 := by
    refine ((cq.xs x1 (fun k hk => by unfold oLand; omega)).tr (cq.xs x2 (fun k hk => by omega))).tr ?_
    rw [h5', h4', h3']
    exact ⟨fun a b hab => by rw [gi_si, if_neg (by omega), gi_si, if_neg (by omega), gi_si, if_neg (by omega)], fun _ _ _ => rfl⟩
  have g2 : gi u5 83 2 = nI (σ 2 0) := (c5.1 83 2 (by omega)).trans L.f2
  rw [g2, bPOW (by omega), l_1, cS (by omega)]
  have eb : ∀ e, (2 ^ σ 2 0 - 1).testBit e = decide (e < σ 2 0) := fun e => p2m1_testBit _ _
  refine k_try (D := D) (W := W) ok h3 hp23 hD hW bD bW 12 0 (2 ^ σ 2 0 - 1) 0 none (fun _ => False) u5 (cR0 σ 12) _ rfl (by omega) ⟨by decide, fun e he hb => ?_, fun e _ _ => ?_, fun e _ _ => ?_⟩ L5 (okS_cR0 ok) (fun f h9 h19 => ?_) (fun _ z => z.elim) ⟨fun _ _ z => z.elim, fun b hb => (nomatch hb)⟩ ⟨?_, ?_, ?_⟩ (fun u6 ρ' acc' _ _ _ B6 C6 f6 _ => ?_)
  · rw [eb, decide_eq_false_iff_not] at hb
    exact absurd he hb
  · unfold nb; simp
  · unfold nb; simp
  · show cR0 σ 12 f = σ f
    funext i
    unfold cR0
    rw [sF_at, if_neg h19]
  · rw [h5', gi_si, if_neg (by omega), h4', gi_si, if_neg (by omega), h3', gi_at]; rfl
  · rw [h5', gi_si, if_neg (by omega), h4', gi_at]; rfl
  · rw [h5', gi_at]; rfl
  · have B : BST D W (VAL σ) acc' := B6.iff (fun c => by
      constructor
      · rintro (h | h)
        · exact h.elim
        · exact h.1
      · intro h
        refine Or.inr ⟨h, fun e he hb => ?_, fun e he _ => ?_⟩
        · rw [eb, decide_eq_false_iff_not] at hb
          exact absurd he hb
        · have h1 := h.2.1 e he
          have h2 := ok.er he
          exact ⟨(nb c e + (12 - σ 3 0 % 12)) % 12, by omega, Nat.mod_lt _ (by omega), by omega⟩)
    have cf : cq u u6 := c5.tr ⟨fun a b hab => f6.1 a b (by omega) (by omega) (by omega), fun a b hab => f6.2 a b (by omega)⟩
    cases ha : acc' with
    | none => exact absurd (VAL_cE ok (h := σ 16) (fun e he => ⟨Nat.le_refl _, (ok.er he).2.1⟩)) (B.1 ha _)
    | some b =>
      rw [ha] at B C6
      exact hq u6 b B C6.1 C6.2.1 C6.2.2 cf
/-! plans of the reference -/
theorem r_errandOf {e w f : Nat} {x : Int32} {Q : Int32 → xM → Prop} (R : RR 0 ρ u) (ok : okS ρ) (he : e < ρ 2 0) (hw : w < 3) (hx : x = nI w) (hf : f = 15 + w) (hq : Q (nI (ρ f e)) u) : p_X11_errandOf (nI e) x u Q := by
  have h4 := ok.e
  unfold p_X11_errandOf
  rw [hx, l_3, l_147, cM, cA, cA, cCL (by omega)]
  refine ⟨cIN (by omega) (by decide), ?_⟩
  have h : gi u 273 (147 + 3 * e + w) = nI (ρ f e) := by
    rcases (by omega : w = 0 ∨ w = 1 ∨ w = 2) with z | z | z
    · subst z; subst hf; exact R.r15 he
    · subst z; subst hf
      rw [show 147 + 3 * e + 1 = 148 + 3 * e by omega]; exact R.r16 he
    · subst z; subst hf
      rw [show 147 + 3 * e + 2 = 149 + 3 * e by omega]; exact R.r17 he
  rw [h]
  exact hq
def only (k : Nat) (u u' : xM) : Prop := (∀ a i, a ≠ k → gi u' a i = gi u a i) ∧ ∀ a i, gl u' a i = gl u a i
theorem only.rf {k : Nat} : only k u u := ⟨fun _ _ _ => rfl, fun _ _ => rfl⟩
theorem only.tr {k : Nat} {w : xM} (h : only k u u') (h' : only k u' w) : only k u w := ⟨fun a i z => (h'.1 a i z).trans (h.1 a i z), fun a i => (h'.2 a i).trans (h.2 a i)⟩
theorem only.si {k i : Nat} {x : Int32} (h : only k u0 u) : only k u0 (si u k i x) := ⟨fun a j z => by rw [gi_si, if_neg (fun y => z y.1)]; exact h.1 a j z, fun a j => h.2 a j⟩
theorem r_hoursOn {c : Nat} {Q : Bool → xM → Prop} (R : RR 0 σ u) (ok : okS σ) (hv : VAL σ c) (h83 : ∀ e, e < σ 2 0 → gi u 283 e = nI (nb c e)) (hT : ∀ u' c', only 283 u u' → VAL σ c' → c < c' → (∀ x, VAL σ x → x < c' → x ≤ c) → (∀ e, e < σ 2 0 → gi u' 283 e = nI (nb c' e)) → Q true u') (hF : ∀ u', only 283 u u' → (∀ x, VAL σ x → x ≤ c) → Q false u') : p_X11_hoursOn u Q := by
  have h4 := ok.e
  unfold p_X11_hoursOn
  rw [(r_at l_2 (by decide)).2, R.r2]
  refine ⟨(r_at l_2 (by decide)).1, fun x2 h2 => ?_⟩
  have e2 : x2 = iI ((σ 2 0 : Int) - 1 - ((0 : Nat) : Int)) := by
    rw [h2, nI_iI, show (1 : Int32) = iI 1 from by decide, iI_sub]
    congr 1; omega
  rw [e2]
  refine xloop (fun m i (w : xM) => p_X11_hoursOn_L9 Q m (iI ((σ 2 0 : Int) - 1 - (i : Int))) w) (fun i w => only 283 u w ∧ (∀ e, e < σ 2 0 → gi w 283 e = nI (if e + i < σ 2 0 then nb c e else σ 16 e)) ∧ ∀ e, e < σ 2 0 → σ 2 0 ≤ e + i → nb c e = σ 17 e) (σ 2 0) 0 u (Nat.zero_le _) ⟨only.rf, fun e he => by rw [if_pos (by omega)]; exact h83 e he, fun e he hz => by omega⟩ ?_ ?_
  · intro m w hw
    unfold p_X11_hoursOn_L9
    refine ⟨fun _ => hF w hw.1 (fun x hx => ?_), fun z => absurd ?_ z⟩
    · have f : ∀ j, j < 4 → nb x j ≤ nb c j := fun j hj => by
        by_cases z : j < σ 2 0
        · rw [hw.2.2 j z (by omega)]; exact (hx.2.1 j z).2
        · rw [hx.2.2 j (by omega) hj]; omega
      have a0 := f 0 (by omega)
      have a1 := f 1 (by omega)
      have a2 := f 2 (by omega)
      have a3 := f 3 (by omega)
      rw [nb_sum hx.1, nb_sum hv.1]
      omega
    · rw [show (0 : Int32) = iI 0 from by decide, iI_lt (by omega) (by omega) (by omega) (by omega)]
      omega
  · intro m i w _ hi hw kk
    have ei : iI ((σ 2 0 : Int) - 1 - (i : Int)) = nI (σ 2 0 - 1 - i) := by rw [nI_iI]; congr 1; omega
    have hl : σ 2 0 - 1 - i < σ 2 0 := by omega
    have Rw : RR 0 σ w := R.cg ok.r ok.d ok.e (fun j _ _ => hw.1.1 273 j (by omega))
    have her := ok.er hl
    have hcv := hv.2.1 _ hl
    have hcell := hw.2.1 _ hl
    rw [if_pos (by omega)] at hcell
    unfold p_X11_hoursOn_L9
    rw [ei, cN0 (by omega), cCL (by omega)]
    refine ⟨fun z => z.elim, fun _ => ⟨cIN (by omega) (by decide), r_errandOf (w := 2) (f := 17) Rw ok hl (by omega) rfl rfl ?_⟩⟩
    rw [hcell, cLE (by omega) (by omega)]
    refine ⟨fun z => r_errandOf (w := 1) (f := 16) Rw ok hl (by omega) rfl rfl ⟨cIN (by omega) (by decide), fun u9 h9 x10 h10 => ?_⟩, fun z => ⟨cIN (by omega) (by decide), cIN (by omega) (by decide), fun u13 h13 => ?_⟩⟩
    · have e10 : x10 = iI ((σ 2 0 : Int) - 1 - ((i + 1 : Nat) : Int)) := by
        rw [h10, nI_iI, show (-1 : Int32) = iI (-1) from by decide, iI_add]
        congr 1; omega
      rw [e10]
      refine kk u9 ⟨by rw [h9]; exact hw.1.si, fun e he => ?_, fun e he hz => ?_⟩
      · rw [h9, gi_si]
        by_cases ee : e = σ 2 0 - 1 - i
        · rw [if_pos ⟨rfl, ee⟩, if_neg (by omega), ee]
        · rw [if_neg (fun y => ee y.2), hw.2.1 e he]
          by_cases ez : e + i < σ 2 0
          · rw [if_pos ez, if_pos (by omega)]
          · rw [if_neg ez, if_neg (by omega)]
      · by_cases ee : e = σ 2 0 - 1 - i
        · subst ee; omega
        · exact hw.2.2 e he (by omega)
    · have hval : ∀ e, e < σ 2 0 → σ 16 e ≤ (if e < σ 2 0 - 1 - i then nb c e else if e = σ 2 0 - 1 - i then nb c e + 1 else σ 16 e) ∧ (if e < σ 2 0 - 1 - i then nb c e else if e = σ 2 0 - 1 - i then nb c e + 1 else σ 16 e) ≤ σ 17 e := fun e he => by
        have h1 := hv.2.1 e he
        have h2 := ok.er he
        by_cases c1 : e < σ 2 0 - 1 - i
        · rw [if_pos c1]; exact h1
        · rw [if_neg c1]
          by_cases c2 : e = σ 2 0 - 1 - i
          · rw [if_pos c2]
            subst c2
            omega
          · rw [if_neg c2]; omega
      have hb16 : ∀ e, e < σ 2 0 → (if e < σ 2 0 - 1 - i then nb c e else if e = σ 2 0 - 1 - i then nb c e + 1 else σ 16 e) < 16 := fun e he => by
        have h1 := hval e he
        have h2 := ok.er he
        omega
      have hv' := VAL_cE ok (h := fun e => if e < σ 2 0 - 1 - i then nb c e else if e = σ 2 0 - 1 - i then nb c e + 1 else σ 16 e) hval
      have hnb : ∀ e, e < 4 → nb (cE (fun e => if e < σ 2 0 - 1 - i then nb c e else if e = σ 2 0 - 1 - i then nb c e + 1 else σ 16 e) (σ 2 0)) e = if e < σ 2 0 then (if e < σ 2 0 - 1 - i then nb c e else if e = σ 2 0 - 1 - i then nb c e + 1 else σ 16 e) else 0 := fun e he => cE_nb hb16 he
      generalize cE (fun e => if e < σ 2 0 - 1 - i then nb c e else if e = σ 2 0 - 1 - i then nb c e + 1 else σ 16 e) (σ 2 0) = c' at hv' hnb
      generalize hl2 : σ 2 0 - 1 - i = l at *
      have F : ∀ x, VAL σ x → ∀ j, j < 4 → (j < l → nb c' j = nb c j) ∧ (j = l → nb c' j = nb c j + 1) ∧ (l < j → nb c' j ≤ nb x j ∧ nb x j ≤ nb c j) := fun x hx j hj => by
        rw [hnb j hj]
        refine ⟨fun z1 => ?_, fun z1 => ?_, fun z1 => ?_⟩
        · rw [if_pos (by omega), if_pos z1]
        · rw [if_pos (by omega), if_neg (by omega), if_pos z1]
        · by_cases zz : j < σ 2 0
          · rw [if_pos zz, if_neg (by omega), if_neg (by omega), hw.2.2 j zz (by omega)]
            exact hx.2.1 j zz
          · rw [if_neg zz, hx.2.2 j (by omega) hj, hv.2.2 j (by omega) hj]
            exact ⟨Nat.le_refl _, Nat.le_refl _⟩
      have ord : ∀ x, VAL σ x → c < c' ∧ (x < c' → x ≤ c) := fun x hx => by
        have f0 := F x hx 0 (by omega)
        have f1 := F x hx 1 (by omega)
        have f2 := F x hx 2 (by omega)
        have f3 := F x hx 3 (by omega)
        have s1 := nb_sum hx.1
        have s2 := nb_sum hv.1
        have s3 := nb_sum hv'.1
        have b0 := nb_lt x 0
        have b1 := nb_lt x 1
        have b2 := nb_lt x 2
        have b3 := nb_lt x 3
        have d0 := nb_lt c' 0
        have d1 := nb_lt c' 1
        have d2 := nb_lt c' 2
        have d3 := nb_lt c' 3
        have g0 := nb_lt c 0
        have g1 := nb_lt c 1
        have g2 := nb_lt c 2
        have g3 := nb_lt c 3
        rcases (by omega : l = 0 ∨ l = 1 ∨ l = 2 ∨ l = 3) with z1 | z1 | z1 | z1
        · have q0 := f0.2.1 (by omega)
          have q1 := f1.2.2 (by omega)
          have q2 := f2.2.2 (by omega)
          have q3 := f3.2.2 (by omega)
          clear f0 f1 f2 f3 F hnb hval hb16 hw kk hT hF
          omega
        · have q0 := f0.1 (by omega)
          have q1 := f1.2.1 (by omega)
          have q2 := f2.2.2 (by omega)
          have q3 := f3.2.2 (by omega)
          clear f0 f1 f2 f3 F hnb hval hb16 hw kk hT hF
          omega
        · have q0 := f0.1 (by omega)
          have q1 := f1.1 (by omega)
          have q2 := f2.2.1 (by omega)
          have q3 := f3.2.2 (by omega)
          clear f0 f1 f2 f3 F hnb hval hb16 hw kk hT hF
          omega
        · have q0 := f0.1 (by omega)
          have q1 := f1.1 (by omega)
          have q2 := f2.1 (by omega)
          have q3 := f3.2.1 (by omega)
          clear f0 f1 f2 f3 F hnb hval hb16 hw kk hT hF
          omega
      refine hT u13 c' (by rw [h13]; exact hw.1.si) hv' (ord c hv).1 (fun x hx => (ord x hx).2) (fun e he => ?_)
      rw [hnb e (by omega), if_pos he, h13, gi_si]
      by_cases ee : e = l
      · rw [if_pos ⟨rfl, ee⟩, if_neg (by omega), if_pos ee, l_1, cA, ee]
      · rw [if_neg (fun y => ee y.2), if_neg ee, hw.2.1 e he]
        by_cases ez : e + i < σ 2 0
        · rw [if_pos ez, if_pos (by omega)]
        · rw [if_neg ez, if_neg (by omega)]
end PLANS
