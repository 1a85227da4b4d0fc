/-! ===== goesBy, goes, keeps, restores ===== -/
section GO2
variable {σ : aS} {u : xM}
theorem r_let_pour {op i : Nat} {w0 : Nat → Nat} (fl : Nat → Int) (F T : Nat → Nat) (hfl : fl i = sfl op σ i) : pFr fl F T i = (if 0 ≤ fl i then F i else T i) := rfl
theorem r_g117 {i f t m : Nat} {w : Nat → Nat} {v1 : Int32} {Q : Int32 → xM → Prop} {K : Int32 → Int32 → xM → Prop} (h : RR 0 (sF σ 8 w) u) (ok : okS σ) (hi : i < 10) (hf : f < σ 0 0 ∨ f = 7) (ht : t < σ 0 0 ∨ t = 7) (hw : ∀ r, r < σ 0 0 → w r ≤ 9999) (hm : m ≤ 100000) (hmf : f < σ 0 0 → m ≤ w f)
    (hk : ∀ u', RR 0 (sF σ 8 (fun r => if r = t then min 9999 ((if r = f then w r - m else w r) + m) else (if r = f then w r - m else w r))) u' → gsame u u' → xsame (fun k => k ≠ 273) u u' → K v1 (nI (i + 1)) (si u' 282 i (gi u' 282 i + nI m))) : p_X11_goesBy_L117 Q K v1 (nI i) (eR f) (eR t) (nI m) u := by
  have h7 := ok.r
  unfold p_X11_goesBy_L117
  rw [iI_negN]
  refine r_pours (z := -(m : Int)) h ok hf hw (fun hr => ⟨by have := hmf hr; omega, by omega⟩) (fun u1 R1 g1 x1 => ?_)
  have R1' : RR 0 (sF σ 8 (fun r => if r = f then w r - m else w r)) u1 := R1.wc (fun r hr => by
    by_cases c : r = f
    · rw [if_pos c, if_pos c]
      have := hw r hr
      omega
    · rw [if_neg c, if_neg c])
  have hw1 : ∀ r, r < σ 0 0 → (if r = f then w r - m else w r) ≤ 9999 := fun r hr => by
    have := hw r hr
    split <;> omega
  rw [nI_iI m]
  refine r_pours (z := (m : Int)) R1' ok ht hw1 (fun hr => ⟨by omega, by omega⟩) (fun u2 R2 g2 x2 => ?_)
  have R2' : RR 0 (sF σ 8 (fun r => if r = t then min 9999 ((if r = f then w r - m else w r) + m) else (if r = f then w r - m else w r))) u2 := R2.wc (fun r hr => by
    by_cases c : r = t
    · rw [if_pos c, if_pos c]
      omega
    · rw [if_neg c, if_neg c])
  refine ⟨cIN (by omega) (by decide), cIN (by omega) (by decide), ?_⟩
  intro u3 hu3
  rw [cCL (by omega), ← nI_iI] at hu3
  subst hu3
  intro y hy
  rw [l_1, cA] at hy
  subst hy
  exact hk u2 R2' (g1.tr g2) (x1.tr x2)
theorem xb_nI : xb false = nI 0 ∧ xb true = nI 1 := by decide +kernel
theorem r_end {d : Nat} {b : Bool} {Q : Int32 → xM → Prop} (h : RR 0 σ u) (ok : okS σ) (hd : d < σ 1 0) (hq : Q (eR (if b then σ 11 d else σ 10 d)) u) : p_X11_doorOf (nI d) (xb b) u Q := by
  cases b with
  | false => exact r_doorV (w := 0) (f := 10) h ok hd xb_nI.1 (by decide) (by decide) rfl (by simp [rk]) rfl hq
  | true => exact r_doorV (w := 1) (f := 11) h ok hd xb_nI.2 (by decide) (by decide) rfl (by simp [rk]; omega) rfl hq
theorem r_g83 {i f : Nat} {z : Int} {b : Bool} {w : Nat → Nat} {v1 : Int32} {Q : Int32 → xM → Prop} {K : Int32 → Int32 → xM → Prop} (h : RR 0 (sF σ 8 w) u) (ok : okS σ) (hi : i < σ 1 0) (hz : gi u 281 i = iI z) (h1 : -100000 ≤ z) (h2 : z ≤ 100000) (hf : f < σ 0 0 ∨ f = 7) (hw : ∀ r, r < σ 0 0 → w r ≤ 9999)
    (hk : ∀ u' m, m = (if f < 7 then min z.natAbs (w f) else z.natAbs) → RR 0 (sF σ 8 (fun r => if r = (if b then σ 11 i else σ 10 i) then min 9999 ((if r = f then w r - m else w r) + m) else (if r = f then w r - m else w r))) u' → gsame u u' → xsame (fun k => k ≠ 273) u u' → K v1 (nI (i + 1)) (si u' 282 i (gi u' 282 i + nI m))) : p_X11_goesBy_L83 Q K v1 (nI i) (eR f) (nI i) b u := by
  have h7 := ok.r
  have h10 := ok.d
  have okw := okS_w ok hw
  have hm := ok.dr hi
  unfold p_X11_goesBy_L83
  refine r_end (b := b) h okw hi ⟨cIN (by omega) (by decide), ?_⟩
  have et : (if b then sF σ 8 w 11 i else sF σ 8 w 10 i) = if b then σ 11 i else σ 10 i := rfl
  rw [et]
  have ht : (if b then σ 11 i else σ 10 i) < σ 0 0 ∨ (if b then σ 11 i else σ 10 i) = 7 := by
    cases b with
    | false => exact hm.1
    | true => exact hm.2.1
  intro x hx
  rw [cCL (by omega), hz, iI_abs (by omega) (by omega)] at hx
  subst hx
  rw [eR_m1 (by omega)]
  refine ⟨fun c => ?_, fun c => ?_⟩
  · exact r_g117 h ok (by omega) hf ht hw (by omega) (fun hr => by omega) (fun u' R g x => hk u' _ (by rw [if_neg (by omega)]) R g x)
  · have hr : f < σ 0 0 := by omega
    have hwf := hw f hr
    have ef : eR f = nI f := if_neg c
    have go : p_X11_roomOf (nI f) (4 : Int32) u (fun r7 u6 => ∀ x8 : Int32, x8 = (if r7 < nI z.natAbs then r7 else nI z.natAbs) → p_X11_goesBy_L117 Q K v1 (nI i) (eR f) (eR (if b then σ 11 i else σ 10 i)) x8 u6) := by
      refine r_roomV (w := 4) (f := 8) (v := nI (w f)) h okw hr rfl (by decide) (by decide) rfl (by simp [rk]; omega) (by simp [rv, sF_at]) ?_
      intro y hy
      rw [iteMin (by omega) (by omega)] at hy
      subst hy
      exact r_g117 h ok (by omega) hf ht hw (by omega) (fun _ => by omega) (fun u' R g x => hk u' _ (by rw [if_pos (by omega)]) R g x)
    rw [ef] at go ⊢
    exact go
theorem r_g37 {op : Nat} {Q : Int32 → xM → Prop} {v1 : Int32} (h : RR 0 σ u) (ok : okS σ) (hF : ∀ d, d < σ 1 0 → gi u 281 d = iI (sfl op σ d))
    (hq : ∀ u', RR 0 (sF σ 8 (aW (sfl op σ) (σ 10) (σ 11) (σ 8) (σ 1 0))) u' → gsame u u' → xsame (fun k => k ≠ 273 ∧ k ≠ 282) u u' → (∀ d, d < σ 1 0 → gi u' 282 d = gi u 282 d + nI (pas op σ d)) → ∃ n, p_X11_goesBy_L152 Q n v1 (0 : Int32) u') : ∃ n, p_X11_goesBy_L37 Q n v1 (0 : Int32) u := by
  have h7 := ok.r
  have h10 := ok.d
  refine xloop (fun n i (s : xM) => p_X11_goesBy_L37 Q n v1 (nI i) s) (fun i s => RR 0 (sF σ 8 (aW (sfl op σ) (σ 10) (σ 11) (σ 8) i)) s ∧ gsame u s ∧ xsame (fun k => k ≠ 273 ∧ k ≠ 282) u s ∧ (∀ d, d < i → gi s 282 d = gi u 282 d + nI (pas op σ d)) ∧ (∀ d, i ≤ d → gi s 282 d = gi u 282 d)) (σ 1 0) 0 u (Nat.zero_le _) ⟨RR.w0 h, gsame.rf, xsame.rf, fun d hd => by omega, fun _ _ => rfl⟩ ?_ ?_
  · intro n s hs
    have c1 : gi s 273 1 = nI (σ 1 0) := hs.1.r1
    unfold p_X11_goesBy_L37
    rw [(r_at l_1 (by decide)).2, c1, cLE (by omega) (by omega)]
    exact ⟨(r_at l_1 (by decide)).1, fun _ => hq s hs.1 hs.2.1 hs.2.2.1 hs.2.2.2.1, fun c => absurd (Nat.le_refl _) c⟩
  · intro n i s _ hi hs k
    have c1 : gi s 273 1 = nI (σ 1 0) := hs.1.r1
    have hm := ok.dr hi
    have hfl := flo_le ok hi op
    have hz1 : -100000 ≤ sfl op σ i ∧ sfl op σ i ≤ 100000 := by
      unfold sfl sgn
      split <;> omega
    have hw : ∀ r, r < σ 0 0 → aW (sfl op σ) (σ 10) (σ 11) (σ 8) i r ≤ 9999 := fun r hr => aW_le (ok.rm hr).2.2.2.2.2.2.1 i
    have okw := okS_w ok hw
    have hz : gi s 281 i = iI (sfl op σ i) := by
      rw [hs.2.2.1.1 281 _ ⟨by decide, by decide⟩]
      exact hF i hi
    have go : ∀ b : Bool, (b = true ↔ sfl op σ i < 0) → p_X11_goesBy_L63 Q (p_X11_goesBy_L37 Q n) v1 (nI i) (nI i) b s := by
      intro b hb
      unfold p_X11_goesBy_L63
      refine r_end (b := b) hs.1 okw hi ⟨cIN (by omega) (by decide), ?_⟩
      have ef : (if b then sF σ 8 (aW (sfl op σ) (σ 10) (σ 11) (σ 8) i) 11 i else sF σ 8 (aW (sfl op σ) (σ 10) (σ 11) (σ 8) i) 10 i) = pFr (sfl op σ) (σ 10) (σ 11) i := by
        unfold pFr
        cases b with
        | false =>
          have : ¬ sfl op σ i < 0 := fun z => by have := hb.mpr z; cases this
          exact (if_pos (show 0 ≤ sfl op σ i by omega)).symm
        | true =>
          have := hb.mp rfl
          exact (if_neg (show ¬ 0 ≤ sfl op σ i by omega)).symm
      rw [ef]
      have hf : pFr (sfl op σ) (σ 10) (σ 11) i < σ 0 0 ∨ pFr (sfl op σ) (σ 10) (σ 11) i = 7 := by
        unfold pFr
        split
        · exact hm.1
        · exact hm.2.1
      have fin : ∀ b2 : Bool, (b2 = true ↔ ¬ sfl op σ i < 0) → p_X11_goesBy_L83 Q (p_X11_goesBy_L37 Q n) v1 (nI i) (eR (pFr (sfl op σ) (σ 10) (σ 11) i)) (nI i) b2 s := by
        intro b2 hb2
        have et : (if b2 then σ 11 i else σ 10 i) = pTo (sfl op σ) (σ 10) (σ 11) i := by
          unfold pTo
          cases b2 with
          | false =>
            have : sfl op σ i < 0 := by
              apply Classical.byContradiction
              intro z
              have := hb2.mpr z
              cases this
            exact (if_neg (show ¬ 0 ≤ sfl op σ i by omega)).symm
          | true =>
            have := hb2.mp rfl
            exact (if_pos (show 0 ≤ sfl op σ i by omega)).symm
        refine r_g83 (b := b2) hs.1 ok hi hz hz1.1 hz1.2 hf hw (fun u' m hm2 R g x => k _ ?_)
        rw [et] at R
        have hma : m = pAm (sfl op σ) (σ 10) (σ 11) i (aW (sfl op σ) (σ 10) (σ 11) (σ 8) i) := hm2
        have R' : RR 0 (sF σ 8 (aW (sfl op σ) (σ 10) (σ 11) (σ 8) (i + 1))) u' := R.wc (fun r _ => by
          show pW (sfl op σ) (σ 10) (σ 11) i (aW (sfl op σ) (σ 10) (σ 11) (σ 8) i) r = _
          unfold pW pW1
          rw [← hma])
        refine ⟨RR.cg R' ok.r ok.d ok.e (fun j _ _ => by rw [gi_si, if_neg]; rintro ⟨z, -⟩; omega), hs.2.1.tr (g.tr gsame.mv), hs.2.2.1.tr ((x.mono (fun k hk => hk.1)).tr (xsame.si (by simp))), fun d hd => ?_, fun d hd => ?_⟩
        · rw [gi_si]
          by_cases e : d = i
          · subst e
            rw [if_pos ⟨rfl, rfl⟩, x.1 282 d (by decide), hs.2.2.2.2 d (Nat.le_refl _), hma]
            rfl
          · rw [if_neg (by rintro ⟨-, z⟩; exact e z), x.1 282 d (by decide)]
            exact hs.2.2.2.1 d (by omega)
        · rw [gi_si, if_neg (by rintro ⟨-, z⟩; omega), x.1 282 d (by decide)]
          exact hs.2.2.2.2 d (by omega)
      rw [cCL (by omega), hz, iI_n0 (by omega) (by omega)]
      exact ⟨fun c => fin false ⟨fun z => (by cases z), fun z => absurd c z⟩, fun c => fin true ⟨fun _ => c, fun _ => rfl⟩⟩
    unfold p_X11_goesBy_L37
    rw [(r_at l_1 (by decide)).2, c1, cLE (by omega) (by omega), cCL (by omega), hz, iI_n0 (by omega) (by omega)]
    exact ⟨(r_at l_1 (by decide)).1, fun c => by omega, fun _ => ⟨cIN (by omega) (by decide), fun c => go true ⟨fun _ => c, fun _ => rfl⟩, fun c => go false ⟨fun z => (by cases z), fun z => absurd z c⟩⟩⟩
/-- an hour of the reference -/
theorem r_goesBy {op : Nat} {pu : Bool} {Q : Int32 → xM → Prop} (h : RR 0 σ u) (ok : okS σ) (hh : σ 3 0 < 20000) (hM : MO σ op u) (hst : gi u 272 25 = xb (!pu))
    (hq : ∀ u', RR 0 (stp op pu σ) u' → gsame u u' → (∀ d, d < σ 1 0 → gi u' 282 d = gi u 282 d + nI (pas op σ d)) → Q (nI (ndf (drw op pu σ) (σ 22 0))) u') : p_X11_goesBy u Q := by
  have h10 := ok.d
  unfold p_X11_goesBy
  refine r_set1 h ok ?_
  refine xloop (fun n i (s : xM) => p_X11_goesBy_L8 Q n (nI (σ 22 0)) (nI i) s) (fun i s => RR 0 σ s ∧ gsame u s ∧ xsame (fun k => k ≠ 281) u s ∧ (∀ d, d < i → gi s 281 d = iI (sfl op σ d))) (σ 1 0) 0 u (Nat.zero_le _) ⟨h, gsame.rf, xsame.rf, fun d hd => by omega⟩ ?_ ?_
  · intro n s hs
    unfold p_X11_goesBy_L8
    rw [(r_at l_1 (by decide)).2, hs.1.r1, cLE (by omega) (by omega)]
    refine ⟨(r_at l_1 (by decide)).1, fun _ => r_g37 hs.1 ok hs.2.2.2 (fun u1 R1 g1 x1 m1 => ?_), fun c => absurd (Nat.le_refl _) c⟩
    have R1' : RR 0 (tg op pu σ 0) u1 := R1.eq rfl rfl rfl (fun f hf j hj => by
      have hnm : ∀ d, rotD (tg op pu σ 0) d = rotD σ d := fun d => rfl
      have hnm2 : ∀ d, rotD (sF σ 8 (aW (sfl op σ) (σ 10) (σ 11) (σ 8) (σ 1 0))) d = rotD σ d := fun d => rfl
      unfold rv
      rw [hnm, hnm2]
      by_cases e8 : f = 8
      · subst e8; simp [tg, sF_at]
      · by_cases e9 : f = 9
        · subst e9; simp [tg, sF_at]
        · by_cases e22 : f = 22
          · subst e22; simp [tg, sF_at, mk]
          · simp [tg, sF_at, e8, e9, e22])
    refine r_g152 ok hh R1' ?_ (fun u2 R2 g2 x2 => hq u2 R2 (hs.2.1.tr (g1.tr g2)) (fun d hd => ?_))
    · rw [x1.1 272 25 ⟨by decide, by decide⟩, hs.2.2.1.1 272 25 (by decide)]
      exact hst
    · rw [x2.1 282 d (by decide), m1 d hd, hs.2.2.1.1 282 d (by decide)]
  · intro n i s _ hi hs k
    have hM' : MO σ op s := hM.same (hs.2.1.1) rfl rfl rfl
    unfold p_X11_goesBy_L8
    rw [(r_at l_1 (by decide)).2, hs.1.r1, cLE (by omega) (by omega)]
    refine ⟨(r_at l_1 (by decide)).1, fun c => by omega, fun _ => r_flowOf hs.1 ok hi hM' ⟨cIN (by omega) (by decide), ?_⟩⟩
    intro s1 hs1
    rw [cCL (by omega)] at hs1
    subst hs1
    intro y hy
    rw [l_1, cA] at hy
    subst hy
    refine k _ ⟨RR.cg hs.1 ok.r ok.d ok.e (fun j _ _ => by rw [gi_si, if_neg]; rintro ⟨z, -⟩; omega), hs.2.1.tr gsame.fl, hs.2.2.1.tr (xsame.si (by simp)), fun d hd => ?_⟩
    rw [gi_si]
    by_cases e : d = i
    · subst e
      rw [if_pos ⟨rfl, rfl⟩]
    · rw [if_neg (by rintro ⟨-, z⟩; exact e z)]
      exact hs.2.2.2 d (by omega)
end GO2
