/-! ===== goesBy ===== -/
section GOESBY
variable {σ : aS} {u : xM}
/-- the reference's land when i rooms were looked at -/
def tg (op : Nat) (pu : Bool) (σ : aS) (n : Nat) : aS := fun f k =>
  if f = 8 then (if k < n then wat op pu σ k else aW (sfl op σ) (σ 10) (σ 11) (σ 8) (σ 1 0) k)
  else if f = 9 then (if k < n then max (σ 9 k) (dpt op pu σ k) else σ 9 k)
  else if f = 22 then (if k = 0 then σ 22 0 ||| mk (fun r => decide (σ 6 r < dpt op pu σ r)) n else σ 22 k)
  else σ f k
theorem okS_tg (ok : okS σ) (op : Nat) (pu : Bool) (n : Nat) (hn : n ≤ σ 0 0) : okS (tg op pu σ n) := by
  refine ⟨ok.r, ok.d, ok.e, ok.h, fun r hr => ?_, fun d hd => ok.dr hd, fun e he => ok.er he, fun k hk => ok.hr hk, ok.held, ok.walled, ?_, ok.ph⟩
  · have hr : r < σ 0 0 := hr
    have a := ok.rm hr
    have b := wat_le ok hr op pu
    have c := dpt_le ok hr op pu
    have d : aW (sfl op σ) (σ 10) (σ 11) (σ 8) (σ 1 0) r ≤ 9999 := aW_le a.2.2.2.2.2.2.1 _
    refine ⟨a.1, a.2.1, a.2.2.1, a.2.2.2.1, a.2.2.2.2.1, a.2.2.2.2.2.1, ?_, ?_⟩
    · show (if r < n then wat op pu σ r else _) ≤ 9999
      split <;> omega
    · show (if r < n then max (σ 9 r) (dpt op pu σ r) else σ 9 r) ≤ 9999
      split <;> omega
  · show tg op pu σ n 22 0 < 2 ^ σ 0 0
    exact or_lt2 ok.drowned (Nat.lt_of_lt_of_le (mk_lt _ _) (p2le hn))
theorem bitN_or (m i j : Nat) : bitN (m ||| 2 ^ i) j = if j = i then 1 else bitN m j := by
  unfold bitN
  rw [Nat.testBit_or, Nat.testBit_two_pow]
  by_cases c : j = i
  · subst c; simp
  · have : ¬ i = j := fun z => c z.symm
    simp [c, this]
theorem iI_negN (n : Nat) : -nI n = iI (-(n : Int)) := by rw [nI_iI, iI_neg]
/-- behind the pump: drowned? and the mark -/
theorem r_g204 {op : Nat} {pu : Bool} {i : Nat} {v1 : Int32} {Q : Int32 → xM → Prop} {K : Int32 → Int32 → xM → Prop} (ok : okS σ) (hi : i < σ 0 0) (h : RR 0 (sF (tg op pu σ i) 8 (fun k => if k = i then wat op pu σ i else tg op pu σ i 8 k)) u)
    (hk : ∀ u', RR 0 (tg op pu σ (i + 1)) u' → gsame u u' → xsame (fun k => k ≠ 273) u u' → K v1 (nI (i + 1)) u') : p_X11_goesBy_L204 Q K v1 (nI i) (nI (6 + 7 * i)) u := by
  have h7 := ok.r
  have hm := ok.rm hi
  have hw := wat_le ok hi op pu
  have hdp := dpt_le ok hi op pu
  have oki := okS_tg ok op pu i (Nat.le_of_lt hi)
  have ok1 : okS (sF (tg op pu σ i) 8 (fun k => if k = i then wat op pu σ i else tg op pu σ i 8 k)) := okS_w oki (fun r hr => by
    have := (oki.rm hr).2.2.2.2.2.2.1
    split <;> omega)
  have hdep : dep (sF (tg op pu σ i) 8 (fun k => if k = i then wat op pu σ i else tg op pu σ i 8 k)) i = dpt op pu σ i := by
    unfold dep
    simp [sF_at, tg, dpt]
  -- the mark
  have last : ∀ (b : Nat) (u1 : xM), RR 0 (sU (sF (tg op pu σ i) 8 (fun k => if k = i then wat op pu σ i else tg op pu σ i 8 k)) 22 0 b) u1 → b = tg op pu σ (i + 1) 22 0 → gsame u u1 → xsame (fun k => k ≠ 273) u u1 → p_X11_goesBy_L229 Q K v1 (nI i) (nI (6 + 7 * i)) u1 := by
    intro b u1 R1 hb g1 x1
    have ok2 : okS (sU (sF (tg op pu σ i) 8 (fun k => if k = i then wat op pu σ i else tg op pu σ i 8 k)) 22 0 b) := by
      refine ⟨ok1.r, ok1.d, ok1.e, ok1.h, fun r hr => ok1.rm hr, fun d hd => ok1.dr hd, fun e he => ok1.er he, fun k hk => ok1.hr hk, ok1.held, ok1.walled, ?_, ok1.ph⟩
      show sU _ 22 0 b 22 0 < 2 ^ σ 0 0
      rw [sU_at, if_pos ⟨rfl, rfl⟩, hb]
      exact (okS_tg ok op pu (i + 1) (by omega)).drowned
    have e9 : gi u1 273 (6 + 7 * i + 6) = nI (σ 9 i) := by
      rw [show 6 + 7 * i + 6 = 12 + 7 * i by omega, R1.r9 (i := i) hi]
      simp [sU_at, sF_at, tg]
    unfold p_X11_goesBy_L229
    obtain ⟨a1, a2⟩ := r_at (a := nI (6 + 7 * i) + (6 : Int32)) (n := 6 + 7 * i + 6) (by rw [l_6, cA]) (by omega)
    rw [a2, e9]
    refine ⟨a1, r_depthOf R1 ok2 hi ?_⟩
    have hdep2 : dep (sU (sF (tg op pu σ i) 8 (fun k => if k = i then wat op pu σ i else tg op pu σ i 8 k)) 22 0 b) i = dpt op pu σ i := hdep
    intro x hx
    rw [hdep2, iteMax (by omega) (by omega)] at hx
    subst hx
    refine ⟨a1, ?_⟩
    intro u2 hu2
    subst hu2
    intro y hy
    rw [l_1, cA] at hy
    subst hy
    refine hk _ ?_ (g1.tr (gsame.at (by omega))) (x1.tr (xsame.si (by simp)))
    refine R1.st (f := 9) (i := i) ok.r ok.d ok.e rfl rfl rfl (by decide) (by show i < 7; omega) (by simp [rk]; omega) (by simp [rv, tg]) (fun g hg j hj hne => ?_)
    have hnm : ∀ d, rotD (tg op pu σ (i + 1)) d = rotD σ d := fun d => rfl
    have hnm2 : ∀ d, rotD (sU (sF (tg op pu σ i) 8 (fun k => if k = i then wat op pu σ i else tg op pu σ i 8 k)) 22 0 b) d = rotD σ d := fun d => rfl
    unfold rv
    rw [hnm, hnm2]
    by_cases e8 : g = 8
    · subst e8
      by_cases ej : j = i
      · subst ej; simp [sU_at, sF_at, tg]
      · have : (j < i + 1) = (j < i) := by apply propext; omega
        simp [sU_at, sF_at, tg, ej, this]
    · by_cases e22 : g = 22
      · subst e22
        simp [sU_at, hb]
      · by_cases e9' : g = 9
        · subst e9'
          have ej : j ≠ i := fun z => hne ⟨rfl, z⟩
          have : (j < i + 1) = (j < i) := by apply propext; omega
          simp [sU_at, sF_at, tg, this]
        · simp [sU_at, sF_at, tg, e8, e22, e9']
  unfold p_X11_goesBy_L204
  refine r_depthOf h ok1 hi ?_
  rw [hdep]
  obtain ⟨a1, a2⟩ := r_at (a := nI (6 + 7 * i) + (2 : Int32)) (n := 6 + 7 * i + 2) (by rw [l_2, cA]) (by omega)
  have e6 : gi u 273 (6 + 7 * i + 2) = nI (σ 6 i) := by
    rw [show 6 + 7 * i + 2 = 8 + 7 * i by omega, h.r6 (i := i) hi]
    simp [sF_at, tg]
  rw [a2, e6, cLE (by omega) (by omega)]
  refine ⟨a1, fun c => ?_, fun c => ?_⟩
  · refine last (tg op pu σ i 22 0) u (h.eq rfl rfl rfl (fun f hf j hj => ?_)) ?_ gsame.rf xsame.rf
    · have hnm : ∀ d, rotD (sU (sF (tg op pu σ i) 8 (fun k => if k = i then wat op pu σ i else tg op pu σ i 8 k)) 22 0 (tg op pu σ i 22 0)) d = rotD σ d := fun d => rfl
      have hnm2 : ∀ d, rotD (sF (tg op pu σ i) 8 (fun k => if k = i then wat op pu σ i else tg op pu σ i 8 k)) d = rotD σ d := fun d => rfl
      unfold rv
      rw [hnm, hnm2]
      by_cases e22 : f = 22
      · subst e22; simp [sU_at, sF_at]
      · simp [sU_at, e22]
    · show _ = σ 22 0 ||| mk _ (i + 1)
      rw [mk_n (by simpa using c)]
      rfl
  · obtain ⟨b1, b2⟩ := r_at (a := nI (6 + 7 * i) + (5 : Int32)) (n := 6 + 7 * i + 5) (by rw [l_5, cA]) (by omega)
    refine ⟨b1, ?_⟩
    intro u1 hu1
    rw [b2] at hu1
    subst hu1
    refine last (tg op pu σ i 22 0 ||| 2 ^ i) _ ?_ ?_ (gsame.at (by omega)) (xsame.si (by simp))
    · refine h.st (f := 22) (i := i) ok.r ok.d ok.e rfl rfl rfl (by decide) (by show i < 7; omega) (by simp [rk]; omega) ?_ (fun g hg j hj hne => ?_)
      · show (1 : Int32) = nI (bitN (sU (sF (tg op pu σ i) 8 (fun k => if k = i then wat op pu σ i else tg op pu σ i 8 k)) 22 0 (tg op pu σ i 22 0 ||| 2 ^ i) 22 0) i)
        rw [sU_at, if_pos ⟨rfl, rfl⟩, bitN_or, if_pos rfl]
        exact l_1
      · have hnm : ∀ d, rotD (sU (sF (tg op pu σ i) 8 (fun k => if k = i then wat op pu σ i else tg op pu σ i 8 k)) 22 0 (tg op pu σ i 22 0 ||| 2 ^ i)) d = rotD σ d := fun d => rfl
        have hnm2 : ∀ d, rotD (sF (tg op pu σ i) 8 (fun k => if k = i then wat op pu σ i else tg op pu σ i 8 k)) d = rotD σ d := fun d => rfl
        unfold rv
        rw [hnm, hnm2]
        by_cases e22 : g = 22
        · subst e22
          have ej : j ≠ i := fun z => hne ⟨rfl, z⟩
          simp [sU_at, sF_at, bitN_or, ej]
        · simp [sU_at, e22]
    · show _ = σ 22 0 ||| mk _ (i + 1)
      rw [mk_s (by simpa using c), ← Nat.or_assoc]
      rfl
theorem r_g152 {op : Nat} {pu : Bool} {Q : Int32 → xM → Prop} (ok : okS σ) (hh : σ 3 0 < 20000) (h : RR 0 (tg op pu σ 0) u) (hst : gi u 272 25 = xb (!pu))
    (hq : ∀ u', RR 0 (stp op pu σ) u' → gsame u u' → xsame (fun k => k ≠ 273) u u' → Q (nI (ndf (drw op pu σ) (σ 22 0))) u') : ∃ n, p_X11_goesBy_L152 Q n (nI (σ 22 0)) (0 : Int32) u := by
  have h7 := ok.r
  have h128 := ok.p7
  have hd0 := ok.drowned
  refine xloop (fun n i (s : xM) => p_X11_goesBy_L152 Q n (nI (σ 22 0)) (nI i) s) (fun i s => RR 0 (tg op pu σ i) s ∧ gsame u s ∧ xsame (fun k => k ≠ 273) u s) (σ 0 0) 0 u (Nat.zero_le _) ⟨h, gsame.rf, xsame.rf⟩ ?_ ?_
  · intro n s hs
    have c0 : gi s 273 0 = nI (σ 0 0) := hs.1.r0
    have c3 : gi s 273 3 = nI (σ 3 0) := hs.1.r3
    unfold p_X11_goesBy_L152
    rw [(r_at l_0 (by decide)).2, c0, cLE (by omega) (by omega)]
    refine ⟨(r_at l_0 (by decide)).1, fun _ => ⟨(r_at l_3 (by decide)).1, (r_at l_3 (by decide)).1, ?_⟩, fun c => absurd (Nat.le_refl _) c⟩
    intro s1 hs1
    rw [(r_at l_3 (by decide)).2, c3, l_1, cA] at hs1
    have R1 : RR 0 (stp op pu σ) s1 := by
      rw [hs1]
      refine hs.1.st (f := 3) (i := 0) ok.r ok.d ok.e rfl rfl rfl (by decide) (by decide) (by simp [rk]) (by simp [rv, stp]) (fun g hg j hj hne => ?_)
      have hnm : ∀ d, rotD (stp op pu σ) d = rotD σ d := fun d => rfl
      have hnm2 : ∀ d, rotD (tg op pu σ (σ 0 0)) d = rotD σ d := fun d => rfl
      unfold rv
      rw [hnm, hnm2]
      by_cases e3 : g = 3
      · subst e3
        have hj : j < 1 := by simpa [rrN] using hj
        have : j = 0 := by omega
        exact absurd ⟨rfl, this⟩ hne
      · by_cases e8 : g = 8
        · subst e8
          have hj : j < σ 0 0 := by simpa [rrN, tg] using hj
          simp [stp, tg, hj]
        · by_cases e9 : g = 9
          · subst e9
            have hj : j < σ 0 0 := by simpa [rrN, tg] using hj
            simp [stp, tg, hj]
          · by_cases e22 : g = 22
            · subst e22; simp [stp, tg, drw]
            · simp [stp, tg, e3, e8, e9, e22]
    have ok1 := stp_ok ok hh op pu
    refine r_set1 R1 ok1 ?_
    have hdr : stp op pu σ 22 0 = drw op pu σ := rfl
    have hlt : drw op pu σ < 2 ^ σ 0 0 := or_lt2 ok.drowned (mk_lt _ _)
    rw [hdr]
    show Q (nI (drw op pu σ) &&& (nI (σ 22 0) ^^^ (-1 : Int32))) s1
    rw [bNOT (by omega)]
    refine hq s1 R1 (hs.2.1.tr ?_) (hs.2.2.tr ?_)
    · rw [hs1]; exact gsame.at (by omega)
    · rw [hs1]; exact xsame.si (by simp)
  · intro n i s _ hi hs k
    have c0 : gi s 273 0 = nI (σ 0 0) := hs.1.r0
    have hm := ok.rm hi
    have c25 : gi s 272 25 = xb (!pu) := by rw [hs.2.2.1 272 25 (by decide)]; exact hst
    have hwa : aW (sfl op σ) (σ 10) (σ 11) (σ 8) (σ 1 0) i ≤ 9999 := aW_le hm.2.2.2.2.2.2.1 _
    have e7 : gi s 273 (6 + 7 * i + 3) = nI (σ 7 i) := by
      rw [show 6 + 7 * i + 3 = 9 + 7 * i by omega, hs.1.r7 (i := i) hi]
      simp [tg]
    have e8 : gi s 273 (6 + 7 * i + 4) = nI (aW (sfl op σ) (σ 10) (σ 11) (σ 8) (σ 1 0) i) := by
      rw [show 6 + 7 * i + 4 = 10 + 7 * i by omega, hs.1.r8 (i := i) hi]
      simp [tg]
    unfold p_X11_goesBy_L152
    rw [(r_at l_0 (by decide)).2, c0, cLE (by omega) (by omega)]
    refine ⟨(r_at l_0 (by decide)).1, fun c => by omega, fun _ => r_roomRow ?_⟩
    obtain ⟨a1, a2⟩ := r_at (a := nI (6 + 7 * i) + (4 : Int32)) (n := 6 + 7 * i + 4) (by rw [l_4, cA]) (by omega)
    obtain ⟨b1, b2⟩ := r_at (a := nI (6 + 7 * i) + (3 : Int32)) (n := 6 + 7 * i + 3) (by rw [l_3, cA]) (by omega)
    rw [c25, a2, b2, e8, e7]
    have go : ∀ u1, RR 0 (sF (tg op pu σ i) 8 (fun k => if k = i then wat op pu σ i else tg op pu σ i 8 k)) u1 → gsame s u1 → xsame (fun k => k ≠ 273) s u1 → p_X11_goesBy_L204 Q (p_X11_goesBy_L152 Q n) (nI (σ 22 0)) (nI i) (nI (6 + 7 * i)) u1 :=
      fun u1 R1 g1 x1 => r_g204 ok hi R1 (fun u2 R2 g2 x2 => k u2 ⟨R2, hs.2.1.tr (g1.tr g2), hs.2.2.tr (x1.tr x2)⟩)
    have tw : tg op pu σ i 8 = fun k => if k < i then wat op pu σ k else aW (sfl op σ) (σ 10) (σ 11) (σ 8) (σ 1 0) k := rfl
    refine ⟨fun c => ?_, fun c => ?_⟩
    · have hp : pu = false := by cases pu with
        | false => rfl
        | true => exact absurd rfl c
      refine go s ((RR.w0 hs.1).wc (fun r hr => ?_)) gsame.rf xsame.rf
      rw [tw]
      by_cases e : r = i
      · subst e; simp [wat, hp]
      · simp [e]
    · have hp : pu = true := by cases pu with
        | false => exact absurd c (by decide)
        | true => rfl
      refine ⟨a1, a1, b1, ?_⟩
      intro x hx
      rw [iteMin (by omega) (by omega)] at hx
      subst hx
      refine ⟨a1, ?_⟩
      intro u1 hu1
      rw [cS (by omega)] at hu1
      subst hu1
      refine go _ ((RR.w (RR.w0 hs.1) (okS_tg ok op pu i (by omega)) (v := wat op pu σ i) hi ?_ (by omega)).wc (fun r _ => rfl)) (gsame.at (by omega)) (xsame.si (by simp))
      unfold wat
      rw [if_pos hp]
      congr 1; omega
end GOESBY
