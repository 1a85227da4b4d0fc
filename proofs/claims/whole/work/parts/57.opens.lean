/-! ===== a door held open: fails, worst, sillFor ===== -/
def bO (W : Nat → Nat) (r : Nat) : Option Nat → Bool
  | none => true
  | some b => decide (W b < W r)
def mO (W : Nat → Nat) : Option Nat → Int32
  | none => -1
  | some b => nI (W b)
theorem mO_lt {W : Nat → Nat} {a : Option Nat} {r : Nat} (h1 : ∀ b, a = some b → W b < 2147483648) (h2 : W r < 2147483648) : (mO W a < nI (W r)) = (bO W r a = true) := by
  cases a with
  | none =>
    have h : (-1 : Int32) < nI (W r) := by
      rw [Int32.lt_iff_toInt_lt, nI_toInt (by omega)]
      have : (-1 : Int32).toInt = -1 := by decide
      omega
    simp [mO, bO, h]
  | some b =>
    have := h1 b rfl
    simp only [mO, bO, decide_eq_true_eq]
    exact cLT (by omega) (by omega)
theorem mO_le {W : Nat → Nat} {a : Option Nat} {r : Nat} (h1 : ∀ b, a = some b → W b < 2147483648) (h2 : W r < 2147483648) : (nI (W r) ≤ mO W a) = (bO W r a = false) := by
  have h := mO_lt (W := W) (a := a) (r := r) h1 h2
  have e : (nI (W r) ≤ mO W a) = ¬ (mO W a < nI (W r)) := by
    rw [Int32.lt_iff_toInt_lt, Int32.le_iff_toInt_le]
    apply propext
    omega
  rw [e, h]
  cases bO W r a <;> simp
/-- a door held open, its sill higher -/
def tO (σ : aS) (d h : Nat) : aS := sU (sU σ 20 0 (σ 20 0 ||| 2 ^ d)) 12 d (σ 12 d + h)
section OPENS
variable {σ τ : aS} {u u' u0 : xM} {o : Nat}
theorem RR.bit {b f v d k : Nat} {x : Int32} (R : RR b σ u) (ok : okS σ) (hf : f = 20 ∨ f = 21 ∨ f = 22) (hd : d < rrN σ f) (hk : k = b + rk f d) (hx : x = nI (bitN v d)) (ho : ∀ j, j < rrN σ f → j ≠ d → bitN v j = bitN (σ f 0) j) : RR b (sU σ f 0 v) (si u 273 k x) := by
  have e0 : ∀ g j, g ≠ f → sU σ f 0 v g j = σ g j := fun g j h => by rw [sU_at, if_neg (by rintro ⟨z, -⟩; exact h z)]
  have ef : sU σ f 0 v f 0 = v := by rw [sU_at, if_pos ⟨rfl, rfl⟩]
  refine RR.st (f := f) (i := d) R ok.r ok.d ok.e (e0 _ _ (by omega)) (e0 _ _ (by omega)) (e0 _ _ (by omega)) (by omega) (Nat.lt_of_lt_of_le hd (rrN_le ok.r ok.d ok.e f)) hk ?_ (fun g hg j hj hne => ?_)
  · rw [hx]
    unfold rv
    rw [if_neg (by omega), if_neg (by omega), if_pos hf, ef]
  · have e2 : rotD (sU σ f 0 v) j = rotD σ j := by
      unfold rotD
      exact mk_congr (fun h _ => by rw [e0 19 h (by omega)])
    by_cases e : g = f
    · subst e
      unfold rv
      rw [if_neg (by omega), if_neg (by omega), if_pos hf, if_neg (by omega), if_neg (by omega), if_pos hf, ef, ho j hj (fun z => hne ⟨rfl, z⟩)]
    · unfold rv
      rw [e0 g j e, e0 g 0 e, e2]
theorem bitN_o2 {m d j : Nat} : bitN (m ||| 2 ^ d) j = if j = d then 1 else bitN m j := by
  unfold bitN
  rw [Nat.testBit_or, Nat.testBit_two_pow]
  by_cases e : d = j
  · subst e
    simp
  · have e' : ¬ j = d := fun z => e z.symm
    simp [e, e']
theorem okS_tO (ok : okS σ) {d h : Nat} (hd : d < σ 1 0) (hh : σ 12 d + h ≤ 99) : okS (tO σ d h) := okS_sill (okS_held ok (or_lt2 ok.held (p2lt hd))) hh
theorem LR.tO0 {d : Nat} (L : LR o (sU σ 20 0 (σ 20 0 ||| 2 ^ d)) u) : LR o (tO σ d 0) u := L.eq rfl rfl rfl (fun f _ i _ => by
  unfold tO
  rw [sU_at]
  split
  · rename_i z; rw [z.1, z.2]; rfl
  · rfl)
theorem r_triesOpen {d h : Nat} {Q : xM → Prop} (R : RS σ u) (ok : okS σ) (h3 : σ 3 0 ≤ 9999) (hd : d < σ 1 0) (hh : σ 12 d + h ≤ 99) (hq : ∀ u', rq u u' → gi u' 272 28 = nI (allW (hrsB none 12 (tO σ d h))) → gi u' 272 29 = nI (hrsB none 12 (tO σ d h) 22 0) → Q u') : p_X11_triesOpen (nI d) (nI h) u Q := by
  have h10 := ok.d
  have okt := okS_tO ok hd hh
  have h3t : tO σ d h 3 0 = σ 3 0 := rfl
  unfold p_X11_triesOpen
  refine r_keepsS rfl R ok (fun u1 k1 R1 => r_doorRow ?_)
  rw [l_6, cA]
  refine ⟨cIN (by omega) (by decide), fun u5 h5 => r_doorRow ?_⟩
  rw [cCL (by omega), show 55 + 8 * d + 6 = 61 + 8 * d by omega] at h5
  have R2 : RR 0 (sU σ 20 0 (σ 20 0 ||| 2 ^ d)) u5 := by
    rw [h5]
    refine RR.bit R1.1 ok (Or.inl rfl) (by simpa [rrN] using hd) (by simp [rk]) ?_ (fun j _ hj => ?_)
    · rw [bitN_o2, if_pos rfl]; rfl
    · rw [bitN_o2, if_neg hj]
  have k2 : KS u u5 := by rw [h5]; exact k1.w (by omega)
  have ok2 := okS_held ok (or_lt2 ok.held (p2lt hd))
  rw [l_2, cA]
  refine ⟨cIN (by omega) (by decide), cIN (by omega) (by decide), fun u10 h10' => ?_⟩
  rw [cCL (by omega), show 55 + 8 * d + 2 = 57 + 8 * d by omega, R2.r12 (i := d) hd, cA] at h10'
  have R3 : RR 0 (tO σ d h) u10 := by
    rw [h10']
    exact RR.one R2 ok2 (by decide) (by decide) (by decide) (by show d < σ 1 0; exact hd) (by decide) (by simp [rk]) (by simp [rv, sU_at])
  have k3 : KS u u10 := by rw [h10']; exact k2.w (by omega)
  refine r_goesS (n := 12) (k3.rs R R3) okt (by omega) (fun u11 R4 g4 => ?_)
  have okn := hrsB_ok (md := none) okt 12 (by omega)
  refine r_allWater R4.1 okn (fun u15 h15 => ?_)
  have R5 : RR 0 (hrsB none 12 (tO σ d h)) u15 := R4.1.k okn (fun i _ => by rw [h15, gi_si, if_neg (by omega)])
  refine r_set1 R5 okn (fun u18 h18 => ?_)
  have k5 : KS u u18 := by rw [h18, h15]; exact ((k3.g g4).w (by omega)).w (by omega)
  refine r_restS rfl k5 R ok (fun u19 _ q6 _ x6 => hq u19 q6 ?_ ?_)
  · rw [x6.1 272 28 (by omega), h18, gi_si, if_neg (by omega), h15, gi_at]
  · rw [x6.1 272 29 (by omega), h18, gi_at]
theorem k_holdT {d : Nat} (L : LR 110 σ u) (ok : okS σ) (hd : d < σ 1 0) {x : Int32} (hx : x = (gi u 119 1) ||| ((1 : Int32) <<< (nI d &&& 31))) : LR 110 (sU σ 20 0 (σ 20 0 ||| 2 ^ d)) (si u 119 1 x) := by
  have := ok.d
  rw [show gi u 119 1 = nI (σ 20 0) from L.f20, bPOW (by omega), bOR] at hx
  exact L.up (f := 20) (i := 0) (by decide) (by decide) (by decide) (by decide) (by simp [rlN]) hx rfl rfl
theorem K_fails (I : INV u) (a : Int32) : p_X10_fails a u (fun r u1 => p_X11_fails a u1 (fun r' u2 => r = r' ∧ INV u2)) := by
  obtain ⟨σ, S, L, ok, R⟩ := I.sp
  have h3 := okS.hour S
  have hp : σ 23 0 = 4095 := S.2.2.2.2.1
  rcases below (a := a) (σ 1 0) with ⟨d, hd, rfl⟩ | hd
  · have hm := ok.dr hd
    have okt := okS_tO (h := 0) ok hd (by omega)
    refine pj (pc := p_X10_fails (nI d) u) (pr := p_X11_fails (nI d)) I ok R (nI (hrsB none 12 (tO σ d 0) 22 0)) 0 (fun Q hq => ?_) (fun u1 c1 R Q hq => ?_)
    · unfold p_X10_fails
      refine k_isDoorT L ok hd ⟨fun _ => k_asItIs L ok (fun u1 L1 _ c1 u5 h5 => ?_), fun z => absurd z (by decide)⟩
      have L2 : LR 110 (tO σ d 0) u5 := by rw [h5]; exact LR.tO0 (k_holdT L1 ok hd rfl)
      have c2 : cq u u5 := by rw [h5]; exact c1.w (by omega)
      refine k_goOn (n := 12) L2 okt (by show σ 3 0 + 12 ≤ 20000; omega) (fun u6 L3 x3 => ?_)
      rw [show gi u6 111 1 = nI (hrs 12 (tO σ d 0) 22 0) from L3.f22, hrs_B (show tO σ d 0 23 0 = 4095 from hp)]
      exact k_fine hq (c2.hr x3)
    · unfold p_X11_fails
      refine r_isDoorT R ok hd ⟨fun _ => r_triesOpen (h := 0) R ok h3 hd (by omega) (fun u4 q4 _ e4 => ?_), fun z => absurd z (by decide)⟩
      rw [e4]
      exact r_gives hq q4
  · refine pj (pc := p_X10_fails a u) (pr := p_X11_fails a) I ok R (-1) 1 (fun Q hq => ?_) (fun u1 c1 R Q hq => ?_)
    · unfold p_X10_fails
      exact k_isDoorF L ok hd ⟨fun z => absurd z (by decide), fun _ => k_none hq cq.rf⟩
    · unfold p_X11_fails
      exact r_isDoorF R ok hd ⟨fun z => absurd z (by decide), fun _ => r_refuse hq rq.rf⟩
theorem K_worst (I : INV u) : p_X10_worst u (fun r u1 => p_X11_worst u1 (fun r' u2 => r = r' ∧ INV u2)) := by
  obtain ⟨σ, S, L, ok, R⟩ := I.sp
  have h3 := okS.hour S
  have hp : σ 23 0 = 4095 := S.2.2.2.2.1
  have h10 := ok.d
  generalize hW : (fun d => allW (hrsB none 12 (tO σ d 0))) = W
  have hWd : ∀ d, allW (hrsB none 12 (tO σ d 0)) = W d := fun d => by rw [← hW]
  have hWb : ∀ d, d < σ 1 0 → W d < 2147483648 := fun d hd => by
    have hm := ok.dr hd
    have h1 := allW_le (hrsB_ok (md := none) (okS_tO (h := 0) ok hd (by omega)) 12 (by show σ 3 0 + 12 ≤ 20000; omega))
    rw [hWd] at h1
    omega
  have acc : ∀ i, i ≤ σ 1 0 → ∀ b, pkO (bO W) i = some b → W b < 2147483648 := fun i hi b hb => hWb b (Nat.lt_of_lt_of_le (pkO_lt hb) hi)
  refine pj (pc := p_X10_worst u) (pr := p_X11_worst) I ok R (eO (pkO (bO W) (σ 1 0))) (sO (pkO (bO W) (σ 1 0))) (fun Q hq => ?_) (fun u1 c1 R Q hq => ?_)
  · unfold p_X10_worst
    refine xloop (fun m i (s : Int32 × Int32 × xM) => p_X10_worst_L6 Q m s.1 s.2.1 (nI i) s.2.2) (fun i s => s.1 = eO (pkO (bO W) i) ∧ s.2.1 = mO W (pkO (bO W) i) ∧ cq u s.2.2 ∧ LR 83 σ s.2.2) (σ 1 0) 0 (-1, -1, u) (Nat.zero_le _) ⟨rfl, rfl, cq.rf, L⟩ ?_ ?_
    · intro m s hs
      unfold p_X10_worst_L6
      rw [show gi s.2.2 92 0 = nI (σ 1 0) from hs.2.2.2.f1, hs.1]
      exact ⟨fun _ => k_endO (fun j hj => by have := pkO_lt hj; omega) hq hs.2.2.1, fun c => absurd (by rw [cLE (by omega) (by omega)]; exact Nat.le_refl _) c⟩
    · intro m i s _ hi hs k
      have hm := ok.dr hi
      have okt := okS_tO (h := 0) ok hi (by omega)
      unfold p_X10_worst_L6
      rw [show gi s.2.2 92 0 = nI (σ 1 0) from hs.2.2.2.f1]
      refine ⟨fun c => absurd c (by rw [cLE (by omega) (by omega)]; omega), fun _ => k_asItIs hs.2.2.2 ok (fun u1 L1 L83 c1 u8 h8 => ?_)⟩
      have L2 : LR 110 (tO σ i 0) u8 := by rw [h8]; exact LR.tO0 (k_holdT L1 ok hi rfl)
      have c2 : cq u u8 := by rw [h8]; exact (hs.2.2.1.tr c1).w (by omega)
      have L3 : LR 83 σ u8 := by rw [h8]; exact L83.w2 (by omega)
      refine k_waterIn (n := 12) L2 okt (by show σ 3 0 + 12 ≤ 20000; omega) (fun u9 _ x9 => ?_)
      rw [hrs_B (show tO σ i 0 23 0 = 4095 from hp), hWd, hs.2.1, mO_le (acc i (by omega)) (hWb i hi)]
      refine ⟨fun c x hx => ?_, fun c x hx => ?_⟩
      · rw [l_1, cA] at hx
        subst hx
        have e : pkO (bO W) (i + 1) = pkO (bO W) i := by rw [pkO, if_neg (by rw [c]; decide)]
        exact k (s.1, mO W (pkO (bO W) i), u9) ⟨by rw [e]; exact hs.1, by rw [e], c2.hr x9, L3.hr x9 (by omega)⟩
      · rw [l_1, cA] at hx
        subst hx
        have e : pkO (bO W) (i + 1) = some i := by rw [pkO, if_pos (by simpa using c)]
        exact k (nI i, nI (W i), u9) ⟨by rw [e]; rfl, by rw [e]; rfl, c2.hr x9, L3.hr x9 (by omega)⟩
  · unfold p_X11_worst
    refine xloop (fun m i (s : Int32 × Int32 × xM) => p_X11_worst_L6 Q m s.1 s.2.1 (nI i) s.2.2) (fun i s => s.1 = eO (pkO (bO W) i) ∧ s.2.1 = mO W (pkO (bO W) i) ∧ rq u1 s.2.2 ∧ RS σ s.2.2) (σ 1 0) 0 (-1, -1, u1) (Nat.zero_le _) ⟨rfl, rfl, rq.rf, R⟩ ?_ ?_
    · intro m s hs
      unfold p_X11_worst_L6
      rw [(r_at l_1 (by decide)).2, hs.2.2.2.1.r1, hs.1]
      exact ⟨(r_at l_1 (by decide)).1, fun _ => r_endO (fun j hj => by have := pkO_lt hj; omega) hq hs.2.2.1, fun c => absurd (by rw [cLE (by omega) (by omega)]; exact Nat.le_refl _) c⟩
    · intro m i s _ hi hs k
      have hm := ok.dr hi
      unfold p_X11_worst_L6
      rw [(r_at l_1 (by decide)).2, hs.2.2.2.1.r1]
      refine ⟨(r_at l_1 (by decide)).1, fun c => absurd c (by rw [cLE (by omega) (by omega)]; omega), fun _ => r_triesOpen (h := 0) hs.2.2.2 ok h3 hi (by omega) (fun u5 q5 w5 _ => ?_)⟩
      rw [w5, hWd, hs.2.1, mO_lt (acc i (by omega)) (hWb i hi)]
      refine ⟨fun c x7 h7 x hx => ?_, fun c x hx => ?_⟩
      · rw [l_1, cA] at hx
        subst hx
        have e : pkO (bO W) (i + 1) = some i := by rw [pkO, if_pos c]
        exact k (nI i, x7, u5) ⟨by rw [e]; rfl, by rw [e]; exact h7, hs.2.2.1.tr q5, hs.2.2.2.rq ok q5⟩
      · rw [l_1, cA] at hx
        subst hx
        have e : pkO (bO W) (i + 1) = pkO (bO W) i := by rw [pkO, if_neg c]
        exact k (s.1, mO W (pkO (bO W) i), u5) ⟨by rw [e]; exact hs.1, by rw [e], hs.2.2.1.tr q5, hs.2.2.2.rq ok q5⟩
end OPENS
