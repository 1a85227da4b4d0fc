/-! ===== twoWalls, bestHour ===== -/
section BEST
variable {σ τ ρ : aS} {u u' u0 u1 : xM} {o o1 : Nat}
def tinB (wal : Nat) (V : Nat → Nat) (a k : Nat) (acc : Option Nat) : Bool := decide (a < k) && !wal.testBit a && !wal.testBit k && decide (V (10 * a + k) < lO V acc)
def tin (wal : Nat) (V : Nat → Nat) (a : Nat) : Nat → Option Nat → Option Nat
  | 0, acc => acc
  | k + 1, acc => if tinB wal V a k (tin wal V a k acc) then some (10 * a + k) else tin wal V a k acc
def tout (wal : Nat) (V : Nat → Nat) (n : Nat) : Nat → Option Nat
  | 0 => none
  | a + 1 => tin wal V a n (tout wal V n a)
theorem tin_s (wal : Nat) (V : Nat → Nat) (a k : Nat) (acc : Option Nat) : tin wal V a (k + 1) acc = if tinB wal V a k (tin wal V a k acc) then some (10 * a + k) else tin wal V a k acc := rfl
theorem tout_s (wal : Nat) (V : Nat → Nat) (n a : Nat) : tout wal V n (a + 1) = tin wal V a n (tout wal V n a) := rfl
theorem tin_lo {wal : Nat} {V : Nat → Nat} {a : Nat} {acc : Option Nat} : ∀ k, k ≤ a + 1 → tin wal V a k acc = acc := by
  intro k
  induction k with
  | zero => intro _; rfl
  | succ k ih =>
    intro hk
    rw [tin_s, ih (by omega)]
    have : tinB wal V a k acc = false := by
      unfold tinB
      rw [decide_eq_false (by omega)]; rfl
    rw [this]
    rfl
def accOK (V : Nat → Nat) (acc : Option Nat) : Prop := ∀ c, acc = some c → V c < 1000000 ∧ c < 200
theorem and0_or {w a b : Nat} : (w &&& (2 ^ a ||| 2 ^ b) = 0) = (w.testBit a = false ∧ w.testBit b = false) := by
  rw [and2]
  cases w.testBit a <;> cases w.testBit b <;> simp
theorem K_twoWalls (I : INV u) : p_X10_twoWalls u (fun r u1 => p_X11_twoWalls u1 (fun r' u2 => r = r' ∧ INV u2)) := by
  obtain ⟨σ, S, L, ok, R⟩ := I.sp
  have h3 := okS.hour S
  have hp : σ 23 0 = 4095 := S.2.2.2.2.1
  have h10 := ok.d
  have hp10 := ok.p10
  have hwl := ok.walled
  generalize hV : (fun c => allW (hrsB none 12 (wO σ (2 ^ (c / 10) ||| 2 ^ (c % 10))))) = V
  have hVc : ∀ a b, b < 10 → allW (hrsB none 12 (wO σ (2 ^ a ||| 2 ^ b))) = V (10 * a + b) := fun a b hb => by
    rw [← hV]
    show _ = allW (hrsB none 12 (wO σ (2 ^ ((10 * a + b) / 10) ||| 2 ^ ((10 * a + b) % 10))))
    rw [show (10 * a + b) / 10 = a by omega, show (10 * a + b) % 10 = b by omega]
  have hVb : ∀ a b, a < σ 1 0 → b < σ 1 0 → V (10 * a + b) ≤ 69993 := fun a b ha hb => by
    rw [← hVc a b (by omega)]
    exact allW_le (hrsB_ok (md := none) (okS_wO ok (or_lt2 (p2lt ha) (p2lt hb))) 12 (by show σ 3 0 + 12 ≤ 20000; omega))
  have lOb : ∀ acc, accOK V acc → lO V acc ≤ 1000000 := fun acc h => by
    cases acc with
    | none => exact Nat.le_refl _
    | some c => exact Nat.le_of_lt (h c rfl).1
  have upd : ∀ a b acc, a < σ 1 0 → b < σ 1 0 → accOK V acc → accOK V (if tinB (σ 21 0) V a b acc then some (10 * a + b) else acc) := fun a b acc ha hb h => by
    split
    · intro c hc
      obtain rfl := Option.some.inj hc
      have := hVb a b ha hb
      omega
    · exact h
  refine pj (pc := p_X10_twoWalls u) (pr := p_X11_twoWalls) I ok R (eO (tout (σ 21 0) V (σ 1 0) (σ 1 0))) (sO (tout (σ 21 0) V (σ 1 0) (σ 1 0))) (fun Q hq => ?_) (fun u1 c1 R Q hq => ?_)
  · unfold p_X10_twoWalls
    refine xloop (fun m i (s : Int32 × Int32 × xM) => p_X10_twoWalls_L8 Q m s.1 s.2.1 (nI i) s.2.2) (fun i s => s.1 = eO (tout (σ 21 0) V (σ 1 0) i) ∧ s.2.1 = nI (lO V (tout (σ 21 0) V (σ 1 0) i)) ∧ accOK V (tout (σ 21 0) V (σ 1 0) i) ∧ cq u s.2.2 ∧ LR 83 σ s.2.2) (σ 1 0) 0 (-1, 1000000, u) (Nat.zero_le _) ⟨rfl, l_1000000, fun c hc => (nomatch hc), cq.rf, L⟩ ?_ ?_
    · intro m s hs
      unfold p_X10_twoWalls_L8
      rw [show gi s.2.2 92 0 = nI (σ 1 0) from hs.2.2.2.2.f1, hs.1]
      exact ⟨fun _ => k_endO (fun j hj => by have := (hs.2.2.1 j hj).2; omega) hq hs.2.2.2.1, fun c => absurd (by rw [cLE (by omega) (by omega)]; exact Nat.le_refl _) c⟩
    · intro m i s _ hi hs k
      unfold p_X10_twoWalls_L8
      rw [show gi s.2.2 92 0 = nI (σ 1 0) from hs.2.2.2.2.f1]
      refine ⟨fun c => absurd c (by rw [cLE (by omega) (by omega)]; omega), fun _ x7 h7 => ?_⟩
      rw [l_1, cA] at h7
      subst h7
      refine xloop (fun n b (w : Int32 × Int32 × xM) => p_X10_twoWalls_L27 Q (p_X10_twoWalls_L8 Q m) n w.1 w.2.1 (nI i) (nI b) w.2.2) (fun b w => w.1 = eO (tin (σ 21 0) V i b (tout (σ 21 0) V (σ 1 0) i)) ∧ w.2.1 = nI (lO V (tin (σ 21 0) V i b (tout (σ 21 0) V (σ 1 0) i))) ∧ accOK V (tin (σ 21 0) V i b (tout (σ 21 0) V (σ 1 0) i)) ∧ cq u w.2.2 ∧ LR 83 σ w.2.2) (σ 1 0) (i + 1) (s.1, s.2.1, s.2.2) (by omega) ?_ ?_ ?_
      · rw [tin_lo (i + 1) (by omega)]
        exact hs
      · intro n w hw
        unfold p_X10_twoWalls_L27
        rw [show gi w.2.2 92 0 = nI (σ 1 0) from hw.2.2.2.2.f1]
        refine ⟨fun _ x2 h2 => ?_, fun c => absurd (by rw [cLE (by omega) (by omega)]; exact Nat.le_refl _) c⟩
        rw [l_1, cA] at h2
        subst h2
        refine k (w.1, w.2.1, w.2.2) ?_
        rw [tout_s]
        exact hw
      · intro n b w hb1 hb2 hw kk
        unfold p_X10_twoWalls_L27
        have hu := upd i b _ hi hb2 hw.2.2.1
        have hl := lOb _ hw.2.2.1
        rw [show gi w.2.2 92 0 = nI (σ 1 0) from hw.2.2.2.2.f1, show gi w.2.2 92 2 = nI (σ 21 0) from hw.2.2.2.2.f21]
        refine ⟨fun c => absurd c (by rw [cLE (by omega) (by omega)]; omega), fun _ x3 h3' => ?_⟩
        rw [bPOW (by omega), bPOW (by omega), bOR] at h3'
        subst h3'
        rw [bAND, cE0 (Nat.lt_of_le_of_lt Nat.and_le_left (by omega)), and0_or]
        refine ⟨fun c => ?_, fun c => ?_⟩
        · have eb : tinB (σ 21 0) V i b (tin (σ 21 0) V i b (tout (σ 21 0) V (σ 1 0) i)) = false := by
            unfold tinB
            cases e1 : (σ 21 0).testBit i <;> cases e2 : (σ 21 0).testBit b <;> simp_all
          unfold p_X10_twoWalls_L80
          rw [hw.2.1, l_1000000, cLE (by omega) (by omega)]
          refine ⟨fun _ x2 h2 => ?_, fun z => absurd hl z⟩
          rw [l_1, cA] at h2
          subst h2
          refine kk (w.1, nI (lO V (tin (σ 21 0) V i b (tout (σ 21 0) V (σ 1 0) i))), w.2.2) ?_
          rw [tin_s, eb]
          exact ⟨hw.1, rfl, hw.2.2.1, hw.2.2.2⟩
        · refine k_waterWalled hw.2.2.2.2 ok hp h3 (or_lt2 (p2lt hi) (p2lt hb2)) (fun u5 L5 c5 => ?_)
          have hv := hVb i b hi hb2
          have ct : tinB (σ 21 0) V i b (tin (σ 21 0) V i b (tout (σ 21 0) V (σ 1 0) i)) = decide (V (10 * i + b) < lO V (tin (σ 21 0) V i b (tout (σ 21 0) V (σ 1 0) i))) := by
            unfold tinB
            rw [c.1, c.2, decide_eq_true (by omega)]; rfl
          unfold p_X10_twoWalls_L80
          rw [hw.2.1, hVc i b (by omega), cLE (by omega) (by omega)]
          refine ⟨fun z x2 h2 => ?_, fun z x3 h3' x4 h4 => ?_⟩
          · rw [l_1, cA] at h2
            subst h2
            refine kk (w.1, nI (lO V (tin (σ 21 0) V i b (tout (σ 21 0) V (σ 1 0) i))), u5) ?_
            rw [tin_s, ct, decide_eq_false (by omega)]
            exact ⟨hw.1, rfl, hw.2.2.1, hw.2.2.2.1.tr c5, L5⟩
          · rw [l_1, cA] at h4
            subst h4
            rw [l_10, cM, cA] at h3'
            refine kk (x3, nI (V (10 * i + b)), u5) ?_
            rw [ct] at hu
            rw [tin_s, ct]
            rw [decide_eq_true (by omega)] at hu ⊢
            exact ⟨h3', rfl, hu, hw.2.2.2.1.tr c5, L5⟩
  · unfold p_X11_twoWalls
    refine xloop (fun m i (s : Int32 × Int32 × xM) => p_X11_twoWalls_L8 Q m s.1 s.2.1 (nI i) s.2.2) (fun i s => s.1 = eO (tout (σ 21 0) V (σ 1 0) i) ∧ s.2.1 = nI (lO V (tout (σ 21 0) V (σ 1 0) i)) ∧ accOK V (tout (σ 21 0) V (σ 1 0) i) ∧ rq u1 s.2.2 ∧ RS σ s.2.2) (σ 1 0) 0 (-1, 1000000, u1) (Nat.zero_le _) ⟨rfl, l_1000000, fun c hc => (nomatch hc), rq.rf, R⟩ ?_ ?_
    · intro m s hs
      unfold p_X11_twoWalls_L8
      rw [(r_at l_1 (by decide)).2, hs.2.2.2.2.1.r1, hs.1]
      exact ⟨(r_at l_1 (by decide)).1, fun _ => r_endO (fun j hj => by have := (hs.2.2.1 j hj).2; omega) hq hs.2.2.2.1, fun c => absurd (by rw [cLE (by omega) (by omega)]; exact Nat.le_refl _) c⟩
    · intro m i s _ hi hs k
      unfold p_X11_twoWalls_L8
      rw [(r_at l_1 (by decide)).2, hs.2.2.2.2.1.r1]
      refine ⟨(r_at l_1 (by decide)).1, fun c => absurd c (by rw [cLE (by omega) (by omega)]; omega), fun _ x7 h7 => ?_⟩
      rw [l_1, cA] at h7
      subst h7
      refine xloop (fun n b (w : Int32 × Int32 × xM) => p_X11_twoWalls_L23 Q (p_X11_twoWalls_L8 Q m) n w.1 w.2.1 (nI i) (nI b) w.2.2) (fun b w => w.1 = eO (tin (σ 21 0) V i b (tout (σ 21 0) V (σ 1 0) i)) ∧ w.2.1 = nI (lO V (tin (σ 21 0) V i b (tout (σ 21 0) V (σ 1 0) i))) ∧ accOK V (tin (σ 21 0) V i b (tout (σ 21 0) V (σ 1 0) i)) ∧ rq u1 w.2.2 ∧ RS σ w.2.2) (σ 1 0) (i + 1) (s.1, s.2.1, s.2.2) (by omega) ?_ ?_ ?_
      · rw [tin_lo (i + 1) (by omega)]
        exact hs
      · intro n w hw
        unfold p_X11_twoWalls_L23
        rw [(r_at l_1 (by decide)).2, hw.2.2.2.2.1.r1]
        refine ⟨(r_at l_1 (by decide)).1, fun _ x2 h2 => ?_, fun c => absurd (by rw [cLE (by omega) (by omega)]; exact Nat.le_refl _) c⟩
        rw [l_1, cA] at h2
        subst h2
        refine k (w.1, w.2.1, w.2.2) ?_
        rw [tout_s]
        exact hw
      · intro n b w hb1 hb2 hw kk
        unfold p_X11_twoWalls_L23
        have hu := upd i b _ hi hb2 hw.2.2.1
        have hl := lOb _ hw.2.2.1
        have skip : tinB (σ 21 0) V i b (tin (σ 21 0) V i b (tout (σ 21 0) V (σ 1 0) i)) = false → ∀ x : Int32, x = nI b + 1 → p_X11_twoWalls_L23 Q (p_X11_twoWalls_L8 Q m) n w.1 w.2.1 (nI i) x w.2.2 := fun eb x hx => by
          rw [l_1, cA] at hx
          subst hx
          refine kk (w.1, w.2.1, w.2.2) ?_
          rw [tin_s, eb]
          exact hw
        rw [(r_at l_1 (by decide)).2, hw.2.2.2.2.1.r1]
        refine ⟨(r_at l_1 (by decide)).1, fun c => absurd c (by rw [cLE (by omega) (by omega)]; omega), fun _ => ?_⟩
        refine r_doorV (w := 7) (f := 21) (v := nI (bitN (σ 21 0) i)) hw.2.2.2.2.1 ok hi rfl (by decide) (by decide) rfl (by simp [rk]; omega) rfl ?_
        rw [bitN_1]
        refine ⟨fun c => skip (by unfold tinB; rw [c]; simp), fun c => ?_⟩
        rw [Bool.not_eq_true] at c
        refine r_doorV (w := 7) (f := 21) (v := nI (bitN (σ 21 0) b)) hw.2.2.2.2.1 ok hb2 rfl (by decide) (by decide) rfl (by simp [rk]; omega) rfl ?_
        rw [bitN_1]
        refine ⟨fun c2 => ?_, fun c2 => skip (by unfold tinB; rw [c2]; simp)⟩
        rw [Bool.not_eq_true] at c2
        refine r_waterWalled hw.2.2.2.2 ok h3 hi hb2 (fun u5 q5 => ?_)
        have hv := hVb i b hi hb2
        have ct : tinB (σ 21 0) V i b (tin (σ 21 0) V i b (tout (σ 21 0) V (σ 1 0) i)) = decide (V (10 * i + b) < lO V (tin (σ 21 0) V i b (tout (σ 21 0) V (σ 1 0) i))) := by
          unfold tinB
          rw [c, c2, decide_eq_true (by omega)]; rfl
        rw [hw.2.1, hVc i b (by omega), cLT (by omega) (by omega)]
        refine ⟨fun z x3 h3' x4 h4 => ?_, fun z x2 h2 => ?_⟩
        · rw [l_1, cA] at h4
          subst h4
          rw [l_10, cM, cA] at h3'
          refine kk (x3, nI (V (10 * i + b)), u5) ?_
          rw [ct] at hu
          rw [tin_s, ct]
          rw [decide_eq_true z] at hu ⊢
          exact ⟨h3', rfl, hu, hw.2.2.2.1.tr q5, hw.2.2.2.2.rq ok q5⟩
        · rw [l_1, cA] at h2
          subst h2
          refine kk (w.1, nI (lO V (tin (σ 21 0) V i b (tout (σ 21 0) V (σ 1 0) i))), u5) ?_
          rw [tin_s, ct, decide_eq_false z]
          exact ⟨hw.1, rfl, hw.2.2.1, hw.2.2.2.1.tr q5, hw.2.2.2.2.rq ok q5⟩
/-! what opens by the hour alone: g hour, before walls -/
def hJ (g : Nat → Nat) : Nat → aS → aS
  | 0, σ => σ
  | n + 1, σ => stp (ndf (g (hod (hJ g n σ))) (hJ g n σ 21 0)) true (hJ g n σ)
theorem hJ_s (g : Nat → Nat) (n : Nat) (σ : aS) : hJ g (n + 1) σ = stp (ndf (g (hod (hJ g n σ))) (hJ g n σ 21 0)) true (hJ g n σ) := rfl
theorem hJ_kept (g : Nat → Nat) (n : Nat) (σ : aS) {f : Nat} (hf : kept f) (i : Nat) : hJ g n σ f i = σ f i := by
  induction n with
  | zero => rfl
  | succ n ih => rw [hJ_s, stp_kept _ _ _ hf, ih]
theorem hJ_hour (g : Nat → Nat) (n : Nat) (σ : aS) : hJ g n σ 3 0 = σ 3 0 + n := by
  induction n with
  | zero => rfl
  | succ n ih => rw [hJ_s, stp_hour, ih]; omega
theorem hJ_ok (g : Nat → Nat) (h : okS σ) (n : Nat) (hh : σ 3 0 + n ≤ 20000) : okS (hJ g n σ) := by
  induction n with
  | zero => exact h
  | succ n ih => rw [hJ_s]; exact stp_ok (ih (by omega)) (by rw [hJ_hour]; omega) _ _
theorem hJ_congr {g g' : Nat → Nat} (h : ∀ k, k < 12 → g k = g' k) (n : Nat) (σ : aS) : hJ g n σ = hJ g' n σ := by
  induction n with
  | zero => rfl
  | succ n ih => rw [hJ_s, hJ_s, ih, h _ (hod_lt _)]
theorem hod_jF (τ : aS) (a b : Nat → Nat) : hod (jF τ a b) = hod τ := by
  unfold hod
  rw [jF_r (f := 3) (by decide) (by decide)]
theorem hrs_J (h : σ 23 0 = 4095) (a b : Nat → Nat) (n : Nat) : hrs n (jF σ a b) = jF (hJ (fun k => b 0 ||| a k) n σ) a b := by
  induction n with
  | zero => rfl
  | succ n ih =>
    have hk := hJ_kept (fun k => b 0 ||| a k) n σ (by decide : kept 23) 0
    rw [hrs_s, hJ_s, ih]
    generalize hJ (fun k => b 0 ||| a k) n σ = ρ at hk
    rw [opn_jF, hod_jF, jF_r (f := 23) (by decide) (by decide), hk, h, t4095 (hod_lt _), stp_jF]
theorem hJ_jF (g : Nat → Nat) (a b : Nat → Nat) (n : Nat) (σ : aS) : hJ g n (jF σ a b) = jF (hJ g n σ) a b := by
  induction n with
  | zero => rfl
  | succ n ih => rw [hJ_s, hJ_s, ih, hod_jF, jF_r (f := 21) (by decide) (by decide), stp_jF]
theorem jF_jF (τ : aS) (a b a' b' : Nat → Nat) : jF (jF τ a b) a' b' = jF τ a' b' := by
  funext f i
  rw [jF_at, jF_at, jF_at]
  by_cases e20 : f = 20
  · rw [if_pos e20, if_pos e20]
  · by_cases e19 : f = 19
    · rw [if_neg e20, if_pos e19, if_neg e20, if_pos e19]
    · rw [if_neg e20, if_neg e19, if_neg e20, if_neg e19, if_neg e20, if_neg e19]
theorem jF_self (τ : aS) : jF τ (τ 19) (τ 20) = τ := by
  funext f i
  rw [jF_at]
  by_cases e20 : f = 20
  · rw [if_pos e20, e20]
  · by_cases e19 : f = 19
    · rw [if_neg e20, if_pos e19, e19]
    · rw [if_neg e20, if_neg e19]
theorem okS_jF (ok : okS σ) {a b : Nat → Nat} (ha : ∀ k, k < 12 → a k < 2 ^ σ 1 0) (hb : b 0 < 2 ^ σ 1 0) : okS (jF σ a b) := by
  have e : ∀ f, f ≠ 19 → f ≠ 20 → jF σ a b f = σ f := fun f a b => jF_r a b
  have e19 : jF σ a b 19 = a := by
    funext i
    rw [jF_at, if_neg (by decide), if_pos rfl]
  have e20 : jF σ a b 20 = b := by
    funext i
    rw [jF_at, if_pos rfl]
  unfold okS
  rw [e 0 (by decide) (by decide), e 1 (by decide) (by decide), e 2 (by decide) (by decide), e 3 (by decide) (by decide), e 4 (by decide) (by decide), e 5 (by decide) (by decide), e 6 (by decide) (by decide), e 7 (by decide) (by decide), e 8 (by decide) (by decide), e 9 (by decide) (by decide), e 10 (by decide) (by decide), e 11 (by decide) (by decide), e 12 (by decide) (by decide), e 13 (by decide) (by decide), e 14 (by decide) (by decide), e 15 (by decide) (by decide), e 16 (by decide) (by decide), e 17 (by decide) (by decide), e 18 (by decide) (by decide), e19, e20, e 21 (by decide) (by decide), e 22 (by decide) (by decide), e 23 (by decide) (by decide)]
  exact ⟨ok.r, ok.d, ok.e, ok.h, fun r hr => ok.rm hr, fun d hd => ok.dr hd, fun e he => ok.er he, fun k hk => ⟨(ok.hr hk).1, ha k hk⟩, hb, ok.walled, ok.drowned, ok.ph⟩
/-- what is opened with door d by hand at hour h alone -/
def bhG (σ : aS) (d h k : Nat) : Nat := (ndf (σ 20 0) (2 ^ d)) ||| (if k = h then σ 19 k ||| 2 ^ d else σ 19 k)
def bhH (σ : aS) (d h k : Nat) : Nat := if k = h then σ 20 0 ||| 2 ^ d else ndf (σ 20 0) (2 ^ d)
theorem bh_eq (σ : aS) (d h k : Nat) : bhH σ d h k ||| σ 19 k = bhG σ d h k := by
  unfold bhG bhH
  apply Nat.eq_of_testBit_eq
  intro i
  split
  · rw [Nat.testBit_or, Nat.testBit_or, Nat.testBit_or, Nat.testBit_or, ndf_testBit]
    cases (σ 20 0).testBit i <;> cases (2 ^ d).testBit i <;> cases (σ 19 k).testBit i <;> rfl
  · rfl
theorem bhH_bit {σ : aS} {d h k j : Nat} : bitN (bhH σ d h k) j = if j = d then (if k = h then 1 else 0) else bitN (σ 20 0) j := by
  unfold bhH
  by_cases e : k = h
  · rw [if_pos e, bitN_o2, if_pos e]
  · rw [if_neg e, if_neg e]
    unfold bitN
    rw [ndf_testBit, Nat.testBit_two_pow]
    by_cases e2 : d = j
    · subst e2; simp
    · have e3 : ¬ j = d := fun z => e2 z.symm
      simp [e2, e3]
theorem bhH_lt (ok : okS σ) {d h k : Nat} (hd : d < σ 1 0) : bhH σ d h k < 2 ^ σ 1 0 := by
  unfold bhH
  split
  · exact or_lt2 ok.held (p2lt hd)
  · exact Nat.lt_of_le_of_lt (ndf_le _ _) ok.held
theorem RR.held {v v' d : Nat} {x : Int32} {A : Nat → Nat} (R : RR 0 (jF τ A (fun _ => v)) u) (ok : okS (jF τ A (fun _ => v))) (hd : d < τ 1 0) (hx : x = nI (bitN v' d)) (ho : ∀ j, j ≠ d → bitN v' j = bitN v j) : RR 0 (jF τ A (fun _ => v')) (si u 273 (61 + 8 * d) x) := by
  have e20 : jF τ A (fun _ => v) 20 0 = v := by rw [jF_at, if_pos rfl]
  have e1 : jF τ A (fun _ => v) 1 = τ 1 := jF_r (by decide) (by decide)
  have R2 := RR.bit (f := 20) (v := v') (k := 61 + 8 * d) R ok (Or.inl rfl) (by show d < jF τ A (fun _ => v) 1 0; rw [e1]; exact hd) (by simp [rk]) hx (fun j _ hj => by rw [e20]; exact ho j hj)
  have same : ∀ f i, ¬ (f = 20 ∧ i ≠ 0) → jF τ A (fun _ => v') f i = sU (jF τ A (fun _ => v)) 20 0 v' f i := fun f i hn => by
    rw [sU_at, jF_at, jF_at]
    by_cases e : f = 20
    · rw [if_pos e, if_pos ⟨e, by omega⟩]
    · rw [if_neg e, if_neg (c := f = 20 ∧ i = 0) (fun z => e z.1), if_neg e]
  refine R2.eq (same 0 0 (by omega)) (same 1 0 (by omega)) (same 2 0 (by omega)) (fun f _ i _ => ?_)
  unfold rv
  rw [same f 0 (by omega)]
  by_cases e : f = 20
  · subst e
    rw [if_neg (by decide), if_neg (by decide), if_pos (by decide), if_neg (by decide), if_neg (by decide), if_pos (by decide)]
  · have er : rotD (jF τ A (fun _ => v')) i = rotD (sU (jF τ A (fun _ => v)) 20 0 v') i := by
      unfold rotD
      exact mk_congr (fun h _ => by rw [same 19 h (by omega)])
    rw [same f i (by omega), er]
end BEST
