/-! ===== what is asked for; how it ends ===== -/
section ARG
variable {σ : aS} {u u0 : xM}
theorem fromTo {a : Int32} (lo hi : Nat) (h : hi < 2147483647) : (∃ n, lo ≤ n ∧ n ≤ hi ∧ a = nI n) ∨ ∀ n, lo ≤ n → n ≤ hi → a ≠ nI n := by
  by_cases c : ∃ n, lo ≤ n ∧ n ≤ hi ∧ a = nI n
  · exact Or.inl c
  · exact Or.inr (fun n h1 h2 e => c ⟨n, h1, h2, e⟩)
theorem below {a : Int32} (n : Nat) : (∃ r, r < n ∧ a = nI r) ∨ ∀ r, r < n → a ≠ nI r := by
  by_cases c : ∃ r, r < n ∧ a = nI r
  · exact Or.inl c
  · exact Or.inr (fun r h1 e => c ⟨r, h1, e⟩)
theorem rngF {a : Int32} {n : Nat} (h : ∀ r, r < n → a ≠ nI r) (hn : n < 2147483648) (h1 : ¬ a < 0) : nI n ≤ a := by
  rcases pk_ix a (n := n) hn with c | c | ⟨j, c1, c2⟩
  · exact absurd c h1
  · exact c
  · exact absurd c2 (h j c1)
theorem rngG {a : Int32} {n : Nat} (h : ∀ r, r ≤ n → a ≠ nI r) (hn : n < 2147483647) (h1 : ¬ a < 0) : nI n < a := by
  have h2 := rngF (n := n + 1) (fun r hr => h r (by omega)) (by omega) h1
  have h3 := (cLT (a := n) (b := n + 1) (by omega) (by omega)).mpr (by omega)
  rw [Int32.lt_iff_toInt_lt] at h3 ⊢
  rw [Int32.le_iff_toInt_le] at h2
  omega
theorem k_isRoomT {r : Nat} {Q : Bool → xM → Prop} (L : LR 83 σ u) (ok : okS σ) (hr : r < σ 0 0) (hq : Q true u) : p_X10_isRoom (nI r) u Q := by
  have h7 := ok.r
  unfold p_X10_isRoom
  rw [show gi u 84 0 = nI (σ 0 0) from L.f0, cN0 (by omega), cLE (by omega) (by omega)]
  exact ⟨fun c => c.elim, fun _ => ⟨fun c => absurd c (by omega), fun _ => hq⟩⟩
theorem k_isRoomF {a : Int32} {Q : Bool → xM → Prop} (L : LR 83 σ u) (ok : okS σ) (hr : ∀ r, r < σ 0 0 → a ≠ nI r) (hq : Q false u) : p_X10_isRoom a u Q := by
  have h7 := ok.r
  unfold p_X10_isRoom
  rw [show gi u 84 0 = nI (σ 0 0) from L.f0]
  exact ⟨fun _ => hq, fun c => ⟨fun _ => hq, fun d => absurd (rngF hr (by omega) c) d⟩⟩
theorem k_isDoorT {r : Nat} {Q : Bool → xM → Prop} (L : LR 83 σ u) (ok : okS σ) (hr : r < σ 1 0) (hq : Q true u) : p_X10_isDoor (nI r) u Q := by
  have h7 := ok.d
  unfold p_X10_isDoor
  rw [show gi u 92 0 = nI (σ 1 0) from L.f1, cN0 (by omega), cLE (by omega) (by omega)]
  exact ⟨fun c => c.elim, fun _ => ⟨fun c => absurd c (by omega), fun _ => hq⟩⟩
theorem k_isDoorF {a : Int32} {Q : Bool → xM → Prop} (L : LR 83 σ u) (ok : okS σ) (hr : ∀ r, r < σ 1 0 → a ≠ nI r) (hq : Q false u) : p_X10_isDoor a u Q := by
  have h7 := ok.d
  unfold p_X10_isDoor
  rw [show gi u 92 0 = nI (σ 1 0) from L.f1]
  exact ⟨fun _ => hq, fun c => ⟨fun _ => hq, fun d => absurd (rngF hr (by omega) c) d⟩⟩
theorem r_isRoomT {r : Nat} {Q : Bool → xM → Prop} (R : RS σ u) (ok : okS σ) (hr : r < σ 0 0) (hq : Q true u) : p_X11_isRoom (nI r) u Q := by
  have h7 := ok.r
  unfold p_X11_isRoom
  rw [(r_at l_0 (by decide)).2, R.1.r0, cN0 (by omega), cLE (by omega) (by omega)]
  exact ⟨fun c => c.elim, fun _ => ⟨(r_at l_0 (by decide)).1, fun c => absurd c (by omega), fun _ => hq⟩⟩
theorem r_isRoomF {a : Int32} {Q : Bool → xM → Prop} (R : RS σ u) (ok : okS σ) (hr : ∀ r, r < σ 0 0 → a ≠ nI r) (hq : Q false u) : p_X11_isRoom a u Q := by
  have h7 := ok.r
  unfold p_X11_isRoom
  rw [(r_at l_0 (by decide)).2, R.1.r0]
  exact ⟨fun _ => hq, fun c => ⟨(r_at l_0 (by decide)).1, fun _ => hq, fun d => absurd (rngF hr (by omega) c) d⟩⟩
theorem r_isDoorT {r : Nat} {Q : Bool → xM → Prop} (R : RS σ u) (ok : okS σ) (hr : r < σ 1 0) (hq : Q true u) : p_X11_isDoor (nI r) u Q := by
  have h7 := ok.d
  unfold p_X11_isDoor
  rw [(r_at l_1 (by decide)).2, R.1.r1, cN0 (by omega), cLE (by omega) (by omega)]
  exact ⟨fun c => c.elim, fun _ => ⟨(r_at l_1 (by decide)).1, fun c => absurd c (by omega), fun _ => hq⟩⟩
theorem r_isDoorF {a : Int32} {Q : Bool → xM → Prop} (R : RS σ u) (ok : okS σ) (hr : ∀ r, r < σ 1 0 → a ≠ nI r) (hq : Q false u) : p_X11_isDoor a u Q := by
  have h7 := ok.d
  unfold p_X11_isDoor
  rw [(r_at l_1 (by decide)).2, R.1.r1]
  exact ⟨fun _ => hq, fun c => ⟨(r_at l_1 (by decide)).1, fun _ => hq, fun d => absurd (rngF hr (by omega) c) d⟩⟩
theorem r_isErrandT {r : Nat} {Q : Bool → xM → Prop} (R : RS σ u) (ok : okS σ) (hr : r < σ 2 0) (hq : Q true u) : p_X11_isErrand (nI r) u Q := by
  have h7 := ok.e
  unfold p_X11_isErrand
  rw [(r_at l_2 (by decide)).2, R.1.r2, cN0 (by omega), cLE (by omega) (by omega)]
  exact ⟨fun c => c.elim, fun _ => ⟨(r_at l_2 (by decide)).1, fun c => absurd c (by omega), fun _ => hq⟩⟩
theorem r_isErrandF {a : Int32} {Q : Bool → xM → Prop} (R : RS σ u) (ok : okS σ) (hr : ∀ r, r < σ 2 0 → a ≠ nI r) (hq : Q false u) : p_X11_isErrand a u Q := by
  have h7 := ok.e
  unfold p_X11_isErrand
  rw [(r_at l_2 (by decide)).2, R.1.r2]
  exact ⟨fun _ => hq, fun c => ⟨(r_at l_2 (by decide)).1, fun _ => hq, fun d => absurd (rngF hr (by omega) c) d⟩⟩
theorem k_isHourT {r : Nat} {Q : Bool → xM → Prop} (hr : r < 12) (hq : Q true u) : p_X10_isHourOfDay (nI r) u Q := by
  unfold p_X10_isHourOfDay
  rw [l_12, cN0 (by omega), cLE (by omega) (by omega)]
  exact ⟨fun c => c.elim, fun _ => ⟨fun c => absurd c (by omega), fun _ => hq⟩⟩
theorem k_isHourF {a : Int32} {Q : Bool → xM → Prop} (hr : ∀ r, r < 12 → a ≠ nI r) (hq : Q false u) : p_X10_isHourOfDay a u Q := by
  unfold p_X10_isHourOfDay
  exact ⟨fun _ => hq, fun c => ⟨fun _ => hq, fun d => absurd (rngF hr (by omega) c) d⟩⟩
theorem r_isHourT {r : Nat} {Q : Bool → xM → Prop} (hr : r < 12) (hq : Q true u) : p_X11_isHour (nI r) u Q := by
  unfold p_X11_isHour
  rw [l_12, cN0 (by omega), cLE (by omega) (by omega)]
  exact ⟨fun c => c.elim, fun _ => ⟨fun c => absurd c (by omega), fun _ => hq⟩⟩
theorem r_isHourF {a : Int32} {Q : Bool → xM → Prop} (hr : ∀ r, r < 12 → a ≠ nI r) (hq : Q false u) : p_X11_isHour a u Q := by
  unfold p_X11_isHour
  exact ⟨fun _ => hq, fun c => ⟨fun _ => hq, fun d => absurd (rngF hr (by omega) c) d⟩⟩
theorem k_withinT {n lo hi : Nat} {x y : Int32} {Q : Bool → xM → Prop} (hx : x = nI lo) (hy : y = nI hi) (h1 : lo ≤ n) (h2 : n ≤ hi) (h3 : hi < 2147483648) (hq : Q true u) : p_X10_isWithin (nI n) x y u Q := by
  unfold p_X10_isWithin
  rw [hx, hy, cLT (by omega) (by omega), cLT (by omega) (by omega)]
  exact ⟨fun c => absurd c (by omega), fun _ => ⟨fun c => absurd c (by omega), fun _ => hq⟩⟩
theorem k_withinF {a : Int32} {lo hi : Nat} {x y : Int32} {Q : Bool → xM → Prop} (hx : x = nI lo) (hy : y = nI hi) (h : ∀ n, lo ≤ n → n ≤ hi → a ≠ nI n) (h3 : hi < 2147483647) (h4 : lo ≤ hi) (hq : Q false u) : p_X10_isWithin a x y u Q := by
  unfold p_X10_isWithin
  refine ⟨fun _ => hq, fun c => ⟨fun _ => hq, fun d => ?_⟩⟩
  exfalso
  have a1 : (nI lo).toInt = lo := nI_toInt (by omega)
  have a2 : (nI hi).toInt = hi := nI_toInt (by omega)
  rw [hx, Int32.lt_iff_toInt_lt] at c
  rw [hy, Int32.lt_iff_toInt_lt] at d
  have e : a = nI a.toInt.toNat := by
    have : (nI a.toInt.toNat).toInt = ((a.toInt.toNat : Nat) : Int) := nI_toInt (by omega)
    apply Int32.toInt_inj.mp
    omega
  exact h a.toInt.toNat (by omega) (by omega) e
theorem r_fromT {n lo hi : Nat} {x y : Int64} {Q : Bool → xM → Prop} (hx : x.toInt = lo) (hy : y.toInt = hi) (h1 : lo ≤ n) (h2 : n ≤ hi) (h3 : hi < 2147483648) (hq : Q true u) : p_X11_isFrom (nI n).toInt64 x y u Q := by
  unfold p_X11_isFrom
  rw [lg_cmp_lt, lg_cmp_gt, Int64.lt_iff_toInt_lt, Int64.lt_iff_toInt_lt, Int32.toInt_toInt64, nI_toInt (show n < 2 ^ 31 by omega), hx, hy]
  exact ⟨fun c => absurd c (by omega), fun _ => ⟨fun c => absurd c (by omega), fun _ => hq⟩⟩
theorem r_fromF {a : Int32} {lo hi : Nat} {x y : Int64} {Q : Bool → xM → Prop} (hx : x.toInt = lo) (hy : y.toInt = hi) (h : ∀ n, lo ≤ n → n ≤ hi → a ≠ nI n) (h3 : hi < 2147483647) (hq : Q false u) : p_X11_isFrom a.toInt64 x y u Q := by
  unfold p_X11_isFrom
  rw [lg_cmp_lt, lg_cmp_gt, Int64.lt_iff_toInt_lt, Int64.lt_iff_toInt_lt, Int32.toInt_toInt64, hx, hy]
  refine ⟨fun _ => hq, fun c => ⟨fun _ => hq, fun d => ?_⟩⟩
  exfalso
  have e : a = nI a.toInt.toNat := by
    have : (nI a.toInt.toNat).toInt = ((a.toInt.toNat : Nat) : Int) := nI_toInt (by omega)
    apply Int32.toInt_inj.mp
    omega
  exact h a.toInt.toNat (by omega) (by omega) e
/-! how it ends -/
theorem k_fine {v : Int32} {Q : Int32 → xM → Prop} (hq : ∀ u', cq u0 u' → gi u' 0 14 = 0 → Q v u') (c : cq u0 u) : p_X10_fine v u Q := fun u1 h1 => hq u1 (by rw [h1]; exact c.st) (by rw [h1]; exact gi_at _ _ _ _)
theorem k_none {s : Int32} {Q : Int32 → xM → Prop} (hq : ∀ u', cq u0 u' → gi u' 0 14 = s → Q (-1) u') (c : cq u0 u) : p_X10_none s u Q := fun u1 h1 => hq u1 (by rw [h1]; exact c.st) (by rw [h1]; exact gi_at _ _ _ _)
theorem k_done {Q : Bool → xM → Prop} (hq : ∀ u', cq u0 u' → gi u' 0 14 = 0 → Q true u') (c : cq u0 u) : p_X10_done u Q := fun u1 h1 => hq u1 (by rw [h1]; exact c.st) (by rw [h1]; exact gi_at _ _ _ _)
theorem k_refused {s : Int32} {Q : Bool → xM → Prop} (hq : ∀ u', cq u0 u' → gi u' 0 14 = s → Q false u') (c : cq u0 u) : p_X10_refused s u Q := fun u1 h1 => hq u1 (by rw [h1]; exact c.st) (by rw [h1]; exact gi_at _ _ _ _)
theorem r_gives {v : Int32} {Q : Int32 → xM → Prop} (hq : ∀ u', rq u0 u' → gi u' 272 2 = 0 → Q v u') (c : rq u0 u) : p_X11_gives v u Q := fun u1 h1 => hq u1 (by rw [h1]; exact c.st) (by rw [h1]; exact gi_at _ _ _ _)
theorem r_refuse {s : Int32} {Q : Int32 → xM → Prop} (hq : ∀ u', rq u0 u' → gi u' 272 2 = s → Q (-1) u') (c : rq u0 u) : p_X11_refuse s u Q := fun u1 h1 => hq u1 (by rw [h1]; exact c.st) (by rw [h1]; exact gi_at _ _ _ _)
theorem r_isT {s : Int32} {Q : Bool → xM → Prop} (hs : s = 0) (hq : ∀ u', rq u0 u' → gi u' 272 2 = s → Q true u') (c : rq u0 u) : p_X11_is s u Q := fun u1 h1 => ⟨fun z => absurd hs z, fun _ => hq u1 (by rw [h1]; exact c.st) (by rw [h1]; exact gi_at _ _ _ _)⟩
theorem r_isF {s : Int32} {Q : Bool → xM → Prop} (hs : ¬ s = 0) (hq : ∀ u', rq u0 u' → gi u' 272 2 = s → Q false u') (c : rq u0 u) : p_X11_is s u Q := fun u1 h1 => ⟨fun _ => hq u1 (by rw [h1]; exact c.st) (by rw [h1]; exact gi_at _ _ _ _), fun z => absurd z hs⟩
theorem r_orNone {v : Int32} {Q : Int32 → xM → Prop} (hn : ¬ v = -1) (hq : ∀ u', rq u0 u' → gi u' 272 2 = 0 → Q v u') (c : rq u0 u) : p_X11_orNone v u Q := ⟨fun _ => r_gives hq c, fun z => absurd z hn⟩
theorem r_orNone' {Q : Int32 → xM → Prop} (hq : ∀ u', rq u0 u' → gi u' 272 2 = 6 → Q (-1) u') (c : rq u0 u) : p_X11_orNone (-1) u Q := ⟨fun z => absurd rfl z, fun _ => r_refuse hq c⟩
end ARG
