/-! ===== what is read, purely: a FAULT's sort and token, or what is read and the next token ===== -/
abbrev EX (X : Type) : Type := Except (Nat × Nat) X
def run {X : Type} (x : EX X) (E : Nat → Nat → Prop) (K : X → Prop) : Prop := match x with
  | .error e => E e.1 e.2
  | .ok a => K a
def bnd {X Y : Type} (x : EX X) (f : X → EX Y) : EX Y := match x with
  | .error e => .error e
  | .ok a => f a
def er {X : Type} (k i : Nat) : EX X := .error (k, i)
def ok {X : Type} (a : X) : EX X := .ok a
/-- which of the 28 words token i is; whether it is a NAME; its letters; its number -/
def wrd (B : Nat → Nat) (n i : Nat) : Option Nat := if tK B n (pS B n i) = 1 ∧ tE B n (pS B n i) - tS B n (pS B n i) ≤ 8 then wdx (ltr B n (pS B n i)) else none
def isN (B : Nat → Nat) (n i : Nat) : Bool := decide (tK B n (pS B n i) = 1) && (decide (tE B n (pS B n i) - tS B n (pS B n i) ≤ 8) && (wdx (ltr B n (pS B n i))).isNone)
def nmT (B : Nat → Nat) (n i : Nat) : List Nat := ltr B n (pS B n i)
def vl (B : Nat → Nat) (n i : Nat) : Nat := dg B (tS B n (pS B n i)) (tE B n (pS B n i) - tS B n (pS B n i))
def sgT (B : Nat → Nat) (n i c : Nat) : Bool := decide (tK B n (pS B n i) = 3) && decide (B (tS B n (pS B n i)) = c)
abbrev DR : Type := aS × (Nat → Nat → List Nat)
def fnd (nm : Nat → List Nat) (cnt : Nat) (l : List Nat) : Option Nat := fstO (fun j => decide (nm j = l)) cnt
def tkn (D : DR) (l : List Nat) : Bool := (fnd (D.2 0) (D.1 0 0) l).isSome || ((fnd (D.2 1) (D.1 1 0) l).isSome || (fnd (D.2 2) (D.1 2 0) l).isSome)
def pWord (B : Nat → Nat) (n w i : Nat) : EX Nat := if wrd B n i = some w then ok (i + 1) else er 2 i
def pNum (B : Nat → Nat) (n a b i : Nat) : EX (Nat × Nat) := if tK B n (pS B n i) = 2 then (if vl B n i < a ∨ b < vl B n i then er 4 i else ok (vl B n i, i + 1)) else er 2 i
def pNumB (B : Nat → Nat) (n w a b d i : Nat) : EX (Nat × Nat) := if wrd B n i = some w then pNum B n a b (i + 1) else ok (d, i)
def pStop (B : Nat → Nat) (n i : Nat) : EX Nat := if sgT B n i 59 = true then ok (i + 1) else er 2 i
def pNew (B : Nat → Nat) (n : Nat) (D : DR) (i : Nat) : EX Nat := if isN B n i = true then (if tkn D (nmT B n i) = true then er 3 i else ok (i + 1)) else er 2 i
def oE {X : Type} (x : Option Nat) (e : EX X) (f : Nat → EX X) : EX X := match x with
  | none => e
  | some t => f t
def pOld (B : Nat → Nat) (n : Nat) (nm : Nat → List Nat) (cnt i : Nat) : EX (Nat × Nat) := if isN B n i = true then oE (fnd nm cnt (nmT B n i)) (er 3 i) (fun t => ok (t, i + 1)) else er 2 i
def pEnd (B : Nat → Nat) (n : Nat) (D : DR) (oth : Option Nat) (i : Nat) : EX (Nat × Nat) := if wrd B n i = some 16 then (if oth = some 7 then er 5 i else ok (7, i + 1)) else if isN B n i = true then oE (fnd (D.2 0) (D.1 0 0) (nmT B n i)) (er 3 i) (fun t => if oth = some t then er 5 i else ok (t, i + 1)) else er 2 i
def nU (f : Nat → Nat → List Nat) (s i : Nat) (l : List Nat) : Nat → Nat → List Nat := fun a b => if a = s ∧ b = i then l else f a b
def addR (D : DR) (l : List Nat) (f ar be wa : Nat) : DR := (sU (sU (sU (sU (sU D.1 4 (D.1 0 0) f) 5 (D.1 0 0) ar) 6 (D.1 0 0) be) 8 (D.1 0 0) wa) 0 0 (D.1 0 0 + 1), nU D.2 0 (D.1 0 0) l)
def addD (D : DR) (l : List Nat) (a b s w lk : Nat) : DR := (sU (sU (sU (sU (sU (sU D.1 10 (D.1 1 0) a) 11 (D.1 1 0) b) 12 (D.1 1 0) s) 13 (D.1 1 0) w) 14 (D.1 1 0) lk) 1 0 (D.1 1 0 + 1), nU D.2 1 (D.1 1 0) l)
def addE (D : DR) (l : List Nat) (d f t : Nat) : DR := (sU (sU (sU (sU D.1 15 (D.1 2 0) d) 16 (D.1 2 0) f) 17 (D.1 2 0) t) 2 0 (D.1 2 0 + 1), nU D.2 2 (D.1 2 0) l)
def pRoom (B : Nat → Nat) (n : Nat) (D : DR) (i : Nat) : EX (DR × Nat) := if 7 ≤ D.1 0 0 then er 6 i else bnd (pNew B n D (i + 1)) fun a => bnd (pWord B n 1 a) fun b => bnd (pNum B n 0 99 b) fun f => bnd (pNumB B n 2 1 20 1 f.2) fun ar => bnd (pNumB B n 3 1 99 10 ar.2) fun be => bnd (pNumB B n 4 0 999 0 be.2) fun wa => ok (addR D (nmT B n (i + 1)) f.1 ar.1 be.1 wa.1, wa.2)
def pDoor (B : Nat → Nat) (n : Nat) (D : DR) (i : Nat) : EX (DR × Nat) := if 10 ≤ D.1 1 0 then er 6 i else bnd (pNew B n D (i + 1)) fun a => bnd (pWord B n 6 a) fun b => bnd (pEnd B n D none b) fun e => bnd (pWord B n 7 e.2) fun c => bnd (pEnd B n D (some e.1) c) fun g => bnd (pWord B n 8 g.2) fun d => bnd (pNum B n 0 99 d) fun s => bnd (pNumB B n 9 1 9 1 s.2) fun w => bnd (pNumB B n 10 0 9 0 w.2) fun l => ok (addD D (nmT B n (i + 1)) e.1 g.1 s.1 w.1 l.1, l.2)
def pTide (B : Nat → Nat) (n : Nat) (D : DR) (i : Nat) : EX (DR × Nat) := bnd (pNum B n 0 11 (i + 1)) fun h => bnd (pNum B n 0 99 h.2) fun v => ok ((sU D.1 18 h.1 v.1, D.2), v.2)
def pPump (B : Nat → Nat) (n : Nat) (D : DR) (i : Nat) : EX (DR × Nat) := bnd (pOld B n (D.2 0) (D.1 0 0) (i + 1)) fun r => bnd (pNum B n 0 99 r.2) fun v => ok ((sU D.1 7 r.1 v.1, D.2), v.2)
def pRota (B : Nat → Nat) (n : Nat) (D : DR) (i : Nat) : EX (DR × Nat) := bnd (pNum B n 0 11 (i + 1)) fun h => bnd (pOld B n (D.2 1) (D.1 1 0) h.2) fun d => ok ((sU D.1 19 h.1 (D.1 19 h.1 ||| 2 ^ d.1), D.2), d.2)
def pErr (B : Nat → Nat) (n : Nat) (D : DR) (i : Nat) : EX (DR × Nat) := if 4 ≤ D.1 2 0 then er 6 i else bnd (pNew B n D (i + 1)) fun a => bnd (pWord B n 15 a) fun b => bnd (pOld B n (D.2 1) (D.1 1 0) b) fun d => bnd (pWord B n 6 d.2) fun c => bnd (pNum B n 0 11 c) fun f => bnd (pWord B n 7 f.2) fun e => bnd (pNum B n f.1 11 e) fun t => ok (addE D (nmT B n (i + 1)) d.1 f.1 t.1, t.2)
def pOne (B : Nat → Nat) (n : Nat) (D : DR) (i : Nat) : EX (DR × Nat) := if wrd B n i = some 0 then pRoom B n D i else if wrd B n i = some 5 then pDoor B n D i else if wrd B n i = some 11 then pTide B n D i else if wrd B n i = some 12 then pPump B n D i else if wrd B n i = some 13 then pRota B n D i else if wrd B n i = some 14 then pErr B n D i else er 2 i
def pPart (B : Nat → Nat) (n : Nat) (D : DR) (i : Nat) : EX (DR × Nat) := bnd (pOne B n D i) fun a => bnd (pStop B n a.2) fun j => ok (a.1, j)
def pAll (B : Nat → Nat) (n : Nat) : Nat → DR → Nat → EX DR
  | 0, D, _ => ok D
  | f + 1, D, i => if tK B n (pS B n i) = 0 then ok D else bnd (pPart B n D i) fun a => pAll B n f a.1 a.2
def D0 : DR := (fun f _ => if f = 18 then 10 else if f = 23 then 4095 else 0, fun _ _ => [])
def okD (D : DR) : Prop := okS D.1 ∧ (D.1 3 0 = 0 ∧ D.1 20 0 = 0 ∧ D.1 21 0 = 0 ∧ D.1 22 0 = 0 ∧ D.1 23 0 = 4095) ∧ (∀ i, D.1 0 0 ≤ i → D.1 7 i = 0 ∧ D.1 8 i = 0) ∧ (∀ i, D.1 9 i = 0) ∧ (∀ i, D.1 1 0 ≤ i → D.1 14 i = 0) ∧ (∀ i, i < D.1 0 0 → isNm (D.2 0 i)) ∧ (∀ i, i < D.1 1 0 → isNm (D.2 1 i)) ∧ ∀ i, i < D.1 2 0 → isNm (D.2 2 i)
section PARSE
variable {B : Nat → Nat} {n : Nat}
theorem run_ok {X : Type} {a : X} {E : Nat → Nat → Prop} {K : X → Prop} : run (ok a) E K = K a := rfl
theorem run_er {X : Type} {k i : Nat} {E : Nat → Nat → Prop} {K : X → Prop} : run (er k i : EX X) E K = E k i := rfl
theorem run_bnd {X Y : Type} {x : EX X} {f : X → EX Y} {E : Nat → Nat → Prop} {K : Y → Prop} : run (bnd x f) E K = run x E (fun a => run (f a) E K) := by
  cases x <;> rfl
theorem run_mono {X : Type} {x : EX X} {E E' : Nat → Nat → Prop} {K K' : X → Prop} (h : run x E K) (he : ∀ k i, E k i → E' k i) (hk : ∀ a, K a → K' a) : run x E' K' := by
  cases x with
  | error e => exact he _ _ h
  | ok a => exact hk _ h
/-- of one reading two things hold together -/
theorem run_and {X : Type} {x : EX X} {E E' E'' : Nat → Nat → Prop} {K K' K'' : X → Prop} (h : run x E K) (h' : run x E' K') (he : ∀ k i, E k i → E' k i → E'' k i) (hk : ∀ a, K a → K' a → K'' a) : run x E'' K'' := by
  cases x with
  | error e => exact he _ _ h h'
  | ok a => exact hk _ h h'
theorem run_if {X : Type} {c : Prop} [Decidable c] {a b : EX X} {E : Nat → Nat → Prop} {K : X → Prop} (h1 : c → run a E K) (h2 : ¬ c → run b E K) : run (if c then a else b) E K := by
  by_cases h : c
  · rw [if_pos h]; exact h1 h
  · rw [if_neg h]; exact h2 h
theorem run_oE {X : Type} {x : Option Nat} {e : EX X} {f : Nat → EX X} {E : Nat → Nat → Prop} {K : X → Prop} (h1 : x = none → run e E K) (h2 : ∀ t, x = some t → run (f t) E K) : run (oE x e f) E K := by
  cases x with
  | none => exact h1 rfl
  | some t => exact h2 t rfl
def TT (_ _ : Nat) : Prop := True
theorem g_word {w i : Nat} : run (pWord B n w i) TT (fun j => j = i + 1) := run_if (fun _ => rfl) (fun _ => trivial)
theorem g_num {a b i : Nat} : run (pNum B n a b i) TT (fun v => a ≤ v.1 ∧ v.1 ≤ b ∧ v.2 = i + 1) := run_if (fun _ => run_if (fun _ => trivial) (fun h => ⟨by dsimp only; omega, by dsimp only; omega, rfl⟩)) (fun _ => trivial)
theorem g_numB {w a b d i : Nat} (h1 : a ≤ d) (h2 : d ≤ b) : run (pNumB B n w a b d i) TT (fun v => a ≤ v.1 ∧ v.1 ≤ b ∧ i ≤ v.2) := run_if (fun _ => run_mono g_num (fun _ _ h => h) (fun v h => ⟨h.1, h.2.1, by omega⟩)) (fun _ => ⟨h1, h2, Nat.le_refl _⟩)
theorem g_stop {i : Nat} : run (pStop B n i) TT (fun j => j = i + 1) := run_if (fun _ => rfl) (fun _ => trivial)
theorem ltr_nm {i : Nat} (h : isN B n i = true) : isNm (nmT B n i) := by
  unfold isN at h
  simp only [Bool.and_eq_true, decide_eq_true_eq] at h
  obtain ⟨h1, h2, _⟩ := h
  have hs : tS B n (pS B n i) < n := by
    have : ¬ n ≤ tS B n (pS B n i) := by rw [← tK_0, h1]; decide
    omega
  have hc : cL (B (tS B n (pS B n i))) = true := by
    cases c : cL (B (tS B n (pS B n i))) with
    | true => rfl
    | false =>
      unfold tK at h1
      rw [if_neg (by omega), c, if_neg (by decide)] at h1
      split at h1
      · split at h1
        · exact absurd h1 (by decide)
        · exact absurd h1 (by decide)
      · split at h1
        · exact absurd h1 (by decide)
        · exact absurd h1 (by decide)
  have hE := tE_lt hs
  have eE : tE B n (pS B n i) = U (fun i => cL (B i)) n (tS B n (pS B n i)) := by
    unfold tE
    rw [if_neg (by omega), if_pos hc]
  unfold nmT ltr
  refine ⟨fun z => ?_, by rw [seg_len]; exact h2, seg_lows (fun k hk => ?_)⟩
  · have := congrArg List.length z
    rw [seg_len] at this
    have : tE B n (pS B n i) - tS B n (pS B n i) = 0 := this
    omega
  · exact (U_in (n := n) (p := fun i => cL (B i)) (tS B n (pS B n i)) (tS B n (pS B n i) + k) (by omega) (by omega)).2
theorem g_new {D : DR} {i : Nat} : run (pNew B n D i) TT (fun j => j = i + 1 ∧ isNm (nmT B n i)) := run_if (fun h => run_if (fun _ => trivial) (fun _ => ⟨rfl, ltr_nm h⟩)) (fun _ => trivial)
theorem g_old {nm : Nat → List Nat} {cnt i : Nat} : run (pOld B n nm cnt i) TT (fun a => a.1 < cnt ∧ a.2 = i + 1) := run_if (fun _ => run_oE (fun _ => trivial) (fun t h => ⟨fstO_lt h, rfl⟩)) (fun _ => trivial)
theorem g_end {D : DR} {oth : Option Nat} {i : Nat} : run (pEnd B n D oth i) TT (fun a => (a.1 < D.1 0 0 ∨ a.1 = 7) ∧ oth ≠ some a.1 ∧ a.2 = i + 1) := run_if (fun _ => run_if (fun _ => trivial) (fun h => ⟨Or.inr rfl, h, rfl⟩)) (fun _ => run_if (fun _ => run_oE (fun _ => trivial) (fun t h => run_if (fun _ => trivial) (fun h2 => ⟨Or.inl (fstO_lt h), h2, rfl⟩))) (fun _ => trivial))
theorem D0_ok : okD D0 := by
  refine ⟨?_, by decide, fun i _ => ⟨rfl, rfl⟩, fun _ => rfl, fun _ _ => rfl, fun i hi => absurd hi (Nat.not_lt_zero _), fun i hi => absurd hi (Nat.not_lt_zero _), fun i hi => absurd hi (Nat.not_lt_zero _)⟩
  unfold okS D0
  refine ⟨by decide, by decide, by decide, by decide, fun i hi => absurd hi (Nat.not_lt_zero _), fun i hi => absurd hi (Nat.not_lt_zero _), fun i hi => absurd hi (Nat.not_lt_zero _), fun h _ => by simp, by decide, by decide, by decide, by decide⟩
theorem ok_addR {D : DR} {l : List Nat} {f ar be wa : Nat} (h : okD D) (hl : isNm l) (hc : D.1 0 0 < 7) (h1 : f ≤ 99) (h2 : 1 ≤ ar ∧ ar ≤ 20) (h3 : 1 ≤ be ∧ be ≤ 99) (h4 : wa ≤ 999) : okD (addR D l f ar be wa) := by
  obtain ⟨⟨a1, a2, a3, a4, a5, a6, a7, a8, a9, a10, a11, a12⟩, ⟨b1, b2, b3, b4, b5⟩, c7, c9, c14, n0, n1, n2⟩ := h
  unfold addR okD okS
  simp only [sU_at, nU, Nat.reduceEqDiff, false_and, ↓reduceIte, true_and, and_true, and_false]
  refine ⟨⟨by omega, a2, a3, a4, fun r hr => ?_, fun d hd => ?_, a7, a8, a9, a10, ?_, a12⟩, ⟨b1, b2, b3, b4, b5⟩, fun i hi => ?_, c9, c14, fun i hi => ?_, n1, n2⟩
  · by_cases e : r = D.1 0 0
    · subst e
      simp only [↓reduceIte]
      have := c7 (D.1 0 0) (Nat.le_refl _)
      have := c9 (D.1 0 0)
      omega
    · simp only [if_neg e]
      exact a5 r (by omega)
  · have := a6 d hd
    omega
  · have : 2 ^ D.1 0 0 ≤ 2 ^ (D.1 0 0 + 1) := p2le (by omega)
    omega
  · rw [if_neg (by omega)]
    exact c7 i (by omega)
  · by_cases e : i = D.1 0 0
    · rw [if_pos e]; exact hl
    · rw [if_neg e]; exact n0 i (by omega)
theorem ok_addD {D : DR} {l : List Nat} {a b s w lk : Nat} (h : okD D) (hl : isNm l) (hc : D.1 1 0 < 10) (h0 : a < D.1 0 0 ∨ a = 7) (h1 : b < D.1 0 0 ∨ b = 7) (h2 : a ≠ b) (h3 : s ≤ 99) (h4 : 1 ≤ w ∧ w ≤ 9) (h5 : lk ≤ 9) : okD (addD D l a b s w lk) := by
  obtain ⟨⟨a1, a2, a3, a4, a5, a6, a7, a8, a9, a10, a11, a12⟩, ⟨b1, b2, b3, b4, b5⟩, c7, c9, c14, n0, n1, n2⟩ := h
  have hp : 2 ^ D.1 1 0 ≤ 2 ^ (D.1 1 0 + 1) := p2le (by omega)
  unfold addD okD okS
  simp only [sU_at, nU, Nat.reduceEqDiff, false_and, ↓reduceIte, true_and, and_true, and_false]
  refine ⟨⟨a1, by omega, a3, a4, a5, fun d hd => ?_, fun e he => ?_, fun k hk => ?_, ?_, ?_, a11, a12⟩, ⟨b1, b2, b3, b4, b5⟩, c7, c9, fun i hi => ?_, n0, fun i hi => ?_, n2⟩
  · by_cases e : d = D.1 1 0
    · subst e
      simp only [↓reduceIte]
      omega
    · simp only [if_neg e]
      exact a6 d (by omega)
  · have := a7 e he
    omega
  · have := a8 k hk
    omega
  · omega
  · omega
  · rw [if_neg (by omega)]
    exact c14 i (by omega)
  · by_cases e : i = D.1 1 0
    · rw [if_pos e]; exact hl
    · rw [if_neg e]; exact n1 i (by omega)
theorem ok_addE {D : DR} {l : List Nat} {d f t : Nat} (h : okD D) (hl : isNm l) (hc : D.1 2 0 < 4) (h0 : d < D.1 1 0) (h1 : f ≤ t) (h2 : t ≤ 11) : okD (addE D l d f t) := by
  obtain ⟨⟨a1, a2, a3, a4, a5, a6, a7, a8, a9, a10, a11, a12⟩, ⟨b1, b2, b3, b4, b5⟩, c7, c9, c14, n0, n1, n2⟩ := h
  unfold addE okD okS
  simp only [sU_at, nU, Nat.reduceEqDiff, false_and, ↓reduceIte, true_and, and_true, and_false]
  refine ⟨⟨a1, a2, by omega, a4, a5, a6, fun e he => ?_, a8, a9, a10, a11, a12⟩, ⟨b1, b2, b3, b4, b5⟩, c7, c9, c14, n0, n1, fun i hi => ?_⟩
  · by_cases g : e = D.1 2 0
    · subst g
      simp only [↓reduceIte]
      omega
    · simp only [if_neg g]
      exact a7 e (by omega)
  · by_cases e : i = D.1 2 0
    · rw [if_pos e]; exact hl
    · rw [if_neg e]; exact n2 i (by omega)
theorem ok_tide {D : DR} {k v : Nat} (h : okD D) (hk : k < 12) (hv : v ≤ 99) : okD (sU D.1 18 k v, D.2) := by
  obtain ⟨⟨a1, a2, a3, a4, a5, a6, a7, a8, a9, a10, a11, a12⟩, ⟨b1, b2, b3, b4, b5⟩, c7, c9, c14, n0, n1, n2⟩ := h
  unfold okD okS
  simp only [sU_at, Nat.reduceEqDiff, false_and, ↓reduceIte, true_and]
  refine ⟨⟨a1, a2, a3, a4, a5, a6, a7, fun j hj => ⟨?_, (a8 j hj).2⟩, a9, a10, a11, a12⟩, ⟨b1, b2, b3, b4, b5⟩, c7, c9, c14, n0, n1, n2⟩
  by_cases e : j = k
  · rw [if_pos e]; exact hv
  · rw [if_neg e]; exact (a8 j hj).1
theorem ok_pump {D : DR} {k v : Nat} (h : okD D) (hk : k < D.1 0 0) (hv : v ≤ 99) : okD (sU D.1 7 k v, D.2) := by
  obtain ⟨⟨a1, a2, a3, a4, a5, a6, a7, a8, a9, a10, a11, a12⟩, ⟨b1, b2, b3, b4, b5⟩, c7, c9, c14, n0, n1, n2⟩ := h
  unfold okD okS
  simp only [sU_at, Nat.reduceEqDiff, false_and, ↓reduceIte, true_and]
  refine ⟨⟨a1, a2, a3, a4, fun j hj => ?_, a6, a7, a8, a9, a10, a11, a12⟩, ⟨b1, b2, b3, b4, b5⟩, fun i hi => ?_, c9, c14, n0, n1, n2⟩
  · have := a5 j hj
    by_cases e : j = k
    · rw [if_pos e]; omega
    · rw [if_neg e]; exact this
  · rw [if_neg (by omega)]
    exact c7 i hi
theorem ok_rota {D : DR} {k d : Nat} (h : okD D) (hk : k < 12) (hd : d < D.1 1 0) : okD (sU D.1 19 k (D.1 19 k ||| 2 ^ d), D.2) := by
  obtain ⟨⟨a1, a2, a3, a4, a5, a6, a7, a8, a9, a10, a11, a12⟩, ⟨b1, b2, b3, b4, b5⟩, c7, c9, c14, n0, n1, n2⟩ := h
  unfold okD okS
  simp only [sU_at, Nat.reduceEqDiff, false_and, ↓reduceIte, true_and]
  refine ⟨⟨a1, a2, a3, a4, a5, a6, a7, fun j hj => ⟨(a8 j hj).1, ?_⟩, a9, a10, a11, a12⟩, ⟨b1, b2, b3, b4, b5⟩, c7, c9, c14, n0, n1, n2⟩
  by_cases e : j = k
  · rw [if_pos e]; exact or_lt2 (a8 k hk).2 (Nat.pow_lt_pow_right (by omega) hd)
  · rw [if_neg e]; exact (a8 j hj).2
theorem g_one {D : DR} {i : Nat} (h : okD D) : run (pOne B n D i) TT (fun a => okD a.1 ∧ i < a.2) := by
  refine run_if (fun _ => run_if (fun _ => trivial) (fun hc => ?_)) (fun _ => run_if (fun _ => run_if (fun _ => trivial) (fun hc => ?_)) (fun _ => run_if (fun _ => ?_) (fun _ => run_if (fun _ => ?_) (fun _ => run_if (fun _ => ?_) (fun _ => run_if (fun _ => run_if (fun _ => trivial) (fun hc => ?_)) (fun _ => trivial))))))
  · simp only [run_bnd, run_ok]
    refine run_mono g_new (fun _ _ x => x) (fun a ha => run_mono g_word (fun _ _ x => x) (fun b hb => run_mono g_num (fun _ _ x => x) (fun f hf => run_mono (g_numB (by omega) (by omega)) (fun _ _ x => x) (fun ar har => run_mono (g_numB (by omega) (by omega)) (fun _ _ x => x) (fun be hbe => run_mono (g_numB (by omega) (by omega)) (fun _ _ x => x) (fun wa hwa => ?_))))))
    exact ⟨ok_addR h ha.2 (by omega) hf.2.1 ⟨har.1, har.2.1⟩ ⟨hbe.1, hbe.2.1⟩ hwa.2.1, by omega⟩
  · simp only [run_bnd, run_ok]
    refine run_mono g_new (fun _ _ x => x) (fun a ha => run_mono g_word (fun _ _ x => x) (fun b hb => run_mono g_end (fun _ _ x => x) (fun e he => run_mono g_word (fun _ _ x => x) (fun c hcc => run_mono g_end (fun _ _ x => x) (fun g hg => run_mono g_word (fun _ _ x => x) (fun d hd => run_mono g_num (fun _ _ x => x) (fun s hs => run_mono (g_numB (by omega) (by omega)) (fun _ _ x => x) (fun w hw => run_mono (g_numB (by omega) (by omega)) (fun _ _ x => x) (fun l hl => ?_)))))))))
    exact ⟨ok_addD h ha.2 (by omega) he.1 hg.1 (fun z => hg.2.1 (by rw [z])) hs.2.1 ⟨hw.1, hw.2.1⟩ hl.2.1, by omega⟩
  · simp only [pTide, run_bnd, run_ok]
    refine run_mono g_num (fun _ _ x => x) (fun k hk => run_mono g_num (fun _ _ x => x) (fun v hv => ?_))
    exact ⟨ok_tide h (by omega) hv.2.1, by omega⟩
  · simp only [pPump, run_bnd, run_ok]
    refine run_mono g_old (fun _ _ x => x) (fun k hk => run_mono g_num (fun _ _ x => x) (fun v hv => ?_))
    exact ⟨ok_pump h hk.1 hv.2.1, by omega⟩
  · simp only [pRota, run_bnd, run_ok]
    refine run_mono g_num (fun _ _ x => x) (fun k hk => run_mono g_old (fun _ _ x => x) (fun v hv => ?_))
    exact ⟨ok_rota h (by omega) hv.1, by omega⟩
  · simp only [run_bnd, run_ok]
    refine run_mono g_new (fun _ _ x => x) (fun a ha => run_mono g_word (fun _ _ x => x) (fun b hb => run_mono g_old (fun _ _ x => x) (fun d hd => run_mono g_word (fun _ _ x => x) (fun c hcc => run_mono g_num (fun _ _ x => x) (fun f hf => run_mono g_word (fun _ _ x => x) (fun e he => run_mono g_num (fun _ _ x => x) (fun t ht => ?_)))))))
    exact ⟨ok_addE h ha.2 (by omega) hd.1 ht.1 ht.2.1, by omega⟩
theorem g_part {D : DR} {i : Nat} (h : okD D) : run (pPart B n D i) TT (fun a => okD a.1 ∧ i < a.2) := by
  unfold pPart
  simp only [run_bnd, run_ok]
  exact run_mono (g_one h) (fun _ _ x => x) (fun a ha => run_mono g_stop (fun _ _ x => x) (fun j hj => ⟨ha.1, by omega⟩))
theorem rch_ge : ∀ i, rch B n i → i ≤ pS B n i := by
  intro i
  induction i with
  | zero => intro _; exact Nat.le_refl _
  | succ i ih =>
    intro h
    have h1 := ih (rch_dn h (by omega))
    have h2 := (h i (by omega)).1
    have h3 : tS B n (pS B n i) < n := by
      have : ¬ n ≤ tS B n (pS B n i) := by rw [← tK_0]; exact h2
      omega
    have h4 := tE_lt h3
    have h5 := tS_le (B := B) (n := n) (pS B n i)
    show i + 1 ≤ tE B n (pS B n i)
    omega
theorem rch_end {i : Nat} (h : rch B n i) (hi : n ≤ i) : tK B n (pS B n i) = 0 := by
  rw [tK_0]
  have h1 := rch_ge i h
  have h5 := tS_le (B := B) (n := n) (pS B n i)
  omega
end PARSE
