/-! ===== texts as tokens, purely ===== -/
def unt (p : Nat → Bool) (n : Nat) : Nat → Nat → Nat
  | 0, i => i
  | f + 1, i => if i < n ∧ p i = true then unt p n f (i + 1) else i
/-- from i on the first where p isn't, or n -/
def U (p : Nat → Bool) (n i : Nat) : Nat := unt p n (n - i) i
def cL (c : Nat) : Bool := decide (97 ≤ c) && decide (c ≤ 122)
def cDg (c : Nat) : Bool := decide (48 ≤ c) && decide (c ≤ 57)
def cBl (c : Nat) : Bool := decide (c = 10) || decide (c = 32)
def cSg (c : Nat) : Bool := decide (c = 59) || (decide (c = 60) || (decide (c = 62) || decide (c = 61)))
def sb (c : Nat) : Int32 := (nI c).toInt8.toInt32
/-- a token that begins somewhere behind p: where, its sort (0 end, 1 word, 2 number, 3 sign, 4 none), where it ends -/
def tS (B : Nat → Nat) (n p : Nat) : Nat := U (fun i => cBl (B i)) n p
def tK (B : Nat → Nat) (n p : Nat) : Nat :=
  if n ≤ tS B n p then 0 else if cL (B (tS B n p)) then 1 else if cDg (B (tS B n p)) then (if U (fun i => cDg (B i)) n (tS B n p) - tS B n p ≤ 4 then 2 else 4) else if cSg (B (tS B n p)) then 3 else 4
def tE (B : Nat → Nat) (n p : Nat) : Nat :=
  if n ≤ tS B n p then tS B n p else if cL (B (tS B n p)) then U (fun i => cL (B i)) n (tS B n p) else if cDg (B (tS B n p)) then U (fun i => cDg (B i)) n (tS B n p) else tS B n p + 1
def pS (B : Nat → Nat) (n : Nat) : Nat → Nat
  | 0 => 0
  | i + 1 => tE B n (pS B n i)
/-- bytes from p on, m of them -/
def seg (B : Nat → Nat) (p : Nat) : Nat → List Nat
  | 0 => []
  | m + 1 => seg B p m ++ [B (p + m)]
def dg (B : Nat → Nat) (p : Nat) : Nat → Nat
  | 0 => 0
  | m + 1 => dg B p m * 10 + (B (p + m) - 48)
section TOK
variable {B : Nat → Nat} {n : Nat} {u u' u0 : xM}
theorem unt_s (p : Nat → Bool) (n f i : Nat) : unt p n (f + 1) i = if i < n ∧ p i = true then unt p n f (i + 1) else i := rfl
theorem U_s {p : Nat → Bool} {i : Nat} (h : i < n) (hp : p i = true) : U p n i = U p n (i + 1) := by
  unfold U
  obtain ⟨d, hd⟩ : ∃ d, n - i = d + 1 := ⟨n - i - 1, by omega⟩
  rw [hd, show n - (i + 1) = d by omega, unt_s, if_pos ⟨h, hp⟩]
theorem U_n {p : Nat → Bool} {i : Nat} (h : n ≤ i ∨ p i = false) : U p n i = i := by
  unfold U
  cases hd : n - i with
  | zero => rfl
  | succ d =>
    unfold unt
    rw [if_neg]
    rintro ⟨a, b⟩
    rcases h with h | h
    · omega
    · rw [h] at b; exact absurd b (by decide)
theorem U_le {p : Nat → Bool} (i : Nat) : i ≤ U p n i := by
  unfold U
  generalize hd : n - i = d
  induction d generalizing i with
  | zero => exact Nat.le_refl _
  | succ d ih =>
    unfold unt
    split
    · have := ih (i + 1) (by omega)
      omega
    · exact Nat.le_refl _
theorem U_ln {p : Nat → Bool} (i : Nat) (hi : i ≤ n) : U p n i ≤ n := by
  unfold U
  generalize hd : n - i = d
  induction d generalizing i with
  | zero => exact hi
  | succ d ih =>
    unfold unt
    split
    · exact ih (i + 1) (by omega) (by omega)
    · exact hi
theorem U_in {p : Nat → Bool} (i : Nat) : ∀ j, i ≤ j → j < U p n i → j < n ∧ p j = true := by
  unfold U
  generalize hd : n - i = d
  induction d generalizing i with
  | zero =>
    intro j h1 h2
    have : j < i := h2
    omega
  | succ d ih =>
    intro j h1 h2
    unfold unt at h2
    split at h2
    · rename_i c
      by_cases e : j = i
      · subst e; exact c
      · exact ih (i + 1) (by omega) j (by omega) h2
    · omega
theorem U_end {p : Nat → Bool} (i : Nat) : n ≤ U p n i ∨ p (U p n i) = false := by
  unfold U
  generalize hd : n - i = d
  induction d generalizing i with
  | zero => left; show n ≤ i; omega
  | succ d ih =>
    unfold unt
    split
    · exact ih (i + 1) (by omega)
    · rename_i c
      by_cases h : n ≤ i
      · exact Or.inl h
      · right
        cases e : p i with
        | false => rfl
        | true => exact absurd ⟨by omega, e⟩ c
theorem tS_ln {p : Nat} (hp : p ≤ n) : tS B n p ≤ n := U_ln p hp
theorem tS_le (p : Nat) : p ≤ tS B n p := U_le p
theorem tE_ln {p : Nat} (hp : p ≤ n) : tE B n p ≤ n := by
  have h := tS_ln (B := B) hp
  unfold tE
  split
  · exact h
  · split
    · exact U_ln _ h
    · split
      · exact U_ln _ h
      · omega
theorem tE_lt {p : Nat} (h : tS B n p < n) : tS B n p < tE B n p := by
  unfold tE
  rw [if_neg (by omega)]
  split
  · rename_i c
    rw [U_s h c]
    exact Nat.lt_of_lt_of_le (Nat.lt_succ_self _) (U_le _)
  · split
    · rename_i c
      rw [U_s h c]
      exact Nat.lt_of_lt_of_le (Nat.lt_succ_self _) (U_le _)
    · omega
theorem pS_ln (i : Nat) : pS B n i ≤ n := by
  induction i with
  | zero => exact Nat.zero_le _
  | succ i ih => exact tE_ln ih
theorem tK_0 {p : Nat} : (tK B n p = 0) = (n ≤ tS B n p) := by
  unfold tK
  apply propext
  constructor
  · intro h
    by_cases c : n ≤ tS B n p
    · exact c
    · rw [if_neg c] at h
      split at h
      · exact absurd h (by decide)
      · split at h
        · split at h
          · exact absurd h (by decide)
          · exact absurd h (by decide)
        · split at h
          · exact absurd h (by decide)
          · exact absurd h (by decide)
  · intro h
    rw [if_pos h]
theorem sbC_all : ((List.range 256).all fun c => (decide (sb c = 10) == decide (c = 10)) && (decide (sb c = 32) == decide (c = 32)) && (decide (sb c < 97) == (decide (c < 97) || decide (128 ≤ c))) && (decide (122 < sb c) == (decide (122 < c) && decide (c < 128))) && (decide (sb c < 48) == (decide (c < 48) || decide (128 ≤ c))) && (decide (57 < sb c) == (decide (57 < c) && decide (c < 128))) && (decide (sb c = 59) == decide (c = 59)) && (decide (sb c = 60) == decide (c = 60)) && (decide (sb c = 62) == decide (c = 62)) && (decide (sb c = 61) == decide (c = 61)) && (decide (128 ≤ c) || decide (sb c = nI c)) && decide (sb c &&& 255 = nI c)) = true := by decide +kernel
theorem d_or {P A C : Prop} [Decidable P] [Decidable A] [Decidable C] (h : decide P = (decide A || decide C)) : P = (A ∨ C) := by
  apply propext
  constructor
  · intro p
    have : (decide A || decide C) = true := by rw [← h]; exact decide_eq_true p
    simpa using this
  · intro hab
    have : decide P = true := by rw [h]; simpa using hab
    exact of_decide_eq_true this
theorem d_and {P A C : Prop} [Decidable P] [Decidable A] [Decidable C] (h : decide P = (decide A && decide C)) : P = (A ∧ C) := by
  apply propext
  constructor
  · intro p
    have : (decide A && decide C) = true := by rw [← h]; exact decide_eq_true p
    simpa using this
  · intro hab
    have : decide P = true := by rw [h]; simpa using hab
    exact of_decide_eq_true this
theorem sbC {c : Nat} (h : c < 256) : ((sb c = 10) = (c = 10)) ∧ ((sb c = 32) = (c = 32)) ∧ ((sb c < 97) = (c < 97 ∨ 128 ≤ c)) ∧ ((122 < sb c) = (122 < c ∧ c < 128)) ∧ ((sb c < 48) = (c < 48 ∨ 128 ≤ c)) ∧ ((57 < sb c) = (57 < c ∧ c < 128)) ∧ ((sb c = 59) = (c = 59)) ∧ ((sb c = 60) = (c = 60)) ∧ ((sb c = 62) = (c = 62)) ∧ ((sb c = 61) = (c = 61)) ∧ (c < 128 → sb c = nI c) ∧ sb c &&& 255 = nI c := by
  have a := List.all_eq_true.mp sbC_all c (List.mem_range.mpr h)
  simp only [Bool.and_eq_true, beq_iff_eq, Bool.or_eq_true, decide_eq_true_eq] at a
  obtain ⟨⟨⟨⟨⟨⟨⟨⟨⟨⟨⟨a1, a2⟩, a3⟩, a4⟩, a5⟩, a6⟩, a7⟩, a8⟩, a9⟩, a10⟩, a11⟩, a12⟩ := a
  refine ⟨?_, ?_, ?_, ?_, ?_, ?_, ?_, ?_, ?_, ?_, ?_, a12⟩
  · exact propext (by simpa using a1)
  · exact propext (by simpa using a2)
  · exact d_or a3
  · exact d_and a4
  · exact d_or a5
  · exact d_and a6
  · exact propext (by simpa using a7)
  · exact propext (by simpa using a8)
  · exact propext (by simpa using a9)
  · exact propext (by simpa using a10)
  · intro hc
    rcases a11 with z | z
    · omega
    · exact z
theorem k_isBlank {c : Nat} {Q : Bool → xM → Prop} (hc : c < 256) (hq : Q (cBl c) u) : p_X8_isBlank (sb c) u Q := by
  have h := sbC hc
  unfold p_X8_isBlank
  unfold cBl at hq
  rw [h.1, h.2.1]
  refine ⟨fun z => ?_, fun z => ⟨fun z2 => ?_, fun z2 => ?_⟩⟩
  · rw [decide_eq_true z, Bool.true_or] at hq; exact hq
  · rw [decide_eq_false z, decide_eq_false z2] at hq; exact hq
  · rw [decide_eq_false z, decide_eq_true z2] at hq; exact hq
theorem k_isLetter {c : Nat} {Q : Bool → xM → Prop} (hc : c < 256) (hq : Q (cL c) u) : p_X8_isLetter (sb c) u Q := by
  have h := sbC hc
  unfold p_X8_isLetter
  unfold cL at hq
  rw [h.2.2.1, h.2.2.2.1]
  refine ⟨fun z => ?_, fun z => ⟨fun z2 => ?_, fun z2 => ?_⟩⟩
  · by_cases y : 97 ≤ c
    · rw [decide_eq_true y, decide_eq_false (show ¬ c ≤ 122 by omega)] at hq; exact hq
    · rw [decide_eq_false y] at hq; exact hq
  · rw [decide_eq_false (show ¬ c ≤ 122 by omega), Bool.and_false] at hq; exact hq
  · rw [decide_eq_true (show 97 ≤ c by omega), decide_eq_true (show c ≤ 122 by omega)] at hq; exact hq
theorem k_isDigit {c : Nat} {Q : Bool → xM → Prop} (hc : c < 256) (hq : Q (cDg c) u) : p_X8_isDigit (sb c) u Q := by
  have h := sbC hc
  unfold p_X8_isDigit
  unfold cDg at hq
  rw [h.2.2.2.2.1, h.2.2.2.2.2.1]
  refine ⟨fun z => ?_, fun z => ⟨fun z2 => ?_, fun z2 => ?_⟩⟩
  · by_cases y : 48 ≤ c
    · rw [decide_eq_true y, decide_eq_false (show ¬ c ≤ 57 by omega)] at hq; exact hq
    · rw [decide_eq_false y] at hq; exact hq
  · rw [decide_eq_false (show ¬ c ≤ 57 by omega), Bool.and_false] at hq; exact hq
  · rw [decide_eq_true (show 48 ≤ c by omega), decide_eq_true (show c ≤ 57 by omega)] at hq; exact hq
theorem k_isSign {c : Nat} {Q : Bool → xM → Prop} (hc : c < 256) (hq : Q (cSg c) u) : p_X8_isSign (sb c) u Q := by
  have h := sbC hc
  unfold p_X8_isSign
  unfold cSg at hq
  rw [h.2.2.2.2.2.2.1, h.2.2.2.2.2.2.2.1, h.2.2.2.2.2.2.2.2.1, h.2.2.2.2.2.2.2.2.2.1]
  refine ⟨fun z => ?_, fun z => ⟨fun z2 => ?_, fun z2 => ⟨fun z3 => ?_, fun z3 => ⟨fun z4 => ?_, fun z4 => ?_⟩⟩⟩⟩
  · rw [decide_eq_true z, Bool.true_or] at hq; exact hq
  · rw [decide_eq_false z, decide_eq_true z2] at hq; exact hq
  · rw [decide_eq_false z, decide_eq_false z2, decide_eq_true z3] at hq; exact hq
  · rw [decide_eq_false z, decide_eq_false z2, decide_eq_false z3, decide_eq_false z4] at hq; exact hq
  · rw [decide_eq_false z, decide_eq_false z2, decide_eq_false z3, decide_eq_true z4] at hq; exact hq
/-! letters together -/
theorem c5_app (l : List Nat) (c : Nat) : c5 (l ++ [c]) = c5 l * 32 + (c - 96) := by
  unfold c5
  rw [List.foldl_append]
  rfl
theorem c8_app (l : List Nat) (c : Nat) : c8 (l ++ [c]) = c8 l * 256 + c := by
  unfold c8
  rw [List.foldl_append]
  rfl
theorem seg_len (p m : Nat) : (seg B p m).length = m := by
  induction m with
  | zero => rfl
  | succ m ih =>
    unfold seg
    rw [List.length_append, ih]
    rfl
def r5 : List Nat → Nat
  | [] => 0
  | c :: l => r5 l * 32 + (c - 96)
def r8 : List Nat → Nat
  | [] => 0
  | c :: l => r8 l * 256 + c
theorem c5_r (l : List Nat) : c5 l.reverse = r5 l := by
  induction l with
  | nil => rfl
  | cons c l ih => rw [List.reverse_cons, c5_app, ih]; rfl
theorem c8_r (l : List Nat) : c8 l.reverse = r8 l := by
  induction l with
  | nil => rfl
  | cons c l ih => rw [List.reverse_cons, c8_app, ih]; rfl
theorem r5_lt : ∀ l : List Nat, (∀ c ∈ l, 97 ≤ c ∧ c ≤ 122) → r5 l < 32 ^ l.length := by
  intro l
  induction l with
  | nil => intro _; decide
  | cons c l ih =>
    intro h
    have h1 := ih (fun x hx => h x (List.mem_cons_of_mem _ hx))
    have h2 := h c (List.mem_cons_self ..)
    show r5 l * 32 + (c - 96) < 32 ^ (l.length + 1)
    rw [Nat.pow_succ]
    omega
theorem r8_lt : ∀ l : List Nat, (∀ c ∈ l, 97 ≤ c ∧ c ≤ 122) → r8 l < 256 ^ l.length := by
  intro l
  induction l with
  | nil => intro _; decide
  | cons c l ih =>
    intro h
    have h1 := ih (fun x hx => h x (List.mem_cons_of_mem _ hx))
    have h2 := h c (List.mem_cons_self ..)
    show r8 l * 256 + c < 256 ^ (l.length + 1)
    rw [Nat.pow_succ]
    omega
theorem r5_inj : ∀ l l' : List Nat, (∀ c ∈ l, 97 ≤ c ∧ c ≤ 122) → (∀ c ∈ l', 97 ≤ c ∧ c ≤ 122) → r5 l = r5 l' → l = l' := by
  intro l
  induction l with
  | nil =>
    intro l' _ h' e
    cases l' with
    | nil => rfl
    | cons c l' =>
      have h2 := h' c (List.mem_cons_self ..)
      have e : 0 = r5 l' * 32 + (c - 96) := e
      omega
  | cons c l ih =>
    intro l' h h' e
    have h2 := h c (List.mem_cons_self ..)
    cases l' with
    | nil =>
      have e : r5 l * 32 + (c - 96) = 0 := e
      omega
    | cons c' l' =>
      have h3 := h' c' (List.mem_cons_self ..)
      have e : r5 l * 32 + (c - 96) = r5 l' * 32 + (c' - 96) := e
      have e1 : c = c' := by omega
      have e2 : r5 l = r5 l' := by omega
      rw [e1, ih l' (fun x hx => h x (List.mem_cons_of_mem _ hx)) (fun x hx => h' x (List.mem_cons_of_mem _ hx)) e2]
theorem r8_inj : ∀ l l' : List Nat, (∀ c ∈ l, 97 ≤ c ∧ c ≤ 122) → (∀ c ∈ l', 97 ≤ c ∧ c ≤ 122) → r8 l = r8 l' → l = l' := by
  intro l
  induction l with
  | nil =>
    intro l' _ h' e
    cases l' with
    | nil => rfl
    | cons c l' =>
      have h2 := h' c (List.mem_cons_self ..)
      have e : 0 = r8 l' * 256 + c := e
      omega
  | cons c l ih =>
    intro l' h h' e
    have h2 := h c (List.mem_cons_self ..)
    cases l' with
    | nil =>
      have e : r8 l * 256 + c = 0 := e
      omega
    | cons c' l' =>
      have h3 := h' c' (List.mem_cons_self ..)
      have e : r8 l * 256 + c = r8 l' * 256 + c' := e
      have e1 : c = c' := by omega
      have e2 : r8 l = r8 l' := by omega
      rw [e1, ih l' (fun x hx => h x (List.mem_cons_of_mem _ hx)) (fun x hx => h' x (List.mem_cons_of_mem _ hx)) e2]
def lows (l : List Nat) : Prop := ∀ c ∈ l, 97 ≤ c ∧ c ≤ 122
theorem c5_inj {l l' : List Nat} (h : lows l) (h' : lows l') (e : c5 l = c5 l') : l = l' := by
  have e1 := c5_r l.reverse
  have e2 := c5_r l'.reverse
  rw [List.reverse_reverse] at e1 e2
  have := r5_inj l.reverse l'.reverse (fun c hc => h c (List.mem_reverse.mp hc)) (fun c hc => h' c (List.mem_reverse.mp hc)) (by rw [← e1, ← e2, e])
  exact List.reverse_inj.mp this
theorem c8_inj {l l' : List Nat} (h : lows l) (h' : lows l') (e : c8 l = c8 l') : l = l' := by
  have e1 := c8_r l.reverse
  have e2 := c8_r l'.reverse
  rw [List.reverse_reverse] at e1 e2
  have := r8_inj l.reverse l'.reverse (fun c hc => h c (List.mem_reverse.mp hc)) (fun c hc => h' c (List.mem_reverse.mp hc)) (by rw [← e1, ← e2, e])
  exact List.reverse_inj.mp this
theorem c5_lt {l : List Nat} (h : lows l) (hl : l.length ≤ 8) : c5 l < 1099511627776 := by
  have e1 := c5_r l.reverse
  rw [List.reverse_reverse] at e1
  have h1 := r5_lt l.reverse (fun c hc => h c (List.mem_reverse.mp hc))
  rw [List.length_reverse] at h1
  have h2 : 32 ^ l.length ≤ 32 ^ 8 := Nat.pow_le_pow_right (by omega) hl
  have h3 : (32 : Nat) ^ 8 = 1099511627776 := by decide
  omega
theorem c8_lt {l : List Nat} (h : lows l) (hl : l.length ≤ 8) : c8 l < 18446744073709551616 := by
  have e1 := c8_r l.reverse
  rw [List.reverse_reverse] at e1
  have h1 := r8_lt l.reverse (fun c hc => h c (List.mem_reverse.mp hc))
  rw [List.length_reverse] at h1
  have h2 : 256 ^ l.length ≤ 256 ^ 8 := Nat.pow_le_pow_right (by omega) hl
  have h3 : (256 : Nat) ^ 8 = 18446744073709551616 := by decide
  omega
theorem c5_pos {l : List Nat} (h : lows l) (h0 : l ≠ []) : 0 < c5 l := by
  by_cases z : c5 l = 0
  · exact absurd (c5_inj (l' := []) h (fun c hc => absurd hc List.not_mem_nil) (by rw [z]; rfl)) h0
  · omega
theorem oN_inj {a b : Nat} (ha : a < 18446744073709551616) (hb : b < 18446744073709551616) (e : Int64.ofNat a = Int64.ofNat b) : a = b := by
  have e2 := congrArg (fun z => z.toBitVec.toNat) e
  simp only [Int64.toBitVec_ofNat', BitVec.toNat_ofNat] at e2
  omega
theorem nm5 {a b a' b' : Int64} (h : nmR a b) (h' : nmR a' b') : (a = a') = (b = b') := by
  obtain ⟨l, h1, rfl, rfl⟩ := h
  obtain ⟨l', h1', rfl, rfl⟩ := h'
  apply propext
  have q1 := c5_lt h1.2.2 h1.2.1
  have q2 := c5_lt h1'.2.2 h1'.2.1
  constructor
  · intro e
    rw [c5_inj h1.2.2 h1'.2.2 (oN_inj (by omega) (by omega) e)]
  · intro e
    rw [c8_inj h1.2.2 h1'.2.2 (oN_inj (c8_lt h1.2.2 h1.2.1) (c8_lt h1'.2.2 h1'.2.1) e)]
end TOK
