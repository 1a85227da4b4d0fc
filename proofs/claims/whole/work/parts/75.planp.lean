/-! ===== plans: an hour for each errand, four bits each ===== -/
def nb (c e : Nat) : Nat := (c >>> (4 * (3 - e))) % 16
def dN (p : Nat → Bool) (D : Nat → Nat) : Nat → Nat
  | 0 => 0
  | n + 1 => dN p D n ||| (if p n then 2 ^ (D n) else 0)
def hO (now hour : Nat) : Nat → Nat
  | 0 => 0
  | n + 1 => hO now hour n ||| (if now.testBit n then hour * 2 ^ (4 * (3 - n)) else 0)
section PLANP
variable {σ τ ρ θ : aS}
theorem nb_lt (c e : Nat) : nb c e < 16 := Nat.mod_lt _ (by omega)
theorem nb0 (c : Nat) : nb c 0 = c / 4096 % 16 := by unfold nb; rw [Nat.shiftRight_eq_div_pow]
theorem nb1 (c : Nat) : nb c 1 = c / 256 % 16 := by unfold nb; rw [Nat.shiftRight_eq_div_pow]
theorem nb2 (c : Nat) : nb c 2 = c / 16 % 16 := by unfold nb; rw [Nat.shiftRight_eq_div_pow]
theorem nb3 (c : Nat) : nb c 3 = c % 16 := by unfold nb; rw [Nat.shiftRight_eq_div_pow]; simp
theorem nb_sum {c : Nat} (h : c < 65536) : c = 4096 * nb c 0 + 256 * nb c 1 + 16 * nb c 2 + nb c 3 := by
  rw [nb0, nb1, nb2, nb3]
  omega
theorem nb_ext {c c' : Nat} (h1 : c < 65536) (h2 : c' < 65536) (h : ∀ e, e < 4 → nb c e = nb c' e) : c = c' := by
  rw [nb_sum h1, nb_sum h2, h 0 (by omega), h 1 (by omega), h 2 (by omega), h 3 (by omega)]
theorem nb_or (p q e : Nat) : nb (p ||| q) e = nb p e ||| nb q e := by
  unfold nb
  rw [Nat.shiftRight_or_distrib, show (16 : Nat) = 2 ^ 4 from rfl, Nat.or_mod_two_pow]
theorem hO_all : ((List.range 5).all fun ne => (List.range 16).all fun now => (List.range 12).all fun h => decide (hO now h ne < 65536) && (List.range 4).all fun e => decide (nb (hO now h ne) e = if e < ne ∧ now.testBit e = true then h else 0)) = true := by decide +kernel
theorem hO_at {ne now h e : Nat} (h1 : ne ≤ 4) (h2 : now < 16) (h3 : h < 12) (h4 : e < 4) : nb (hO now h ne) e = if e < ne ∧ now.testBit e = true then h else 0 := by
  have a := List.all_eq_true.mp hO_all ne (List.mem_range.mpr (by omega))
  have b := List.all_eq_true.mp a now (List.mem_range.mpr h2)
  have c := List.all_eq_true.mp b h (List.mem_range.mpr h3)
  rw [Bool.and_eq_true] at c
  exact of_decide_eq_true (List.all_eq_true.mp c.2 e (List.mem_range.mpr h4))
theorem hO_lt {ne now h : Nat} (h1 : ne ≤ 4) (h2 : now < 16) (h3 : h < 12) : hO now h ne < 65536 := by
  have a := List.all_eq_true.mp hO_all ne (List.mem_range.mpr (by omega))
  have b := List.all_eq_true.mp a now (List.mem_range.mpr h2)
  have c := List.all_eq_true.mp b h (List.mem_range.mpr h3)
  rw [Bool.and_eq_true] at c
  exact of_decide_eq_true c.1
theorem dN_congr {p q : Nat → Bool} {D : Nat → Nat} {n : Nat} (h : ∀ e, e < n → p e = q e) : dN p D n = dN q D n := by
  induction n with
  | zero => rfl
  | succ n ih =>
    unfold dN
    rw [ih (fun e he => h e (by omega)), h n (by omega)]
theorem dN_lt {p : Nat → Bool} {D : Nat → Nat} {n m : Nat} (h : ∀ e, e < n → D e < m) : dN p D n < 2 ^ m := by
  induction n with
  | zero => exact Nat.two_pow_pos _
  | succ n ih =>
    unfold dN
    refine or_lt2 (ih (fun e he => h e (by omega))) ?_
    split
    · exact p2lt (h n (by omega))
    · exact Nat.two_pow_pos _
/-! the best of those seen -/
def kle (D W : Nat → Nat) (b c : Nat) : Prop := D b < D c ∨ (D b = D c ∧ (W b < W c ∨ (W b = W c ∧ b ≤ c)))
def BST (D W : Nat → Nat) (S : Nat → Prop) (acc : Option Nat) : Prop := (acc = none → ∀ c, ¬ S c) ∧ ∀ b, acc = some b → S b ∧ ∀ c, S c → kle D W b c
theorem BST.uniq {D W : Nat → Nat} {S : Nat → Prop} {a b : Nat} (h : BST D W S (some a)) (h' : BST D W S (some b)) : a = b := by
  have h1 := (h.2 a rfl).2 b (h'.2 b rfl).1
  have h2 := (h'.2 b rfl).2 a (h.2 a rfl).1
  unfold kle at h1 h2
  omega
theorem BST.iff {D W : Nat → Nat} {S T : Nat → Prop} {acc : Option Nat} (h : BST D W S acc) (e : ∀ c, S c ↔ T c) : BST D W T acc := ⟨fun a c hc => h.1 a c ((e c).mpr hc), fun b hb => ⟨(e b).mp (h.2 b hb).1, fun c hc => (h.2 b hb).2 c ((e c).mpr hc)⟩⟩
def wgB (D W : Nat → Nat) (c : Nat) (acc : Option Nat) : Prop := ∀ b, acc = some b → D c < D b ∨ (D c = D b ∧ (W c < W b ∨ (W c = W b ∧ c < b)))
theorem BST.take {D W : Nat → Nat} {S : Nat → Prop} {acc : Option Nat} {c : Nat} (h : BST D W S acc) (hb : wgB D W c acc) : BST D W (fun x => S x ∨ x = c) (some c) := by
  refine ⟨fun z => (nomatch z), fun b e => ?_⟩
  obtain rfl := Option.some.inj e
  refine ⟨Or.inr rfl, fun x hx => ?_⟩
  rcases hx with hx | rfl
  · cases acc with
    | none => exact absurd hx (h.1 rfl x)
    | some b =>
      have h1 := (h.2 b rfl).2 x hx
      have h2 := hb b rfl
      unfold kle at h1 ⊢
      omega
  · unfold kle; omega
theorem BST.keep {D W : Nat → Nat} {S : Nat → Prop} {b c : Nat} (h : BST D W S (some b)) (hb : kle D W b c) : BST D W (fun x => S x ∨ x = c) (some b) := by
  refine ⟨fun z => (nomatch z), fun b' e => ?_⟩
  obtain rfl := Option.some.inj e
  refine ⟨Or.inl (h.2 b rfl).1, fun x hx => ?_⟩
  rcases hx with hx | rfl
  · exact (h.2 b rfl).2 x hx
  · exact hb
/-! states alike but for the marks and the rota -/
def eqX (ρ θ : aS) : Prop := ∀ f, f ≠ 9 → f ≠ 19 → ρ f = θ f
theorem stp_X {op : Nat} {pu : Bool} (h : eqX ρ θ) : eqX (stp op pu ρ) (stp op pu θ) := by
  have h0 := h 0 (by decide) (by decide)
  have h1 := h 1 (by decide) (by decide)
  have h3 := h 3 (by decide) (by decide)
  have h4 := h 4 (by decide) (by decide)
  have h5 := h 5 (by decide) (by decide)
  have h6 := h 6 (by decide) (by decide)
  have h7 := h 7 (by decide) (by decide)
  have h8 := h 8 (by decide) (by decide)
  have h10 := h 10 (by decide) (by decide)
  have h11 := h 11 (by decide) (by decide)
  have h12 := h 12 (by decide) (by decide)
  have h13 := h 13 (by decide) (by decide)
  have h14 := h 14 (by decide) (by decide)
  have h18 := h 18 (by decide) (by decide)
  have h21 := h 21 (by decide) (by decide)
  have h22 := h 22 (by decide) (by decide)
  have es : sur ρ = sur θ := by
    funext e
    unfold sur dep hod
    rw [h3, h4, h5, h8, h18]
  have ef : flo op ρ = flo op θ := by
    funext d
    unfold flo fop fsh fop drv sA sB
    rw [es, h10, h11, h12, h13, h14, h21]
  have el : sfl op ρ = sfl op θ := by
    funext d
    unfold sfl sgn sA sB
    rw [ef, es, h10, h11]
  have ew : wat op pu ρ = wat op pu θ := by
    funext r
    unfold wat
    rw [el, h10, h11, h8, h1, h7]
  have ed : dpt op pu ρ = dpt op pu θ := by
    funext r
    unfold dpt
    rw [ew, h5]
  have er : drw op pu ρ = drw op pu θ := by
    unfold drw
    rw [ed, h22, h6, h0]
  intro f h9 h19
  funext i
  unfold stp
  rw [ew, ed, er, h0, h3, h8, h22, h f h9 h19]
  by_cases e : f = 9
  · exact absurd e h9
  · rw [if_neg e, if_neg e]
theorem hJ_hod (g : Nat → Nat) (n : Nat) (σ : aS) : hod (hJ g n σ) = (σ 3 0 + n) % 12 := by
  unfold hod
  rw [hJ_hour]
theorem hJ_congr2 {g g' : Nat → Nat} {n : Nat} (h : ∀ j, j < n → g ((σ 3 0 + j) % 12) = g' ((σ 3 0 + j) % 12)) : hJ g n σ = hJ g' n σ := by
  induction n with
  | zero => rfl
  | succ n ih => rw [hJ_s, hJ_s, ih (fun j hj => h j (by omega)), hJ_hod, h n (by omega)]
/-! which plans there are -/
def VAL (σ : aS) (c : Nat) : Prop := c < 65536 ∧ (∀ e, e < σ 2 0 → σ 16 e ≤ nb c e ∧ nb c e ≤ σ 17 e) ∧ ∀ e, σ 2 0 ≤ e → e < 4 → nb c e = 0
def gA (σ : aS) (c h : Nat) : Nat := σ 20 0 ||| dN (fun e => decide (nb c e = h)) (σ 15) (σ 2 0)
def gQ (σ : aS) (p left h : Nat) : Nat := σ 20 0 ||| dN (fun e => !left.testBit e && decide (nb p e = h)) (σ 15) (σ 2 0)
def Lf (σ : aS) (gone left p c : Nat) : Prop := VAL σ c ∧ (∀ e, e < σ 2 0 → left.testBit e = false → nb c e = nb p e) ∧ ∀ e, e < σ 2 0 → left.testBit e = true → ∃ j, gone ≤ j ∧ j < 12 ∧ nb c e = (σ 3 0 + j) % 12
def PV (σ : aS) (gone left p : Nat) : Prop := p < 65536 ∧ (∀ e, e < σ 2 0 → left.testBit e = false → σ 16 e ≤ nb p e ∧ nb p e ≤ σ 17 e ∧ ∃ j, j < gone ∧ nb p e = (σ 3 0 + j) % 12) ∧ (∀ e, e < σ 2 0 → left.testBit e = true → nb p e = 0) ∧ ∀ e, σ 2 0 ≤ e → e < 4 → nb p e = 0
theorem gQ_0 (p h : Nat) : gQ σ p 0 h = gA σ p h := by
  unfold gQ gA
  congr 1
  exact dN_congr (fun e _ => by rw [Nat.zero_testBit]; rfl)
theorem Lf_end {p c : Nat} (h4 : σ 2 0 ≤ 4) (hp : PV σ 12 0 p) : Lf σ 12 0 p c ↔ c = p := by
  constructor
  · rintro ⟨hv, h1, _⟩
    refine nb_ext hv.1 hp.1 (fun e he => ?_)
    by_cases c : e < σ 2 0
    · exact h1 e c (Nat.zero_testBit e)
    · rw [hv.2.2 e (by omega) he, hp.2.2.2 e (by omega) he]
  · rintro rfl
    refine ⟨⟨hp.1, fun e he => ?_, hp.2.2.2⟩, fun _ _ _ => rfl, fun e _ z => ?_⟩
    · have := hp.2.1 e he (Nat.zero_testBit e)
      exact ⟨this.1, this.2.1⟩
    · rw [Nat.zero_testBit] at z
      exact absurd z (by decide)
theorem Lf_none {left p c : Nat} (hl : left < 2 ^ σ 2 0) (h0 : left ≠ 0) : ¬ Lf σ 12 left p c := by
  rintro ⟨_, _, h2⟩
  apply h0
  apply Nat.eq_of_testBit_eq
  intro e
  rw [Nat.zero_testBit]
  cases c : left.testBit e with
  | false => rfl
  | true =>
    by_cases he : e < σ 2 0
    · obtain ⟨j, a, b, _⟩ := h2 e he c
      omega
    · rw [Nat.testBit_lt_two_pow (Nat.lt_of_lt_of_le hl (p2le (by omega)))] at c
      exact absurd c (by decide)
theorem hr_ne {s i j : Nat} (hi : i < 12) (hj : j < 12) (h : i ≠ j) : (s + i) % 12 ≠ (s + j) % 12 := by omega
/-- those that may go now, those that must -/
def eA (σ : aS) (left h : Nat) : Nat := mk (fun e => left.testBit e && decide (σ 16 e ≤ h) && decide (h ≤ σ 17 e)) (σ 2 0)
def eL (σ : aS) (left g : Nat) : Nat → Nat
  | 0 => 0
  | n + 1 => eL σ left g n ||| eA σ left ((σ 3 0 + g + n) % 12)
theorem eA_bit {left h e : Nat} : (eA σ left h).testBit e = (decide (e < σ 2 0) && (left.testBit e && decide (σ 16 e ≤ h) && decide (h ≤ σ 17 e))) := mk_testBit _ _ _
theorem eL_bit {left g n e : Nat} : (eL σ left g n).testBit e = true ↔ ∃ i, i < n ∧ (eA σ left ((σ 3 0 + g + i) % 12)).testBit e = true := by
  induction n with
  | zero =>
    unfold eL
    rw [Nat.zero_testBit]
    exact ⟨fun z => absurd z (by decide), fun ⟨i, hi, _⟩ => by omega⟩
  | succ n ih =>
    unfold eL
    rw [Nat.testBit_or, Bool.or_eq_true, ih]
    constructor
    · rintro (⟨i, hi, h⟩ | h)
      · exact ⟨i, by omega, h⟩
      · exact ⟨n, by omega, h⟩
    · rintro ⟨i, hi, h⟩
      by_cases e : i = n
      · subst e; exact Or.inr h
      · exact Or.inl ⟨i, by omega, h⟩
theorem eA_lt (left h : Nat) : eA σ left h < 2 ^ σ 2 0 := mk_lt _ _
theorem eL_lt (left g n : Nat) : eL σ left g n < 2 ^ σ 2 0 := by
  induction n with
  | zero => exact Nat.two_pow_pos _
  | succ n ih => exact or_lt2 ih (eA_lt _ _)
def nowOf (σ : aS) (left h c : Nat) : Nat := mk (fun e => left.testBit e && decide (nb c e = h)) (σ 2 0)
theorem nowOf_bit {left h c e : Nat} : (nowOf σ left h c).testBit e = (decide (e < σ 2 0) && (left.testBit e && decide (nb c e = h))) := mk_testBit _ _ _
theorem bit_lt {m n e : Nat} (h : m < 2 ^ n) (hb : m.testBit e = true) : e < n := by
  by_cases c : e < n
  · exact c
  · rw [Nat.testBit_lt_two_pow (Nat.lt_of_lt_of_le h (p2le (by omega)))] at hb
    exact absurd hb (by decide)
/-- whoever goes now may, and who must does -/
theorem now_ok {gone left p c : Nat} (hg : gone < 12) (h : Lf σ gone left p c) : ndf (nowOf σ left ((σ 3 0 + gone) % 12) c) (eA σ left ((σ 3 0 + gone) % 12)) = 0 ∧ ndf (ndf left (eL σ left (gone + 1) (11 - gone))) (nowOf σ left ((σ 3 0 + gone) % 12) c) = 0 ∨ ∃ e, left.testBit e = true ∧ σ 2 0 ≤ e := by
  by_cases hx : ∃ e, left.testBit e = true ∧ σ 2 0 ≤ e
  · exact Or.inr hx
  · refine Or.inl ⟨?_, ?_⟩
    · rw [ndf_iff]
      intro e he
      rw [nowOf_bit] at he
      simp only [Bool.and_eq_true, decide_eq_true_eq] at he
      have hv := h.1.2.1 e he.1
      rw [eA_bit]
      simp only [Bool.and_eq_true, decide_eq_true_eq]
      exact ⟨he.1, ⟨he.2.1, by omega⟩, by omega⟩
    · rw [ndf_iff]
      intro e he
      rw [ndf_testBit] at he
      simp only [Bool.and_eq_true, Bool.not_eq_true'] at he
      have hne : e < σ 2 0 := by
        by_cases c2 : e < σ 2 0
        · exact c2
        · exact absurd ⟨e, he.1, by omega⟩ hx
      obtain ⟨j, j1, j2, j3⟩ := h.2.2 e hne he.1
      rw [nowOf_bit]
      simp only [Bool.and_eq_true, decide_eq_true_eq]
      refine ⟨hne, he.1, ?_⟩
      by_cases ej : j = gone
      · rw [← ej]; exact j3
      · exfalso
        have hv := h.1.2.1 e hne
        have : (eL σ left (gone + 1) (11 - gone)).testBit e = true := by
          rw [eL_bit]
          refine ⟨j - (gone + 1), by omega, ?_⟩
          rw [eA_bit, show σ 3 0 + (gone + 1) + (j - (gone + 1)) = σ 3 0 + j by omega]
          simp only [Bool.and_eq_true, decide_eq_true_eq]
          exact ⟨hne, ⟨he.1, by omega⟩, by omega⟩
        rw [this] at he
        exact absurd he.2 (by decide)
theorem nb_p' {left p now h gone e : Nat} (h4 : σ 2 0 ≤ 4) (hn : now < 16) (hh : h < 12) (hp : PV σ gone left p) (hsub : ndf now left = 0) (he : e < σ 2 0) : nb (p ||| hO now h (σ 2 0)) e = if now.testBit e then h else nb p e := by
  rw [nb_or, hO_at h4 hn hh (by omega)]
  by_cases c : now.testBit e = true
  · rw [if_pos ⟨he, c⟩, if_pos c, hp.2.2.1 e he (ndf_iff.mp hsub e c), Nat.zero_or]
  · rw [if_neg (fun z => c z.2), if_neg c, Nat.or_zero]
theorem Lf_child {gone left p now c : Nat} (h4 : σ 2 0 ≤ 4) (hg : gone < 12) (hn : now < 16) (hl : left < 2 ^ σ 2 0) (hp : PV σ gone left p) (hsub : ndf now left = 0) : Lf σ (gone + 1) (ndf left now) (p ||| hO now ((σ 3 0 + gone) % 12) (σ 2 0)) c ↔ Lf σ gone left p c ∧ nowOf σ left ((σ 3 0 + gone) % 12) c = now := by
  have hh : (σ 3 0 + gone) % 12 < 12 := Nat.mod_lt _ (by omega)
  have hnl : now < 2 ^ σ 2 0 := Nat.lt_of_le_of_lt (sub_le hsub) hl
  have np := fun e he => nb_p' (e := e) h4 hn hh hp hsub he
  constructor
  · rintro ⟨hv, h1, h2⟩
    refine ⟨⟨hv, fun e he hb => ?_, fun e he hb => ?_⟩, ?_⟩
    · have hnb : now.testBit e = false := by
        cases c : now.testBit e with
        | false => rfl
        | true => rw [ndf_iff.mp hsub e c] at hb; exact absurd hb (by decide)
      have := h1 e he (by rw [ndf_testBit, hb]; rfl)
      rw [np e he, hnb] at this
      exact this
    · cases c : now.testBit e with
      | true =>
        have := h1 e he (by rw [ndf_testBit, c, Bool.not_true, Bool.and_false])
        rw [np e he, c] at this
        exact ⟨gone, Nat.le_refl _, hg, this⟩
      | false =>
        obtain ⟨j, j1, j2, j3⟩ := h2 e he (by rw [ndf_testBit, hb, c]; rfl)
        exact ⟨j, by omega, j2, j3⟩
    · apply Nat.eq_of_testBit_eq
      intro e
      rw [nowOf_bit]
      by_cases he : e < σ 2 0
      · rw [decide_eq_true he, Bool.true_and]
        cases c : now.testBit e with
        | true =>
          have := h1 e he (by rw [ndf_testBit, c, Bool.not_true, Bool.and_false])
          rw [np e he, c] at this
          rw [ndf_iff.mp hsub e c, this, if_pos rfl, decide_eq_true rfl]; rfl
        | false =>
          cases c2 : left.testBit e with
          | false => rfl
          | true =>
            obtain ⟨j, j1, j2, j3⟩ := h2 e he (by rw [ndf_testBit, c2, c]; rfl)
            rw [j3, decide_eq_false (hr_ne j2 hg (by omega))]; rfl
      · rw [decide_eq_false he]
        cases c : now.testBit e with
        | false => rfl
        | true => exact absurd (bit_lt hnl c) he
  · rintro ⟨⟨hv, h1, h2⟩, rfl⟩
    have bits : ∀ e, e < σ 2 0 → (nowOf σ left ((σ 3 0 + gone) % 12) c).testBit e = (left.testBit e && decide (nb c e = (σ 3 0 + gone) % 12)) := fun e he => by
      rw [nowOf_bit, decide_eq_true he, Bool.true_and]
    refine ⟨hv, fun e he hb => ?_, fun e he hb => ?_⟩
    · rw [np e he, bits e he]
      rw [ndf_testBit, bits e he] at hb
      cases c2 : left.testBit e with
      | false =>
        rw [Bool.false_and, if_neg (by decide)]
        exact h1 e he c2
      | true =>
        rw [c2] at hb
        simp only [Bool.true_and, Bool.not_eq_false', decide_eq_true_eq] at hb
        rw [hb, decide_eq_true rfl]
        rfl
    · rw [ndf_testBit, bits e he] at hb
      cases c2 : left.testBit e with
      | false => rw [c2] at hb; exact absurd hb (by simp)
      | true =>
        rw [c2] at hb
        simp only [Bool.true_and, Bool.not_eq_true', decide_eq_false_iff_not] at hb
        obtain ⟨j, j1, j2, j3⟩ := h2 e he c2
        refine ⟨j, ?_, j2, j3⟩
        by_cases ej : j = gone
        · subst ej; exact absurd j3 hb
        · omega
theorem PV_child {gone left p now : Nat} (h4 : σ 2 0 ≤ 4) (hg : gone < 12) (hn : now < 16) (hp : PV σ gone left p) (hsub : ndf now left = 0) (hmay : ndf now (eA σ left ((σ 3 0 + gone) % 12)) = 0) : PV σ (gone + 1) (ndf left now) (p ||| hO now ((σ 3 0 + gone) % 12) (σ 2 0)) := by
  have hh : (σ 3 0 + gone) % 12 < 12 := Nat.mod_lt _ (by omega)
  have np := fun e he => nb_p' (e := e) h4 hn hh hp hsub he
  refine ⟨?_, fun e he hb => ?_, fun e he hb => ?_, fun e he he2 => ?_⟩
  · have h1 := hp.1
    have h2 := hO_lt h4 hn hh
    exact or_lt2 (n := 16) h1 h2
  · rw [np e he]
    cases c : now.testBit e with
    | true =>
      have h1 := ndf_iff.mp hmay e c
      rw [eA_bit] at h1
      simp only [Bool.and_eq_true, decide_eq_true_eq] at h1
      rw [if_pos rfl]
      exact ⟨h1.2.1.2, h1.2.2, gone, by omega, rfl⟩
    | false =>
      rw [ndf_testBit, c] at hb
      have hlb : left.testBit e = false := by simpa using hb
      obtain ⟨a, b, j, j1, j2⟩ := hp.2.1 e he hlb
      rw [if_neg (by decide)]
      exact ⟨a, b, j, by omega, j2⟩
  · rw [ndf_testBit] at hb
    simp only [Bool.and_eq_true, Bool.not_eq_true'] at hb
    rw [np e he, hb.2, if_neg (by decide)]
    exact hp.2.2.1 e he hb.1
  · rw [nb_or, hO_at h4 hn hh he2, if_neg (by omega), hp.2.2.2 e he he2, Nat.or_zero]
theorem gQ_child {gone left p now : Nat} (h4 : σ 2 0 ≤ 4) (hg : gone < 12) (hn : now < 16) (hl : left < 2 ^ σ 2 0) (hp : PV σ gone left p) (hsub : ndf now left = 0) : hJ (gQ σ (p ||| hO now ((σ 3 0 + gone) % 12) (σ 2 0)) (ndf left now)) (gone + 1) σ = stp (ndf (σ 20 0 ||| dN now.testBit (σ 15) (σ 2 0)) (σ 21 0)) true (hJ (gQ σ p left) gone σ) := by
  have hh : (σ 3 0 + gone) % 12 < 12 := Nat.mod_lt _ (by omega)
  have np := fun e he => nb_p' (e := e) h4 hn hh hp hsub he
  have e1 : hJ (gQ σ (p ||| hO now ((σ 3 0 + gone) % 12) (σ 2 0)) (ndf left now)) gone σ = hJ (gQ σ p left) gone σ := by
    refine hJ_congr2 (fun j hj => ?_)
    unfold gQ
    congr 1
    refine dN_congr (fun e he => ?_)
    rw [np e he, ndf_testBit]
    cases c : now.testBit e with
    | true =>
      rw [ndf_iff.mp hsub e c, if_pos rfl, decide_eq_false (hr_ne hg (by omega) (by omega))]
      rfl
    | false =>
      rw [if_neg (by decide), Bool.not_false, Bool.and_true]
  have e2 : gQ σ (p ||| hO now ((σ 3 0 + gone) % 12) (σ 2 0)) (ndf left now) ((σ 3 0 + gone) % 12) = σ 20 0 ||| dN now.testBit (σ 15) (σ 2 0) := by
    unfold gQ
    congr 1
    refine dN_congr (fun e he => ?_)
    rw [np e he, ndf_testBit]
    cases c : now.testBit e with
    | true =>
      rw [ndf_iff.mp hsub e c, if_pos rfl, decide_eq_true rfl]
      rfl
    | false =>
      rw [if_neg (by decide), Bool.not_false, Bool.and_true]
      cases c2 : left.testBit e with
      | true => rfl
      | false =>
        obtain ⟨_, _, j, j1, j2⟩ := hp.2.1 e he c2
        rw [j2, decide_eq_false (hr_ne (by omega) hg (by omega))]
        rfl
  rw [hJ_s, e1, hJ_hod, e2, hJ_kept _ _ _ (by decide : kept 21)]
end PLANP
