/-! ===== NIGHTS, purely ===== -/
/-- lines, steps, what has been begun, of each line 0 its kind, 1 thing, 2 number, 3 partner -/
abbrev NS : Type := Nat × Nat × List Nat × aS
def addO (s : NS) (op : Bool) (k t m : Nat) : NS := (s.1 + 1, s.2.1 + 1, if op then s.1 :: s.2.2.1 else s.2.2.1, sU (sU (sU s.2.2.2 0 s.1 k) 1 s.1 t) 2 s.1 m)
def clo (s : NS) : NS := (s.1 + 1, s.2.1, s.2.2.1.tail, sU (sU (sU s.2.2.2 0 s.1 12) 3 s.1 (s.2.2.1.headD 0)) 3 (s.2.2.1.headD 0) s.1)
def opW (B : Nat → Nat) (n i : Nat) : Bool := decide (wrd B n i = some 22) || decide (wrd B n i = some 25)
def pDep (B : Nat → Nat) (n r i : Nat) : EX ((Nat × Nat × Nat) × Nat) := if sgT B n i 60 = true then bnd (pNum B n 0 9999 (i + 1)) fun v => ok ((7, r, v.1), v.2) else if sgT B n i 62 = true then bnd (pNum B n 0 9999 (i + 1)) fun v => ok ((8, r, v.1), v.2) else if sgT B n i 61 = true then bnd (pNum B n 0 9999 (i + 1)) fun v => ok ((9, r, v.1), v.2) else er 2 i
def pTest (B : Nat → Nat) (n : Nat) (D : DR) (i : Nat) : EX ((Nat × Nat × Nat) × Nat) := if wrd B n i = some 23 then bnd (pOld B n (D.2 0) (D.1 0 0) (i + 1)) fun r => ok ((5, r.1, 0), r.2) else if wrd B n i = some 18 then bnd (pOld B n (D.2 1) (D.1 1 0) (i + 1)) fun d => ok ((6, d.1, 0), d.2) else if wrd B n i = some 24 then bnd (pOld B n (D.2 0) (D.1 0 0) (i + 1)) fun r => pDep B n r.1 r.2 else er 2 i
/-- a STEP behind its first word -/
def pOrd (B : Nat → Nat) (n : Nat) (D : DR) (i : Nat) : EX ((Nat × Nat × Nat) × Nat) := if wrd B n i = some 17 then bnd (pNum B n 1 12 (i + 1)) fun v => ok ((0, 0, v.1), v.2) else if wrd B n i = some 18 then bnd (pOld B n (D.2 1) (D.1 1 0) (i + 1)) fun d => ok ((1, d.1, 0), d.2) else if wrd B n i = some 19 then bnd (pOld B n (D.2 1) (D.1 1 0) (i + 1)) fun d => ok ((2, d.1, 0), d.2) else if wrd B n i = some 20 then bnd (pOld B n (D.2 0) (D.1 0 0) (i + 1)) fun r => bnd (pNum B n 1 999 r.2) fun v => ok ((3, r.1, v.1), v.2) else if wrd B n i = some 21 then ok ((4, 0, 0), i + 1) else if wrd B n i = some 22 then pTest B n D (i + 1) else if wrd B n i = some 25 then bnd (pNum B n 1 99 (i + 1)) fun v => ok ((10, 0, v.1), v.2) else ok ((11, 0, 0), i + 1)
def bgW (B : Nat → Nat) (n i : Nat) : Bool := decide (wrd B n i = some 17) || (decide (wrd B n i = some 18) || (decide (wrd B n i = some 19) || (decide (wrd B n i = some 20) || (decide (wrd B n i = some 21) || (decide (wrd B n i = some 22) || (decide (wrd B n i = some 25) || decide (wrd B n i = some 27)))))))
def pLine (B : Nat → Nat) (n : Nat) (D : DR) (s : NS) (i : Nat) : EX (NS × Nat) := if wrd B n i = some 26 then (if s.2.2.1 = [] then er 2 i else ok (clo s, i + 1)) else if bgW B n i = true then (if 30 ≤ s.2.1 then er 6 i else if opW B n i = true ∧ 3 ≤ s.2.2.1.length then er 7 i else bnd (pOrd B n D i) fun a => ok (addO s (opW B n i) a.1.1 a.1.2.1 a.1.2.2, a.2)) else er 2 i
def pNPart (B : Nat → Nat) (n : Nat) (D : DR) (s : NS) (i : Nat) : EX (NS × Nat) := bnd (pLine B n D s i) fun a => bnd (pStop B n a.2) fun j => ok (a.1, j)
def pNAll (B : Nat → Nat) (n : Nat) (D : DR) : Nat → NS → Nat → EX NS
  | 0, s, i => if s.2.2.1 = [] then ok s else er 2 i
  | f + 1, s, i => if tK B n (pS B n i) = 0 then (if s.2.2.1 = [] then ok s else er 2 i) else bnd (pNPart B n D s i) fun a => pNAll B n D f a.1 a.2
def N0 : NS := (0, 0, [], fun _ _ => 0)
def opK (k : Nat) : Prop := 5 ≤ k ∧ k ≤ 10
/-- a line is as it should be in a land with R rooms, d doors -/
def okL (σ : aS) (k t m : Nat) : Prop := k ≤ 11 ∧ (k = 0 → 1 ≤ m ∧ m ≤ 12) ∧ (k = 1 ∨ k = 2 ∨ k = 6 → t < σ 1 0) ∧ (k = 3 ∨ k = 5 ∨ k = 7 ∨ k = 8 ∨ k = 9 → t < σ 0 0) ∧ (k = 3 ∨ k = 7 ∨ k = 8 ∨ k = 9 → m ≤ 9999) ∧ (k = 10 → 1 ≤ m ∧ m ≤ 99)
def okN (σ : aS) (s : NS) : Prop := (s.1 + s.2.2.1.length ≤ 2 * s.2.1 ∧ s.2.1 ≤ 30 ∧ s.2.2.1.length ≤ 3) ∧ (∀ k, k < s.1 → okL σ (s.2.2.2 0 k) (s.2.2.2 1 k) (s.2.2.2 2 k) ∨ s.2.2.2 0 k = 12) ∧ (∀ b, b ∈ s.2.2.1 → b < s.1 ∧ opK (s.2.2.2 0 b)) ∧ s.2.2.1.Pairwise (fun a b => b < a) ∧
  (∀ k, k < s.1 → opK (s.2.2.2 0 k) → k ∉ s.2.2.1 → k < s.2.2.2 3 k ∧ s.2.2.2 3 k < s.1 ∧ s.2.2.2 0 (s.2.2.2 3 k) = 12 ∧ s.2.2.2 3 (s.2.2.2 3 k) = k) ∧ (∀ k, k < s.1 → s.2.2.2 0 k = 12 → s.2.2.2 3 k < k ∧ opK (s.2.2.2 0 (s.2.2.2 3 k)) ∧ s.2.2.2 3 (s.2.2.2 3 k) = k ∧ s.2.2.2 3 k ∉ s.2.2.1) ∧
  ∀ k j, k < s.1 → opK (s.2.2.2 0 k) → k ∉ s.2.2.1 → opK (s.2.2.2 0 j) → k < j → j < s.2.2.2 3 k → j ∉ s.2.2.1 ∧ s.2.2.2 3 j < s.2.2.2 3 k
section NIGHTP
variable {B : Nat → Nat} {n : Nat} {i : Nat} {D : DR} {s : NS} {σ : aS}
theorem N0_ok : okN σ N0 := ⟨by decide, fun k hk => absurd hk (Nat.not_lt_zero _), fun b hb => absurd hb List.not_mem_nil, List.Pairwise.nil, fun k hk => absurd hk (Nat.not_lt_zero _), fun k hk => absurd hk (Nat.not_lt_zero _), fun k _ hk => absurd hk (Nat.not_lt_zero _)⟩
theorem ok_addO {op : Bool} {k t m : Nat} (h : okN σ s) (hc : s.2.1 < 30) (ho : op = true → s.2.2.1.length < 3) (hl : okL σ k t m) (hop : (op = true) = opK k) : okN σ (addO s op k t m) := by
  obtain ⟨L, c, stk, F⟩ := s
  obtain ⟨⟨a1, a2, a3⟩, b, cc, d, e, f, g⟩ := h
  dsimp only at a1 a2 a3 b cc d e f g hc ho
  have F0 : ∀ x, sU (sU (sU F 0 L k) 1 L t) 2 L m 0 x = if x = L then k else F 0 x := fun x => by simp [sU_at]
  have F3 : ∀ x, sU (sU (sU F 0 L k) 1 L t) 2 L m 3 x = F 3 x := fun x => by simp [sU_at]
  have k12 : k ≠ 12 := fun z => by have := hl.1; omega
  have mem : ∀ x, x ∈ (if op = true then L :: stk else stk) → x < L + 1 ∧ (x ∈ stk ∨ (x = L ∧ op = true)) := fun x hx => by
    cases op with
    | true =>
      rcases List.mem_cons.mp hx with z | z
      · exact ⟨by omega, Or.inr ⟨z, rfl⟩⟩
      · exact ⟨by have := (cc x z).1; omega, Or.inl z⟩
    | false => exact ⟨by have := (cc x hx).1; omega, Or.inl hx⟩
  have mem2 : ∀ x, x < L → x ∉ (if op = true then L :: stk else stk) → x ∉ stk := fun x hxl hx hy => hx (by
    cases op with
    | true => exact List.mem_cons_of_mem _ hy
    | false => exact hy)
  have mem3 : ∀ x, x < L → x ∉ stk → x ∉ (if op = true then L :: stk else stk) := fun x hxl hx hy => by
    rcases (mem x hy).2 with z | z
    · exact hx z
    · omega
  have memL : L ∉ (if op = true then L :: stk else stk) → ¬ opK k := fun z y => z (by
    rw [← hop] at y
    rw [if_pos y]
    exact List.mem_cons_self ..)
  unfold addO okN
  dsimp only
  refine ⟨⟨?_, by omega, ?_⟩, fun x hx => ?_, fun x hx => ?_, ?_, fun x hx ho hn => ?_, fun x hx h12 => ?_, fun x j hx hox hnx hoj hj1 hj2 => ?_⟩
  · cases op with
    | true => show L + 1 + (L :: stk).length ≤ _; rw [List.length_cons]; omega
    | false => show L + 1 + stk.length ≤ _; omega
  · cases op with
    | true => show (L :: stk).length ≤ 3; rw [List.length_cons]; have := ho rfl; omega
    | false => exact a3
  · rw [F0]
    by_cases z : x = L
    · subst z
      left
      rw [if_pos rfl]
      simpa [sU_at] using hl
    · rw [if_neg z]
      have := b x (by omega)
      simpa [sU_at, z] using this
  · rw [F0]
    rcases (mem x hx).2 with z | ⟨z, z2⟩
    · have := cc x z
      rw [if_neg (by omega)]
      exact ⟨by omega, this.2⟩
    · rw [if_pos z]
      exact ⟨by omega, by rw [← hop]; exact z2⟩
  · cases op with
    | true => exact List.pairwise_cons.mpr ⟨fun x hx => (cc x hx).1, d⟩
    | false => exact d
  · rw [F0] at ho
    by_cases z : x = L
    · subst z
      rw [if_pos rfl] at ho
      exact absurd ho (memL hn)
    · rw [if_neg z] at ho
      obtain ⟨e1, e2, e3, e4⟩ := e x (by omega) ho (mem2 x (by omega) hn)
      rw [F3, F0, if_neg (by omega), F3]
      exact ⟨e1, by omega, e3, e4⟩
  · rw [F0] at h12
    by_cases z : x = L
    · rw [if_pos z] at h12
      exact absurd h12 k12
    · rw [if_neg z] at h12
      obtain ⟨e1, e2, e3, e4⟩ := f x (by omega) h12
      rw [F3, F0, if_neg (by omega), F3]
      exact ⟨e1, e2, e3, mem3 _ (by omega) e4⟩
  · rw [F0] at hox hoj
    rw [F3] at hj2 ⊢
    rw [F3]
    by_cases z : x = L
    · subst z
      rw [if_pos rfl] at hox
      exact absurd hox (memL hnx)
    · rw [if_neg z] at hox
      have hnx2 := mem2 x (by omega) hnx
      obtain ⟨e1, e2, e3, e4⟩ := e x (by omega) hox hnx2
      have hjL : j < L := by omega
      rw [if_neg (by omega)] at hoj
      obtain ⟨g1, g2⟩ := g x j (by omega) hox hnx2 hoj hj1 hj2
      exact ⟨mem3 j hjL g1, g2⟩
theorem ok_clo (h : okN σ s) (hs : s.2.2.1 ≠ []) : okN σ (clo s) := by
  obtain ⟨L, c, stk, F⟩ := s
  cases stk with
  | nil => exact absurd rfl hs
  | cons b stk =>
    obtain ⟨⟨a1, a2, a3⟩, hb, cc, d, e, f, g⟩ := h
    dsimp only at a1 a2 a3 hb cc d e f g
    have hbL := cc b (List.mem_cons_self ..)
    have hd := List.pairwise_cons.mp d
    have hnb : b ∉ stk := fun z => by have := hd.1 b z; omega
    rw [List.length_cons] at a1 a3
    have F0 : ∀ x, sU (sU (sU F 0 L 12) 3 L b) 3 b L 0 x = if x = L then 12 else F 0 x := fun x => by simp [sU_at]
    have F1 : ∀ x, sU (sU (sU F 0 L 12) 3 L b) 3 b L 1 x = F 1 x := fun x => by simp [sU_at]
    have F2 : ∀ x, sU (sU (sU F 0 L 12) 3 L b) 3 b L 2 x = F 2 x := fun x => by simp [sU_at]
    have F3 : ∀ x, sU (sU (sU F 0 L 12) 3 L b) 3 b L 3 x = if x = b then L else if x = L then b else F 3 x := fun x => by simp [sU_at]
    have stkL : ∀ x, x ∈ stk → x < b ∧ x < L := fun x hx => ⟨hd.1 x hx, (cc x (List.mem_cons_of_mem _ hx)).1⟩
    have ncons : ∀ x, x ≠ b → x ∉ stk → x ∉ b :: stk := fun x h1 h2 h3 => by
      rcases List.mem_cons.mp h3 with z | z
      · exact h1 z
      · exact h2 z
    have hop12 : ¬ opK 12 := fun z => by have := z.2; omega
    unfold clo okN
    dsimp only [List.headD, List.tail]
    refine ⟨⟨by omega, a2, by omega⟩, fun x hx => ?_, fun x hx => ?_, hd.2, fun x hx ho hn => ?_, fun x hx h12 => ?_, fun x j hx hox hnx hoj hj1 hj2 => ?_⟩
    · rw [F0, F1, F2]
      by_cases z : x = L
      · exact Or.inr (if_pos z)
      · rw [if_neg z]
        exact hb x (by omega)
    · have := stkL x hx
      rw [F0, if_neg (by omega)]
      exact ⟨by omega, (cc x (List.mem_cons_of_mem _ hx)).2⟩
    · rw [F0] at ho
      by_cases z : x = L
      · rw [if_pos z] at ho
        exact absurd ho hop12
      · rw [if_neg z] at ho
        by_cases y : x = b
        · subst y
          rw [F3, if_pos rfl, F0, if_pos rfl, F3, if_neg (by omega), if_pos rfl]
          exact ⟨by omega, by omega, rfl, rfl⟩
        · obtain ⟨e1, e2, e3, e4⟩ := e x (by omega) ho (ncons x y hn)
          have pb : F 3 x ≠ b := fun q => by
            rw [q] at e3
            rw [e3] at hbL
            exact hop12 hbL.2
          rw [F3, if_neg y, if_neg z, F0, if_neg (by omega), F3, if_neg pb, if_neg (by omega)]
          exact ⟨e1, by omega, e3, e4⟩
    · by_cases z : x = L
      · subst z
        rw [F3, if_neg (by omega), if_pos rfl, F0, if_neg (by omega), F3, if_pos rfl]
        exact ⟨hbL.1, hbL.2, rfl, hnb⟩
      · rw [F0, if_neg z] at h12
        obtain ⟨e1, e2, e3, e4⟩ := f x (by omega) h12
        have xb' : x ≠ b := fun q => by
          rw [q] at h12
          rw [h12] at hbL
          exact hop12 hbL.2
        have pb : F 3 x ≠ b := fun q => e4 (by rw [q]; exact List.mem_cons_self ..)
        rw [F3, if_neg xb', if_neg z, F0, if_neg (by omega), F3, if_neg pb, if_neg (by omega)]
        exact ⟨e1, e2, e3, fun q => e4 (List.mem_cons_of_mem _ q)⟩
    · rw [F0] at hox hoj
      by_cases z : x = L
      · rw [if_pos z] at hox
        exact absurd hox hop12
      · rw [if_neg z] at hox
        by_cases zj : j = L
        · rw [if_pos zj] at hoj
          exact absurd hoj hop12
        · rw [if_neg zj] at hoj
          by_cases y : x = b
          · subst y
            rw [F3, if_pos rfl] at hj2
            have hjn : j ∉ stk := fun q => by have := stkL j q; omega
            obtain ⟨e1, e2, e3, e4⟩ := e j (by omega) hoj (ncons j (by omega) hjn)
            rw [F3, if_neg (by omega), if_neg zj, F3, if_pos rfl]
            exact ⟨hjn, e2⟩
          · have hx' := ncons x y hnx
            obtain ⟨e1, e2, e3, e4⟩ := e x (by omega) hox hx'
            rw [F3, if_neg y, if_neg z] at hj2
            obtain ⟨g1, g2⟩ := g x j (by omega) hox hx' hoj hj1 hj2
            have jb : j ≠ b := fun q => g1 (by rw [q]; exact List.mem_cons_self ..)
            rw [F3, if_neg jb, if_neg zj, F3, if_neg y, if_neg z]
            exact ⟨fun q => g1 (List.mem_cons_of_mem _ q), g2⟩
theorem run_tt {X : Type} {x : EX X} {K : X → Prop} {E : Nat → Nat → Prop} (h : run x TT K) (he : ∀ k i, E k i) : run x E K := run_mono h (fun k i _ => he k i) (fun _ x => x)
/-- of an order its kind and what goes with it -/
def okO (σ : aS) (op : Bool) (j : Nat) (a : (Nat × Nat × Nat) × Nat) : Prop := okL σ a.1.1 a.1.2.1 a.1.2.2 ∧ (op = true) = opK a.1.1 ∧ j < a.2
theorem opk_f {k : Nat} (h : k < 5 ∨ k = 11) : ((false = true) = opK k) := propext ⟨fun z => absurd z (by decide), fun z => by have := z.1; have := z.2; omega⟩
theorem opk_t {k : Nat} (h : 5 ≤ k ∧ k ≤ 10) : ((true = true) = opK k) := propext ⟨fun _ => h, fun _ => rfl⟩
theorem okO_i {op : Bool} {j k t m j' : Nat} (h : okL σ k t m) (ho : (op = true) = opK k) (hj : j < j') : okO σ op j ((k, t, m), j') := ⟨h, ho, hj⟩
theorem g_dep {r j : Nat} (hr : r < D.1 0 0) : run (pDep B n r j) TT (fun a => okO D.1 true j a) := by
  unfold pDep
  refine run_if (fun _ => ?_) (fun _ => run_if (fun _ => ?_) (fun _ => run_if (fun _ => ?_) (fun _ => trivial)))
  · rw [run_bnd]
    exact run_mono g_num (fun _ _ x => x) (fun v hv => okO_i ⟨by omega, by omega, by omega, fun _ => hr, fun _ => by omega, by omega⟩ (opk_t (by omega)) (by omega))
  · rw [run_bnd]
    exact run_mono g_num (fun _ _ x => x) (fun v hv => okO_i ⟨by omega, by omega, by omega, fun _ => hr, fun _ => by omega, by omega⟩ (opk_t (by omega)) (by omega))
  · rw [run_bnd]
    exact run_mono g_num (fun _ _ x => x) (fun v hv => okO_i ⟨by omega, by omega, by omega, fun _ => hr, fun _ => by omega, by omega⟩ (opk_t (by omega)) (by omega))
theorem okO.up {op : Bool} {j j' : Nat} {a : (Nat × Nat × Nat) × Nat} (h : okO σ op j a) (hj : j' ≤ j) : okO σ op j' a := ⟨h.1, h.2.1, by have := h.2.2; omega⟩
theorem g_test {j : Nat} : run (pTest B n D j) TT (fun a => okO D.1 true j a) := by
  unfold pTest
  refine run_if (fun _ => ?_) (fun _ => run_if (fun _ => ?_) (fun _ => run_if (fun _ => ?_) (fun _ => trivial)))
  · rw [run_bnd]
    exact run_mono g_old (fun _ _ x => x) (fun v hv => okO_i ⟨by omega, by omega, by omega, fun _ => hv.1, by omega, by omega⟩ (opk_t (by omega)) (by omega))
  · rw [run_bnd]
    exact run_mono g_old (fun _ _ x => x) (fun v hv => okO_i ⟨by omega, by omega, fun _ => hv.1, by omega, by omega, by omega⟩ (opk_t (by omega)) (by omega))
  · rw [run_bnd]
    exact run_mono g_old (fun _ _ x => x) (fun v hv => run_mono (g_dep hv.1) (fun _ _ x => x) (fun a ha => ha.up (by omega)))
theorem g_ord (hb : bgW B n i = true) : run (pOrd B n D i) TT (fun a => okO D.1 (opW B n i) i a) := by
  unfold pOrd
  refine run_if (fun z => ?_) (fun z1 => run_if (fun z => ?_) (fun z2 => run_if (fun z => ?_) (fun z3 => run_if (fun z => ?_) (fun z4 => run_if (fun z => ?_) (fun z5 => run_if (fun z => ?_) (fun z6 => run_if (fun z => ?_) (fun z7 => ?_)))))))
  · have e : opW B n i = false := by unfold opW; rw [z]; decide
    rw [run_bnd, e]
    exact run_mono g_num (fun _ _ x => x) (fun v hv => okO_i ⟨by omega, fun _ => by omega, by omega, by omega, by omega, by omega⟩ (opk_f (by omega)) (by omega))
  · have e : opW B n i = false := by unfold opW; rw [z]; decide
    rw [run_bnd, e]
    exact run_mono g_old (fun _ _ x => x) (fun v hv => okO_i ⟨by omega, by omega, fun _ => hv.1, by omega, by omega, by omega⟩ (opk_f (by omega)) (by omega))
  · have e : opW B n i = false := by unfold opW; rw [z]; decide
    rw [run_bnd, e]
    exact run_mono g_old (fun _ _ x => x) (fun v hv => okO_i ⟨by omega, by omega, fun _ => hv.1, by omega, by omega, by omega⟩ (opk_f (by omega)) (by omega))
  · have e : opW B n i = false := by unfold opW; rw [z]; decide
    rw [run_bnd, e]
    refine run_mono g_old (fun _ _ x => x) (fun r hr => ?_)
    rw [run_bnd]
    exact run_mono g_num (fun _ _ x => x) (fun v hv => okO_i ⟨by omega, by omega, by omega, fun _ => hr.1, fun _ => by omega, by omega⟩ (opk_f (by omega)) (by omega))
  · have e : opW B n i = false := by unfold opW; rw [z]; decide
    rw [e]
    exact okO_i ⟨by omega, by omega, by omega, by omega, by omega, by omega⟩ (opk_f (by omega)) (by omega)
  · have e : opW B n i = true := by unfold opW; rw [z]; decide
    rw [e]
    exact run_mono g_test (fun _ _ x => x) (fun a ha => ha.up (by omega))
  · have e : opW B n i = true := by unfold opW; rw [z]; decide
    rw [run_bnd, e]
    exact run_mono g_num (fun _ _ x => x) (fun v hv => okO_i ⟨by omega, by omega, by omega, by omega, by omega, fun _ => by omega⟩ (opk_t (by omega)) (by omega))
  · have e : opW B n i = false := by
      unfold opW
      rw [decide_eq_false z6, decide_eq_false z7]
      rfl
    rw [e]
    exact okO_i ⟨by omega, by omega, by omega, by omega, by omega, by omega⟩ (opk_f (by omega)) (by omega)
theorem g_line (h : okN D.1 s) : run (pLine B n D s i) TT (fun a => okN D.1 a.1 ∧ i < a.2) := by
  unfold pLine
  refine run_if (fun _ => run_if (fun _ => trivial) (fun z => ⟨ok_clo h z, Nat.lt_succ_self _⟩)) (fun _ => run_if (fun hb => run_if (fun _ => trivial) (fun hc => run_if (fun _ => trivial) (fun ho => ?_))) (fun _ => trivial))
  rw [run_bnd]
  exact run_mono (g_ord hb) (fun _ _ x => x) (fun a ha => ⟨ok_addO h (by omega) (fun y => by
    by_cases q : s.2.2.1.length < 3
    · exact q
    · exact absurd ⟨y, by omega⟩ ho) ha.1 ha.2.1, ha.2.2⟩)
theorem g_npart (h : okN D.1 s) : run (pNPart B n D s i) TT (fun a => okN D.1 a.1 ∧ i < a.2) := by
  unfold pNPart
  simp only [run_bnd, run_ok]
  exact run_mono (g_line h) (fun _ _ x => x) (fun a ha => run_mono g_stop (fun _ _ x => x) (fun j hj => ⟨ha.1, by omega⟩))
theorem e_dep {r j : Nat} : run (pDep B n r j) FK7 (fun _ => True) := run_if (fun _ => e_bnd e_num fun _ => e_ok) (fun _ => run_if (fun _ => e_bnd e_num fun _ => e_ok) (fun _ => run_if (fun _ => e_bnd e_num fun _ => e_ok) (fun _ => e_er (by decide))))
theorem e_test {j : Nat} : run (pTest B n D j) FK7 (fun _ => True) := run_if (fun _ => e_bnd e_old fun _ => e_ok) (fun _ => run_if (fun _ => e_bnd e_old fun _ => e_ok) (fun _ => run_if (fun _ => e_bnd e_old fun _ => e_dep) (fun _ => e_er (by decide))))
theorem e_ord : run (pOrd B n D i) FK7 (fun _ => True) := run_if (fun _ => e_bnd e_num fun _ => e_ok) (fun _ => run_if (fun _ => e_bnd e_old fun _ => e_ok) (fun _ => run_if (fun _ => e_bnd e_old fun _ => e_ok) (fun _ => run_if (fun _ => e_bnd e_old fun _ => e_bnd e_num fun _ => e_ok) (fun _ => run_if (fun _ => e_ok) (fun _ => run_if (fun _ => e_test) (fun _ => run_if (fun _ => e_bnd e_num fun _ => e_ok) (fun _ => e_ok)))))))
theorem e_line : run (pLine B n D s i) FK7 (fun _ => True) := run_if (fun _ => run_if (fun _ => e_er (by decide)) (fun _ => e_ok)) (fun _ => run_if (fun _ => run_if (fun _ => e_er (by decide)) (fun _ => run_if (fun _ => e_er (by decide)) (fun _ => e_bnd e_ord fun _ => e_ok))) (fun _ => e_er (by decide)))
theorem e_nall : ∀ (f : Nat) (s : NS) (i : Nat), run (pNAll B n D f s i) FK7 (fun _ => True) := by
  intro f
  induction f with
  | zero => intro s i; exact run_if (fun _ => trivial) (fun _ => e_er (by decide))
  | succ f ih =>
    intro s i
    exact run_if (fun _ => run_if (fun _ => trivial) (fun _ => e_er (by decide))) (fun _ => e_bnd (e_bnd e_line fun _ => e_bnd e_stop fun _ => e_ok) (fun a => ih a.1 a.2))
end NIGHTP
