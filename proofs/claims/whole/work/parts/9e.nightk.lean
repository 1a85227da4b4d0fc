/-! ===== the class takes NIGHTS ===== -/
/-- a line of the nights that are kept -/
def CLP (F : aS) (k : Nat) (u : xM) : Prop := gi u 59 k = nI (F 0 k) ∧ (thK (F 0 k) → gi u 60 k = nI (F 1 k)) ∧ (nuK (F 0 k) → gi u 61 k = nI (F 2 k)) ∧ (opK (F 0 k) ∨ F 0 k = 12 → gi u 62 k = nI (F 3 k))
def cg0 (u u' : xM) : Prop := (∀ k i, ¬ (k = 0 ∧ (i = 13 ∨ i = 14 ∨ i = 17 ∨ i = 18)) → ¬ (40 ≤ k ∧ k < 46 ∧ ¬ (k = 40 ∧ i < 6)) → ¬ (63 ≤ k ∧ k ≤ 67) → ¬ (k = 32 ∧ i = 3) → k ≠ 33 → gi u' k i = gi u k i) ∧ ∀ k i, ¬ (40 ≤ k ∧ k < 46 ∧ k ≠ 41) → gl u' k i = gl u k i
def cg1 (u u' : xM) : Prop := (∀ k i, ¬ (k = 0 ∧ (i = 13 ∨ i = 14 ∨ i = 17 ∨ i = 18)) → ¬ (40 ≤ k ∧ k < 46 ∧ ¬ (k = 40 ∧ i < 6)) → ¬ (58 ≤ k ∧ k ≤ 67) → ¬ (k = 32 ∧ i = 3) → k ≠ 33 → gi u' k i = gi u k i) ∧ ∀ k i, ¬ (40 ≤ k ∧ k < 46 ∧ k ≠ 41) → ¬ (58 ≤ k ∧ k ≤ 67) → gl u' k i = gl u k i
section NIGHTK
variable {B : Nat → Nat} {n : Nat} {u u' u0 : xM} {i : Nat} {D : DR} {s : NS} {op : Bool} {Q : Bool → xM → Prop}
theorem cg0.tr {w : xM} (h : cg0 u u') (h' : cg0 u' w) : cg0 u w := ⟨fun k i a b c d e => (h'.1 k i a b c d e).trans (h.1 k i a b c d e), fun k i a => (h'.2 k i a).trans (h.2 k i a)⟩
theorem cg1.tr {w : xM} (h : cg1 u u') (h' : cg1 u' w) : cg1 u w := ⟨fun k i a b c d e => (h'.1 k i a b c d e).trans (h.1 k i a b c d e), fun k i a b => (h'.2 k i a b).trans (h.2 k i a b)⟩
theorem cg0.cg1 (h : cg0 u u') : cg1 u u' := ⟨fun k i a b c d e => h.1 k i a b (by omega) d e, fun k i a _ => h.2 k i a⟩
theorem cn.cg0 (h : cn u u') : cg0 u u' := ⟨fun k i a b c d e => h.1 k i (by omega) c d e, fun k i a => h.2 k i (by omega)⟩
theorem cnf.cg0 (h : cnf u u') : cg0 u u' := ⟨fun k i a b c d e => h.1 k i (by omega) c d e, fun k i a => h.2 k i (by omega)⟩
theorem bf.cg0 (h : bf 40 u u') : cg0 u u' := ⟨fun k i a b c d e => h.1 k i (by omega) (by omega) (by omega) (by omega), fun k i a => h.2 k i (by omega) (by omega)⟩
theorem k_beginsStep (h : TL 40 B n i u) (hq : Q (bgW B n i) u) : p_X5_beginsStep (gi u 40 11) u Q := by
  have is : ∀ w, w < 28 → ((gi u 40 11 = nI w) = (wrd B n i = some w)) := fun w hw => w11 hw h
  unfold p_X5_beginsStep
  rw [show (gi u 40 11 = 17) = _ from is 17 (by omega), show (gi u 40 11 = 18) = _ from is 18 (by omega), show (gi u 40 11 = 19) = _ from is 19 (by omega), show (gi u 40 11 = 20) = _ from is 20 (by omega), show (gi u 40 11 = 21) = _ from is 21 (by omega), show (gi u 40 11 = 22) = _ from is 22 (by omega), show (gi u 40 11 = 23) = _ from is 23 (by omega), show (gi u 40 11 = 24) = _ from is 24 (by omega), show (gi u 40 11 = 25) = _ from is 25 (by omega), show (gi u 40 11 = 26) = _ from is 26 (by omega), show (gi u 40 11 = 27) = _ from is 27 (by omega)]
  unfold bgW at hq
  refine ⟨fun z => ?_, fun z => ?_, fun z => ?_, fun z => ?_, fun z => ?_, fun z => ?_, fun z => ?_, fun z => ?_, fun z => ?_, fun z => ?_, fun z => ?_, fun z1 z2 z3 z4 z5 z6 z7 z8 z9 z10 z11 => ?_⟩
  · rw [z] at hq; exact hq
  · rw [z] at hq; exact hq
  · rw [z] at hq; exact hq
  · rw [z] at hq; exact hq
  · rw [z] at hq; exact hq
  · rw [z] at hq; exact hq
  · rw [z] at hq; exact hq
  · rw [z] at hq; exact hq
  · rw [z] at hq; exact hq
  · rw [z] at hq; exact hq
  · rw [z] at hq; exact hq
  · rw [decide_eq_false z1, decide_eq_false z2, decide_eq_false z3, decide_eq_false z4, decide_eq_false z5, decide_eq_false z6, decide_eq_false z9, decide_eq_false z11] at hq
    exact hq
theorem k_mayBegin (hT : TL 40 B n i u) (hX : TXT 40 B n u) (hC : CND s u) (hN : CN 83 D u) (hok : okN D.1 s) (e1 : bgW B n i = false → EN B n u (Q false) 2 i) (e2 : bgW B n i = true → 30 ≤ s.2.1 → EN B n u (Q false) 6 i) (e3 : bgW B n i = true → s.2.1 < 30 → opW B n i = true ∧ 3 ≤ s.2.2.1.length → EN B n u (Q false) 7 i) (hq : bgW B n i = true → s.2.1 < 30 → ¬ (opW B n i = true ∧ 3 ≤ s.2.2.1.length) → ∀ u', MS B n D s (opW B n i) i u' → cn u u' → Q true u') : p_X5_mayBegin u Q := by
  have hlen := hok.1
  unfold p_X5_mayBegin
  refine k_beginsStep hT ⟨fun hb => ?_, fun hb => k_wrong (k := 2) hT (fun u' a b => e1 hb u' a b.cnf)⟩
  rw [hC.1, show ((nI s.2.1) < (30 : Int32)) = (s.2.1 < 30) from cLT (b := 30) (by omega) (by omega), pl1]
  refine ⟨fun hc u5 q5 => ?_, fun hc => k_wrong (k := 6) hT (fun u' a b => e2 hb (by omega) u' a b.cnf)⟩
  have g5 : ∀ k i, ¬ (k = 63 ∧ i = 1) → gi u5 k i = gi u k i := fun k i hk => by rw [q5, gi_si, if_neg hk]
  have l5 : ∀ k i, gl u5 k i = gl u k i := fun k i => by rw [q5]; rfl
  have hT5 : TL 40 B n i u5 := hT.nx (fun k i a b => g5 k i (by omega)) l5
  have hX5 : TXT 40 B n u5 := hX.nx (fun k i a b => g5 k i (by omega)) l5
  have hN5 : CN 83 D u5 := hN.cg (fun k i a b => g5 k i (by omega)) (fun k i a b => l5 k i)
  have f5 : cn u u5 := ⟨fun k i a b c d => g5 k i (by omega), fun k i _ => l5 k i⟩
  have hB5 : CBG s.2.2.1 u5 := hC.2.2.1.cg (g5 32 3 (by omega)) (fun i => g5 33 i (by omega))
  have hl5 : ∀ k, k < s.1 → CLN s.2.2.2 s.2.2.1 k u5 := fun k hk => (hC.2.2.2 k hk).cg (fun j a b => g5 j k (by omega))
  have h22 : (gi u5 40 11 = (22 : Int32)) = _ := w11 (w := 22) (by omega) hT5
  have h25 : (gi u5 40 11 = (25 : Int32)) = _ := w11 (w := 25) (by omega) hT5
  rw [h22, h25]
  have L81 : opW B n i = true → p_X5_mayBegin_L81 Q u5 := fun ho => by
    unfold p_X5_mayBegin_L81 p_X5_goWithin
    rw [hB5.1, show ((nI s.2.2.1.length) < (3 : Int32)) = (s.2.2.1.length < 3) from cLT (b := 3) (by omega) (by omega), cCL (by omega)]
    refine ⟨fun z => ⟨cIN z (by omega), fun u3 q3 u4 q4 => ⟨fun y => absurd y (by decide), fun _ => hq hb hc (fun y => by omega) u4 ?_ ?_⟩⟩, fun z => k_wrong (k := 7) hT5 (fun u' a b => ⟨fun _ => e3 hb hc ⟨ho, by omega⟩ u' a (f5.cnf.tr b.cnf), fun y => absurd y (by decide)⟩)⟩
    · have h3 : gi u3 32 3 = nI s.2.2.1.length := by rw [q3, gi_si, if_neg (by omega)]; exact hB5.1
      rw [h3, pl1] at q4
      rw [g5 63 2 (by omega), hC.2.1] at q3
      have g4 : ∀ k i, k ≠ 33 → ¬ (k = 32 ∧ i = 3) → gi u4 k i = gi u5 k i := fun k i a b => by rw [q4, gi_si, if_neg b, q3, gi_si, if_neg (by omega)]
      have l4 : ∀ k i, gl u4 k i = gl u5 k i := fun k i => by rw [q4, gl_si, q3, gl_si]
      refine ⟨hT5.nx (fun k i a b => g4 k i (by omega) (by omega)) l4, hX5.nx (fun k i a b => g4 k i (by omega) (by omega)) l4, ⟨?_, ?_, ?_, fun k hk => (hl5 k hk).cg (fun j a b => g4 j k (by omega) (by omega))⟩, hN5.cg (fun k i a b => g4 k i (by omega) (by omega)) (fun k i a b => l4 k i)⟩
      · rw [g4 63 1 (by omega) (by omega), q5, gi_at]
      · rw [g4 63 2 (by omega) (by omega), g5 63 2 (by omega)]; exact hC.2.1
      · rw [ho]
        show CBG (s.1 :: s.2.2.1) u4
        refine ⟨by rw [q4, gi_at]; rfl, fun j hj => ?_⟩
        rw [List.length_cons] at hj ⊢
        rw [q4, gi_si, if_neg (by omega), q3, gi_si]
        cases j with
        | zero => rw [if_pos ⟨rfl, by omega⟩]; rfl
        | succ j =>
          rw [if_neg (by omega), show s.2.2.1.length + 1 - 1 - (j + 1) = s.2.2.1.length - 1 - j by omega]
          exact hB5.2 j (by omega)
    · refine f5.tr ⟨fun k i a b c d => ?_, fun k i _ => by rw [q4, gl_si, q3, gl_si]⟩
      rw [q4, gi_si, if_neg c, q3, gi_si, if_neg (by omega)]
  refine ⟨fun z => L81 (by unfold opW; rw [z]; decide), fun z => ⟨fun z2 => ?_, fun z2 => L81 (by unfold opW; rw [z2]; decide)⟩⟩
  have ho : opW B n i = false := by
    unfold opW
    rw [decide_eq_false z, decide_eq_false z2]
    rfl
  refine hq hb hc (fun y => by rw [ho] at y; exact absurd y.1 (by decide)) u5 ⟨hT5, hX5, ⟨by rw [q5, gi_at], (g5 63 2 (by omega)).trans hC.2.1, ?_, hl5⟩, hN5⟩ f5
  rw [ho]
  exact hB5
theorem k_readEnd (hT : TL 40 B n i u) (hX : TXT 40 B n u) (hC : CND s u) (hN : CN 83 D u) (hok : okN D.1 s) (h1 : tK B n (pS B n i) = 1) (hq : run (if s.2.2.1 = [] then er 2 i else ok (clo s, i + 1)) (EN B n u (Q false)) (fun a => ∀ u', RN B n D u a u' → Q true u')) : p_X5_readEnd u Q := by
  obtain ⟨L, c, stk, F⟩ := s
  have hlen := hok.1
  dsimp only at hlen hq
  have h32 : gi u 32 3 = nI stk.length := hC.2.2.1.1
  unfold p_X5_readEnd
  rw [h32, show ((nI stk.length ≤ 0) : Prop) = (stk.length ≤ 0) from cLE (b := 0) (by omega) (by omega), show ((nI stk.length) ≤ (3 : Int32)) = (stk.length ≤ 3) from cLE (b := 3) (by omega) (by omega)]
  cases stk with
  | nil =>
    rw [if_pos rfl] at hq
    exact ⟨fun _ => k_wrong (k := 2) hT (fun u' a b => hq u' a b.cnf), fun z => absurd (Nat.le_refl 0) z⟩
  | cons b stk =>
    rw [if_neg (by simp)] at hq
    rw [List.length_cons] at hlen h32 ⊢
    refine ⟨fun z => absurd z (by omega), fun _ => ⟨fun _ => ?_, fun z => absurd hlen.2.2 z⟩⟩
    refine k_go (Or.inr rfl) ⟨hT, hX, tf.rf⟩ (by omega) (by omega) (fun u5 h5 u6 q6 => ?_)
    have hC5 := hC.tf h5.2.2
    have hN5 := hN.tf (Or.inr rfl) (Or.inl rfl) h5.2.2
    have hbL : b < L := (hok.2.2.1 b (List.mem_cons_self ..)).1
    have e5 : gi u5 32 3 = nI (stk.length + 1) := hC5.2.2.1.1
    rw [e5, l_1, cS (by omega), show stk.length + 1 - 1 = stk.length by omega] at q6
    have g6 : ∀ k i, ¬ (k = 32 ∧ i = 3) → gi u6 k i = gi u5 k i := fun k i hk => by rw [q6, gi_si, if_neg hk]
    have l6 : ∀ k i, gl u6 k i = gl u5 k i := fun k i => by rw [q6]; rfl
    refine k_X4add (L := L) ((g6 63 2 (by omega)).trans hC5.2.1) (by omega) (fun u7 w2 w4 w5 w6 hg hl => ?_)
    have e7 : gi u7 32 3 = nI stk.length := by rw [hg 32 3 (by omega) (by omega), q6, gi_at]
    have b7 : gi u7 33 stk.length = nI b := by
      rw [hg 33 _ (by omega) (by omega), g6 33 _ (by omega)]
      have := hC5.2.2.1.2 0 (by show 0 < (b :: stk).length; rw [List.length_cons]; omega)
      rw [show (b :: stk).length - 1 - 0 = stk.length by rw [List.length_cons]; omega] at this
      exact this
    rw [e7, cCL (by omega), b7, w2, l_1, cS (by omega), show L + 1 - 1 = L by omega]
    refine ⟨cIN (by omega) (by omega), ?_⟩
    unfold p_X4_pair
    rw [w2, show ((nI b < 0) : Prop) = (b < 0) from cLT (b := 0) (by omega) (by omega), show ((nI L < 0) : Prop) = (L < 0) from cLT (b := 0) (by omega) (by omega), cLE (by omega) (by omega), cLE (by omega) (by omega), cCL (by omega), cCL (by omega)]
    refine ⟨fun z => absurd z (by omega), fun _ => ⟨fun z => absurd z (by omega), fun _ => ⟨fun z => absurd z (by omega), fun _ => ⟨fun z => absurd z (by omega), fun _ => ⟨cIN (by omega) (by omega), fun u8 q8 => ⟨cIN (by omega) (by omega), fun u9 q9 => hq u9 ?_⟩⟩⟩⟩⟩⟩
    have g9 : ∀ k i, ¬ (k = 67 ∧ (i = b ∨ i = L)) → gi u9 k i = gi u7 k i := fun k i hk => by rw [q9, gi_si, if_neg (by omega), q8, gi_si, if_neg (by omega)]
    have l9 : ∀ k i, gl u9 k i = gl u5 k i := fun k i => by rw [q9, gl_si, q8, gl_si, hl, l6]
    have t9 : ∀ k i, 40 ≤ k → k < 46 → gi u9 k i = gi u5 k i := fun k i a b => by rw [g9 k i (by omega), hg k i (by omega) (by omega), g6 k i (by omega)]
    refine ⟨h5.1.nx t9 l9, h5.2.1.nx t9 l9, ?_, hN5.cg (fun k i a b => by rw [g9 k i (by omega), hg k i (by omega) (by omega), g6 k i (by omega)]) (fun k i _ _ => l9 k i), h5.2.2.cn.tr ⟨fun k i a b c d => by rw [g9 k i (by omega), hg k i (by omega) (by omega), g6 k i c], fun k i _ => l9 k i⟩⟩
    have hd := List.pairwise_cons.mp hok.2.2.2.1
    have hnb : b ∉ stk := fun z => by have := hd.1 b z; omega
    refine ⟨?_, (g9 63 2 (by omega)).trans w2, ⟨(g9 32 3 (by omega)).trans e7, fun j hj => ?_⟩, fun x hx => ?_⟩
    · rw [g9 63 1 (by omega), hg 63 1 (by omega) (by omega), g6 63 1 (by omega)]; exact hC5.1
    · show gi u9 33 (stk.length - 1 - j) = nI (stk.getD j 0)
      have hj : j < stk.length := hj
      rw [g9 33 _ (by omega), hg 33 _ (by omega) (by omega), g6 33 _ (by omega)]
      have := hC5.2.2.1.2 (j + 1) (by show j + 1 < (b :: stk).length; rw [List.length_cons]; omega)
      rw [show (b :: stk).length - 1 - (j + 1) = stk.length - 1 - j by rw [List.length_cons]; omega] at this
      exact this
    · have hx : x < L + 1 := hx
      show CLN (sU (sU (sU F 0 L 12) 3 L b) 3 b L) stk x u9
      have F0 : sU (sU (sU F 0 L 12) 3 L b) 3 b L 0 x = if x = L then 12 else F 0 x := by simp [sU_at]
      have F1 : sU (sU (sU F 0 L 12) 3 L b) 3 b L 1 x = F 1 x := by simp [sU_at]
      have F2 : sU (sU (sU F 0 L 12) 3 L b) 3 b L 2 x = F 2 x := by simp [sU_at]
      have F3 : sU (sU (sU F 0 L 12) 3 L b) 3 b L 3 x = if x = b then L else if x = L then b else F 3 x := by simp [sU_at]
      unfold CLN
      rw [F0, F1, F2, F3]
      by_cases z : x = L
      · subst z
        rw [if_pos rfl, if_neg (by omega), if_pos rfl]
        refine ⟨by rw [g9 64 x (by omega), w4]; rfl, fun y => by unfold thK at y; omega, fun y => by unfold nuK at y; omega, fun _ => by rw [q9, gi_at]⟩
      · rw [if_neg z, if_neg z]
        obtain ⟨a1, a2, a3, a4⟩ := hC5.2.2.2 x (by show x < L; omega)
        have s9 : ∀ j, 64 ≤ j → j ≤ 66 → gi u9 j x = gi u5 j x := fun j p q => by rw [g9 j x (by omega), hg j x (by omega) (by omega), g6 j x (by omega)]
        refine ⟨(s9 64 (by omega) (by omega)).trans a1, fun y => (s9 65 (by omega) (by omega)).trans (a2 y), fun y => (s9 66 (by omega) (by omega)).trans (a3 y), fun y => ?_⟩
        by_cases zb : x = b
        · subst zb
          rw [if_pos rfl, q9, gi_si, if_neg (by omega), q8, gi_at]
        · rw [if_neg zb, g9 67 x (by omega), hg 67 x (by omega) (by omega), g6 67 x (by omega)]
          refine a4 ?_
          rcases y with ⟨y1, y2⟩ | y
          · refine Or.inl ⟨y1, fun q => ?_⟩
            rcases List.mem_cons.mp q with q | q
            · exact zb q
            · exact y2 q
          · exact Or.inr y
theorem k_nreads : ∀ (f : Nat) (s : NS) (i : Nat) (u : xM), f ≤ 301 → TL 40 B n i u → TXT 40 B n u → CND s u → CN 83 D u → okN D.1 s → (∀ i, i < n → B i < 256) → run (pNAll B n D f s i) (EN B n u (Q false)) (fun s' => ∀ u', CND s' u' → okN D.1 s' → s'.2.2.1 = [] → gi u' 63 0 = 1 → cn u u' → Q true u') → p_X5_readAll_L24 83 Q (f + 1) (nI (301 - f)) u := by
  have L106 : ∀ (s : NS) (i : Nat) (u : xM), TL 40 B n i u → CND s u → okN D.1 s → run (if s.2.2.1 = [] then ok s else er 2 i) (EN B n u (Q false)) (fun s' => ∀ u', CND s' u' → okN D.1 s' → s'.2.2.1 = [] → gi u' 63 0 = 1 → cn u u' → Q true u') → p_X5_readAll_L106 83 Q u := fun s i u hT hC hok hq => by
    have hlen := hok.1
    unfold p_X5_readAll_L106
    rw [hC.2.2.1.1, show ((nI s.2.2.1.length ≤ 0) : Prop) = (s.2.2.1.length ≤ 0) from cLE (b := 0) (by omega) (by omega)]
    refine ⟨fun z u2 q2 => ?_, fun z => ?_⟩
    · have hs : s.2.2.1 = [] := List.length_eq_zero_iff.mp (by omega)
      rw [if_pos hs] at hq
      have g2 : ∀ k i, ¬ (k = 63 ∧ i = 0) → gi u2 k i = gi u k i := fun k i hk => by rw [q2, gi_si, if_neg hk]
      exact hq u2 ⟨(g2 63 1 (by omega)).trans hC.1, (g2 63 2 (by omega)).trans hC.2.1, hC.2.2.1.cg (g2 32 3 (by omega)) (fun i => g2 33 i (by omega)), fun k hk => (hC.2.2.2 k hk).cg (fun j a b => g2 j k (by omega))⟩ hok hs (by rw [q2, gi_at]) ⟨fun k i a b c d => g2 k i (by omega), fun k i _ => by rw [q2]; rfl⟩
    · have hs : s.2.2.1 ≠ [] := fun y => by rw [y] at z; exact z (Nat.le_refl 0)
      rw [if_neg hs] at hq
      exact k_wrong (k := 2) hT (fun u' a b => hq u' a b.cnf)
  intro f
  induction f with
  | zero =>
    intro s i u _ hT hX hC hN hok hB hq
    unfold p_X5_readAll_L24
    rw [show ((300 : Int32) < nI (301 - 0)) = (300 < 301 - 0) from cLT (a := 300) (by omega) (by omega)]
    exact ⟨fun _ => L106 s i u hT hC hok hq, fun z => absurd z (by omega)⟩
  | succ f ih =>
    intro s i u hf hT hX hC hN hok hB hq
    have hlen := hok.1
    have hk := tK_le (B := B) (n := n) (pS B n i)
    unfold p_X5_readAll_L24 p_X8_isAtEnd
    rw [show ((300 : Int32) < nI (301 - (f + 1))) = (300 < 301 - (f + 1)) from cLT (a := 300) (by omega) (by omega), hT.2.2.1, show (nI (tK B n (pS B n i)) = 0) = (tK B n (pS B n i) = 0) from cEQ (b := 0) (by omega) (by omega)]
    unfold pNAll at hq
    refine ⟨fun z => absurd z (by omega), fun _ => ⟨fun z => ⟨fun y => absurd y (by decide), fun _ => ?_⟩, fun z => ⟨fun _ => ?_, fun y => absurd y (by decide)⟩⟩⟩
    · rw [if_neg z, run_bnd] at hq
      -- behind a line its sign, and on
      have hq := run_and hq (g_npart (B := B) (n := n) (i := i) hok) (fun k i x _ => x) (fun a x y => And.intro x y)
      unfold pNPart at hq
      rw [run_bnd] at hq
      have L81t : ∀ (a : NS × Nat) (w : xM), RN B n D u a w → run (bnd (pStop B n a.2) fun j => ok (a.1, j)) (EN B n u (Q false)) (fun a => run (pNAll B n D f a.1 a.2) (EN B n u (Q false)) (fun s' => ∀ u', CND s' u' → okN D.1 s' → s'.2.2.1 = [] → gi u' 63 0 = 1 → cn u u' → Q true u') ∧ okN D.1 a.1 ∧ i < a.2) → p_X5_readAll_L81 83 Q (p_X5_readAll_L24 83 Q (f + 1)) (nI (301 - (f + 1))) true w := fun a w hR hq => by
        unfold p_X5_readAll_L81
        rw [run_bnd] at hq
        refine ⟨fun y => absurd y (by decide), fun _ => k_takeStop (Or.inr rfl) hB ⟨hR.1, hR.2.1, tf.rf⟩ (run_mono hq (fun k j hE u' c d => ⟨fun y => absurd y (by decide), fun _ => hE u' c (hR.2.2.2.2.cnf.tr d.cnf)⟩) (fun j hq u' h' => ⟨fun _ x5 e5 => ?_, fun y => absurd y (by decide)⟩))⟩
        rw [pl1, show 301 - (f + 1) + 1 = 301 - f by omega] at e5
        rw [e5]
        have fr : cn u u' := hR.2.2.2.2.tr h'.2.2.cn
        exact ih a.1 j u' (by omega) h'.1 h'.2.1 (hR.2.2.1.tf h'.2.2) (hR.2.2.2.1.tf (Or.inr rfl) (Or.inl rfl) h'.2.2) hq.2.1 hB (run_mono hq.1 (fun k j hE => hE.mv fr) (fun s' hq u'' a b c d e => hq u'' a b c d (fr.tr e)))
      rw [show (gi u 40 11 = (26 : Int32)) = _ from w11 (w := 26) (by omega) hT]
      unfold pLine at hq
      refine ⟨fun zw => ?_, fun zw => ?_⟩
      · rw [if_neg zw] at hq
        refine k_mayBegin hT hX hC hN hok (fun hb => ?_) (fun hb hc => ?_) (fun hb hc ho => ?_) (fun hb hc ho u' hM fr => ?_)
        · rw [if_neg (by rw [hb]; decide)] at hq
          intro u' a b
          exact ⟨fun _ => ⟨fun _ => hq u' a b, fun y => absurd y (by decide)⟩, fun y => absurd y (by decide)⟩
        · rw [if_pos hb, if_pos hc] at hq
          intro u' a b
          exact ⟨fun _ => ⟨fun _ => hq u' a b, fun y => absurd y (by decide)⟩, fun y => absurd y (by decide)⟩
        · rw [if_pos hb, if_neg (by omega), if_pos ho] at hq
          intro u' a b
          exact ⟨fun _ => ⟨fun _ => hq u' a b, fun y => absurd y (by decide)⟩, fun y => absurd y (by decide)⟩
        · rw [if_pos hb, if_neg (by omega), if_neg ho] at hq
          refine ⟨fun y => absurd y (by decide), fun _ => ?_⟩
          refine k_readStep hb hM (by omega) hB (run_mono hq (fun k j hE u'' a b => ⟨fun _ => ⟨fun _ => hE u'' a (fr.cnf.tr b), fun y => absurd y (by decide)⟩, fun y => absurd y (by decide)⟩) (fun a hq u'' hR => ⟨fun y => absurd y (by decide), fun _ => L81t a u'' (hR.mv fr) hq⟩))
      · rw [if_pos zw] at hq
        exact k_readEnd hT hX hC hN hok (wrd_1 zw) (run_mono hq (fun k j hE u'' a b => ⟨fun _ => hE u'' a b, fun y => absurd y (by decide)⟩) (fun a hq u'' hR => L81t a u'' hR hq))
    · rw [if_pos z] at hq
      exact L106 s i u hT hC hok hq
theorem k_nights {n0 : Nat} {Q : Int32 → xM → Prop} (h13 : gi u 0 13 = nI n0) (hn : n ≤ 300 ∧ n ≤ n0 ∧ n0 ≤ 900) (hB : ∀ i, i < n → gi u 4 i = sb (B i) ∧ B i < 256) (hW : WRD u) (hN : CN 83 D u) (hq : run (pNAll B n D 301 N0 0) (fun k i => ∀ u', gi u' 0 17 = nI (fk B n k i) → gi u' 0 18 = nI (tS B n (pS B n i)) → gi u' 0 13 = 0 → gi u' 0 14 = 9 → cg0 u u' → Q (-1) u') (fun s => ∀ u', okN D.1 s → s.2.2.1 = [] → gi u' 58 0 = 1 → gi u' 58 2 = nI s.1 → (∀ k, k < s.1 → CLP s.2.2.2 k u') → gi u' 0 17 = 0 → gi u' 0 18 = -1 → gi u' 0 13 = 0 → gi u' 0 14 = 0 → cg1 u u' → Q (nI s.2.1) u')) : p_X10_nights (nI n) u Q := by
  unfold p_X10_nights
  rw [h13, cLT (by omega) (by omega), show ((nI n < 0) : Prop) = (n < 0) from cLT (b := 0) (by omega) (by omega), show ((nI n) ≤ (300 : Int32)) = (n ≤ 300) from cLE (b := 300) (by omega) (by omega)]
  refine ⟨fun z => absurd z (by omega), fun _ => ⟨fun z => absurd z (by omega), fun _ => ⟨fun _ => ?_, fun z => absurd hn.1 z⟩⟩⟩
  unfold p_X5_readAll
  intro u1 q1 u2 q2 u3 q3 u4 q4
  have g4 : ∀ k i, ¬ (k = 63 ∧ i ≤ 2) → ¬ (k = 32 ∧ i = 3) → gi u4 k i = gi u k i := fun k i a b => by rw [q4, gi_si, if_neg b, q3, gi_si, if_neg (by omega), q2, gi_si, if_neg (by omega), q1, gi_si, if_neg (by omega)]
  have l4 : ∀ k i, gl u4 k i = gl u k i := fun k i => by rw [q4, gl_si, q3, gl_si, q2, gl_si, q1, gl_si]
  have f4 : cg0 u u4 := ⟨fun k i a b c d e => g4 k i (by omega) d, fun k i _ => l4 k i⟩
  refine k_begin (mo := 301) (Or.inr rfl) x_len_txt.2 (by omega) (by omega) (by omega) (B := B) (fun i hi => ?_) (fun j hj => ?_) ?_ (fun u5 hT hX h14 h15 hb => ⟨302, ?_⟩)
  · rw [g4 4 i (by omega) (by omega)]; exact hB i hi
  · rw [l4 41 j]; exact (hW.2.2 j hj).2
  · rw [g4 40 1 (by omega) (by omega)]; exact hW.2.1
  have g5 : ∀ k i, k < 40 ∨ 46 ≤ k → gi u5 k i = gi u4 k i := fun k i hk => hb.1 k i (by omega) (by omega) (by omega) (by omega)
  have hC : CND N0 u5 := by
    refine ⟨?_, ?_, ⟨?_, fun j hj => absurd hj (Nat.not_lt_zero _)⟩, fun k hk => absurd hk (Nat.not_lt_zero _)⟩
    · rw [g5 63 1 (by omega), q4, gi_si, if_neg (by omega), q3, gi_si, if_neg (by omega), q2, gi_at]; rfl
    · rw [g5 63 2 (by omega), q4, gi_si, if_neg (by omega), q3, gi_at]; rfl
    · rw [g5 32 3 (by omega), q4, gi_at]; rfl
  have hN5 : CN 83 D u5 := hN.cg (fun k i a b => by rw [g5 k i (by omega), g4 k i (by omega) (by omega)]) (fun k i a b => by rw [hb.2 k i (by omega) (by omega), l4])
  refine k_nreads 301 N0 0 u5 (by omega) hT hX hC hN5 N0_ok (fun i hi => (hB i hi).2) (run_mono hq (fun k i hE u6 a b => ?_) (fun s hE u6 hC6 hok hs h63 fr => ?_))
  · have f6 : cg0 u u6 := f4.tr (hb.cg0.tr b.cg0)
    intro u7 q7 u8 q8 u9 q9
    refine ⟨fun z => absurd z (by decide), fun _ u10 q10 => hE u10 ?_ ?_ ?_ ?_ (f6.tr ⟨fun k i x y _ _ _ => ?_, fun k i _ => ?_⟩)⟩
    · rw [q10, gi_si, if_neg (by omega), q9, gi_si, if_neg (by omega), q8, gi_at, q7, gi_si, if_neg (by omega), a.1]; rfl
    · rw [q10, gi_si, if_neg (by omega), q9, gi_at, q8, gi_si, if_neg (by omega), q7, gi_si, if_neg (by omega), a.2]
    · rw [q10, gi_si, if_neg (by omega), q9, gi_si, if_neg (by omega), q8, gi_si, if_neg (by omega), q7, gi_at]
    · rw [q10, gi_at]
    · rw [q10, gi_si, if_neg (by omega), q9, gi_si, if_neg (by omega), q8, gi_si, if_neg (by omega), q7, gi_si, if_neg (by omega)]
    · rw [q10, gl_si, q9, gl_si, q8, gl_si, q7, gl_si]
  · have f6 : cg0 u u6 := f4.tr (hb.cg0.tr fr.cg0)
    intro u7 q7 u8 q8 u9 q9
    have hlen := hok.1
    have g9 : ∀ k i, k ≠ 0 → gi u9 k i = gi u6 k i := fun k i hk => by rw [q9, gi_si, if_neg (by omega), q8, gi_si, if_neg (by omega), q7, gi_si, if_neg (by omega)]
    refine ⟨fun _ => ?_, fun z => absurd z (by decide)⟩
    refine k_copyNights (by omega) (Or.inr (by rw [g9 63 0 (by omega), h63])) (fun u10 hc u11 q11 => ?_)
    obtain ⟨c0, c2, cl, c1, cx⟩ := hc
    have e1 : gi u10 58 1 = nI s.2.1 := by rw [c1, g9 63 1 (by omega), hC6.1]
    rw [e1]
    have g11 : ∀ k i, ¬ (k = 0 ∧ i = 14) → gi u11 k i = gi u10 k i := fun k i hk => by rw [q11, gi_si, if_neg hk]
    refine hE u11 hok hs ?_ ?_ (fun k hk => ?_) ?_ ?_ ?_ ?_ (f6.cg1.tr ⟨fun k i x y z v w => ?_, fun k i x x2 => ?_⟩)
    · rw [g11 58 0 (by omega), c0, g9 63 0 (by omega), h63]
    · rw [g11 58 2 (by omega), c2, g9 63 2 (by omega), hC6.2.1]
    · have := hC6.2.2.2 k hk
      obtain ⟨d1, d2, d3, d4⟩ := this
      have e : ∀ j, 1 ≤ j → j ≤ 4 → gi u11 (58 + j) k = gi u6 (63 + j) k := fun j a b => by rw [g11 _ _ (by omega), cl j k a b (by omega), g9 _ _ (by omega)]
      refine ⟨(e 1 (by omega) (by omega)).trans d1, fun y => (e 2 (by omega) (by omega)).trans (d2 y), fun y => (e 3 (by omega) (by omega)).trans (d3 y), fun y => (e 4 (by omega) (by omega)).trans (d4 ?_)⟩
      rcases y with y | y
      · exact Or.inl ⟨y, by rw [hs]; exact List.not_mem_nil⟩
      · exact Or.inr y
    · rw [g11 0 17 (by omega), cx.1 0 17 (by omega), q9, gi_si, if_neg (by omega), q8, gi_at, q7, gi_si, if_neg (by omega), fr.1 40 14 (by omega) (by omega) (by omega) (by omega), h14]
    · rw [g11 0 18 (by omega), cx.1 0 18 (by omega), q9, gi_at, q8, gi_si, if_neg (by omega), q7, gi_si, if_neg (by omega), fr.1 40 15 (by omega) (by omega) (by omega) (by omega), h15]
    · rw [g11 0 13 (by omega), cx.1 0 13 (by omega), q9, gi_si, if_neg (by omega), q8, gi_si, if_neg (by omega), q7, gi_at]
    · rw [q11, gi_at]
    · rw [g11 k i (by omega), cx.1 k i (by omega), q9, gi_si, if_neg (by omega), q8, gi_si, if_neg (by omega), q7, gi_si, if_neg (by omega)]
    · rw [q11, gl_si, cx.2 k i (by omega), q9, gl_si, q8, gl_si, q7, gl_si]
end NIGHTK
