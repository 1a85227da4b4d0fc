/-! ===== the class reads NIGHTS ===== -/
def cn (u u' : xM) : Prop := (∀ k i, ¬ (k = 40 ∧ 7 ≤ i ∧ i ≤ 13) → ¬ (63 ≤ k ∧ k ≤ 67) → ¬ (k = 32 ∧ i = 3) → k ≠ 33 → gi u' k i = gi u k i) ∧ ∀ k i, ¬ (k = 40 ∧ i = 10) → gl u' k i = gl u k i
def cnf (u u' : xM) : Prop := (∀ k i, ¬ (k = 40 ∧ 7 ≤ i) → ¬ (63 ≤ k ∧ k ≤ 67) → ¬ (k = 32 ∧ i = 3) → k ≠ 33 → gi u' k i = gi u k i) ∧ ∀ k i, ¬ (k = 40 ∧ i = 10) → gl u' k i = gl u k i
def thK (k : Nat) : Prop := k = 1 ∨ k = 2 ∨ k = 3 ∨ (5 ≤ k ∧ k ≤ 9)
def nuK (k : Nat) : Prop := k = 0 ∨ k = 3 ∨ (7 ≤ k ∧ k ≤ 10)
def CLN (F : aS) (stk : List Nat) (k : Nat) (u : xM) : Prop := gi u 64 k = nI (F 0 k) ∧ (thK (F 0 k) → gi u 65 k = nI (F 1 k)) ∧ (nuK (F 0 k) → gi u 66 k = nI (F 2 k)) ∧ ((opK (F 0 k) ∧ k ∉ stk) ∨ F 0 k = 12 → gi u 67 k = nI (F 3 k))
def CBG (stk : List Nat) (u : xM) : Prop := gi u 32 3 = nI stk.length ∧ ∀ j, j < stk.length → gi u 33 (stk.length - 1 - j) = nI (stk.getD j 0)
def CND (s : NS) (u : xM) : Prop := gi u 63 1 = nI s.2.1 ∧ gi u 63 2 = nI s.1 ∧ CBG s.2.2.1 u ∧ ∀ k, k < s.1 → CLN s.2.2.2 s.2.2.1 k u
/-- a step has been begun -/
def stkO (s : NS) (op : Bool) : List Nat := if op then s.1 :: s.2.2.1 else s.2.2.1
def CM (s : NS) (op : Bool) (u : xM) : Prop := gi u 63 1 = nI (s.2.1 + 1) ∧ gi u 63 2 = nI s.1 ∧ CBG (stkO s op) u ∧ ∀ k, k < s.1 → CLN s.2.2.2 s.2.2.1 k u
def MS (B : Nat → Nat) (n : Nat) (D : DR) (s : NS) (op : Bool) (i : Nat) (u : xM) : Prop := TL 40 B n i u ∧ TXT 40 B n u ∧ CM s op u ∧ CN 83 D u
/-- what has been read -/
def RN (B : Nat → Nat) (n : Nat) (D : DR) (u0 : xM) (a : NS × Nat) (u : xM) : Prop := TL 40 B n a.2 u ∧ TXT 40 B n u ∧ CND a.1 u ∧ CN 83 D u ∧ cn u0 u
def EN (B : Nat → Nat) (n : Nat) (u0 : xM) (Q : xM → Prop) (k i : Nat) : Prop := ∀ u', FT 40 B n k i u' → cnf u0 u' → Q u'
section NIGHTC
variable {B : Nat → Nat} {n : Nat} {u u' u0 : xM} {i : Nat} {D : DR} {s : NS} {op : Bool} {Q : Bool → xM → Prop}
theorem cn.rf : cn u u := ⟨fun _ _ _ _ _ _ => rfl, fun _ _ _ => rfl⟩
theorem cn.tr {w : xM} (h : cn u u') (h' : cn u' w) : cn u w := ⟨fun k i a b c d => (h'.1 k i a b c d).trans (h.1 k i a b c d), fun k i a => (h'.2 k i a).trans (h.2 k i a)⟩
theorem cn.cnf (h : cn u u') : cnf u u' := ⟨fun k i a b c d => h.1 k i (by omega) b c d, h.2⟩
theorem cnf.tr {w : xM} (h : cnf u u') (h' : cnf u' w) : cnf u w := ⟨fun k i a b c d => (h'.1 k i a b c d).trans (h.1 k i a b c d), fun k i a => (h'.2 k i a).trans (h.2 k i a)⟩
theorem wf.cnf (h : wf 40 u u') : cnf u u' := ⟨fun k i a _ _ _ => h.1 k i a, fun k i a => h.2 k i a⟩
theorem tf.cn (h : tf 40 u u') : cn u u' := ⟨fun k i a _ _ _ => h.1 k i a, fun k i a => h.2 k i a⟩
theorem CN.cn (h : CN 83 D u) (hf : cn u u') : CN 83 D u' := h.cg (fun k i a b => hf.1 k i (by omega) (by omega) (by omega) (by omega)) (fun k i a b => hf.2 k i (by omega))
theorem TL.nx (h : TL 40 B n i u) (hg : ∀ k i, 40 ≤ k → k < 46 → gi u' k i = gi u k i) (hl : ∀ k i, gl u' k i = gl u k i) : TL 40 B n i u' := by
  unfold TL at h ⊢
  rw [hg 40 7 (by omega) (by omega), hg 40 8 (by omega) (by omega), hg 40 9 (by omega) (by omega), hg 40 11 (by omega) (by omega), hl 40 10, hg 40 12 (by omega) (by omega), hg 40 13 (by omega) (by omega)]
  exact h
theorem TXT.nx (h : TXT 40 B n u) (hg : ∀ k i, 40 ≤ k → k < 46 → gi u' k i = gi u k i) (hl : ∀ k i, gl u' k i = gl u k i) : TXT 40 B n u' := by
  obtain ⟨cnt, h1, h2, h3, h4⟩ := h
  refine ⟨cnt, (hg 40 6 (by omega) (by omega)).trans h1, h2, h3, fun i hi => ?_⟩
  unfold ENT
  rw [hg (40 + 2) i (by omega) (by omega), hg (40 + 3) i (by omega) (by omega), hl (40 + 4) i, hg (40 + 5) i (by omega) (by omega)]
  exact h4 i hi
theorem CBG.cg {stk : List Nat} (h : CBG stk u) (h3 : gi u' 32 3 = gi u 32 3) (h33 : ∀ i, gi u' 33 i = gi u 33 i) : CBG stk u' := ⟨h3.trans h.1, fun j hj => (h33 _).trans (h.2 j hj)⟩
theorem CLN.cg {F : aS} {stk : List Nat} {k : Nat} (h : CLN F stk k u) (hg : ∀ j, 64 ≤ j → j ≤ 67 → gi u' j k = gi u j k) : CLN F stk k u' := by
  unfold CLN
  rw [hg 64 (by omega) (by omega), hg 65 (by omega) (by omega), hg 66 (by omega) (by omega), hg 67 (by omega) (by omega)]
  exact h
theorem CM.tf (h : CM s op u) (hf : tf 40 u u') : CM s op u' := ⟨(hf.1 63 1 (by omega)).trans h.1, (hf.1 63 2 (by omega)).trans h.2.1, h.2.2.1.cg (hf.1 32 3 (by omega)) (fun i => hf.1 33 i (by omega)), fun k hk => (h.2.2.2 k hk).cg (fun j _ _ => hf.1 j k (by omega))⟩
theorem CND.tf (h : CND s u) (hf : tf 40 u u') : CND s u' := ⟨(hf.1 63 1 (by omega)).trans h.1, (hf.1 63 2 (by omega)).trans h.2.1, h.2.2.1.cg (hf.1 32 3 (by omega)) (fun i => hf.1 33 i (by omega)), fun k hk => (h.2.2.2 k hk).cg (fun j _ _ => hf.1 j k (by omega))⟩
theorem FT.nx {k : Nat} (h : FT 40 B n k i u) (hg : gi u' 40 14 = gi u 40 14 ∧ gi u' 40 15 = gi u 40 15) : FT 40 B n k i u' := ⟨hg.1.trans h.1, hg.2.trans h.2⟩
theorem k_X4add {L : Nat} {a1 a2 a3 : Int32} {Q : xM → Prop} (h : gi u 63 2 = nI L) (hL : L < 60) (hq : ∀ u', gi u' 63 2 = nI (L + 1) → gi u' 64 L = a1 → gi u' 65 L = a2 → gi u' 66 L = a3 → (∀ k i, ¬ (k = 63 ∧ i = 2) → ¬ (64 ≤ k ∧ k ≤ 67 ∧ i = L) → gi u' k i = gi u k i) → (∀ k i, gl u' k i = gl u k i) → Q u') : p_X4_add 63 a1 a2 a3 u Q := by
  unfold p_X4_add
  rw [h, show ((nI L) < (60 : Int32)) = (L < 60) from cLT (b := 60) (by omega) (by omega), cCL (by omega)]
  refine ⟨fun _ => ⟨cIN hL (by omega), fun u3 q3 => ?_⟩, fun z => absurd hL z⟩
  have h3 : gi u3 63 2 = nI L := by rw [q3, gi_si, if_neg (by omega)]; exact h
  rw [h3, cCL (by omega)]
  refine ⟨cIN hL (by omega), fun u5 q5 => ?_⟩
  have h5 : gi u5 63 2 = nI L := by rw [q5, gi_si, if_neg (by omega)]; exact h3
  rw [h5, cCL (by omega)]
  refine ⟨cIN hL (by omega), fun u7 q7 => ?_⟩
  have h7 : gi u7 63 2 = nI L := by rw [q7, gi_si, if_neg (by omega)]; exact h5
  rw [h7, cCL (by omega)]
  refine ⟨cIN hL (by omega), fun u9 q9 u10 q10 => ?_⟩
  have h9 : gi u9 63 2 = nI L := by rw [q9, gi_si, if_neg (by omega)]; exact h7
  rw [h9, pl1] at q10
  refine hq u10 (by rw [q10, gi_at]) ?_ ?_ ?_ (fun k i x y => ?_) (fun k i => by rw [q10, gl_si, q9, gl_si, q7, gl_si, q5, gl_si, q3, gl_si])
  · rw [q10, gi_si, if_neg (by omega), q9, gi_si, if_neg (by omega), q7, gi_si, if_neg (by omega), q5, gi_si, if_neg (by omega), q3, gi_at]
  · rw [q10, gi_si, if_neg (by omega), q9, gi_si, if_neg (by omega), q7, gi_si, if_neg (by omega), q5, gi_at]
  · rw [q10, gi_si, if_neg (by omega), q9, gi_si, if_neg (by omega), q7, gi_at]
  · rw [q10, gi_si, if_neg x, q9, gi_si, if_neg (by omega), q7, gi_si, if_neg (by omega), q5, gi_si, if_neg (by omega), q3, gi_si, if_neg (by omega)]
/-- a line more -/
theorem CM.add {k t m : Nat} (h : CM s op u) (hk : k ≤ 11) (hop : (op = true) = opK k) (v2 : gi u' 63 2 = nI (s.1 + 1)) (v4 : gi u' 64 s.1 = nI k) (v5 : thK k → gi u' 65 s.1 = nI t) (v6 : nuK k → gi u' 66 s.1 = nI m) (hg : ∀ k i, ¬ (k = 63 ∧ i = 2) → ¬ (64 ≤ k ∧ k ≤ 67 ∧ i = s.1) → gi u' k i = gi u k i) : CND (addO s op k t m) u' := by
  obtain ⟨a1, a2, a3, a4⟩ := h
  refine ⟨?_, v2, a3.cg (hg 32 3 (by omega) (by omega)) (fun i => hg 33 i (by omega) (by omega)), fun x hx => ?_⟩
  · rw [hg 63 1 (by omega) (by omega)]; exact a1
  · have F0 : ∀ f y, sU (sU (sU s.2.2.2 0 s.1 k) 1 s.1 t) 2 s.1 m f y = if f = 2 ∧ y = s.1 then m else if f = 1 ∧ y = s.1 then t else if f = 0 ∧ y = s.1 then k else s.2.2.2 f y := fun f y => by simp only [sU_at]
    have hx : x < s.1 + 1 := hx
    show CLN (sU (sU (sU s.2.2.2 0 s.1 k) 1 s.1 t) 2 s.1 m) (stkO s op) x u'
    unfold CLN
    rw [F0, F0, F0, F0]
    by_cases e : x = s.1
    · subst e
      rw [if_neg (by omega), if_neg (by omega), if_pos (by omega), if_neg (by omega), if_pos (by omega), if_pos (by omega), if_neg (by omega), if_neg (by omega), if_neg (by omega)]
      refine ⟨v4, v5, v6, fun z => ?_⟩
      exfalso
      rcases z with ⟨z, z2⟩ | z
      · rw [← hop] at z
        exact z2 (by unfold stkO; rw [if_pos z]; exact List.mem_cons_self ..)
      · omega
    · rw [if_neg (by omega), if_neg (by omega), if_neg (by omega), if_neg (by omega), if_neg (by omega), if_neg (by omega), if_neg (by omega), if_neg (by omega), if_neg (by omega), if_neg (by omega), if_neg (by omega), if_neg (by omega), hg 64 x (by omega) (by omega), hg 65 x (by omega) (by omega), hg 66 x (by omega) (by omega), hg 67 x (by omega) (by omega)]
      obtain ⟨b1, b2, b3, b4⟩ := a4 x (by omega)
      refine ⟨b1, b2, b3, fun z => b4 ?_⟩
      rcases z with ⟨z, z2⟩ | z
      · refine Or.inl ⟨z, fun y => z2 ?_⟩
        unfold stkO
        split
        · exact List.mem_cons_of_mem _ y
        · exact y
      · exact Or.inr z
/-- the draft's line is written, all else stands -/
theorem k_line {k t m j : Nat} {a1 a2 a3 : Int32} {Q : xM → Prop} (hs : CS 40 B n j u0 u) (hM : MS B n D s op i u0) (hL : s.1 < 60) (hk : k ≤ 11) (hop : (op = true) = opK k) (v4 : a1 = nI k) (v5 : thK k → a2 = nI t) (v6 : nuK k → a3 = nI m) (hq : ∀ u', RN B n D u0 (addO s op k t m, j) u' → Q u') : p_X4_add 63 a1 a2 a3 u Q := by
  have hC := hM.2.2.1.tf hs.2.2
  refine k_X4add hC.2.1 hL (fun u' w2 w4 w5 w6 hg hl => hq u' ⟨hs.1.nx (fun k i a b => hg k i (by omega) (by omega)) hl, hs.2.1.nx (fun k i a b => hg k i (by omega) (by omega)) hl, hC.add hk hop w2 (w4.trans v4) (fun z => w5.trans (v5 z)) (fun z => w6.trans (v6 z)) hg, ?_, ?_⟩)
  · exact (hM.2.2.2.tf (Or.inr rfl) (Or.inl rfl) hs.2.2).cg (fun k i a b => hg k i (by omega) (by omega)) (fun k i _ _ => hl k i)
  · exact hs.2.2.cn.tr ⟨fun k i a b c d => hg k i (by omega) (by omega), fun k i _ => hl k i⟩
/-- with a FAULT too -/
theorem k_lineF {k0 j : Nat} {a1 a2 a3 : Int32} {Q : xM → Prop} (hM : MS B n D s op i u0) (hL : s.1 < 60) (hF : FT 40 B n k0 j u) (hw : wf 40 u0 u) (hq : EN B n u0 Q k0 j) : p_X4_add 63 a1 a2 a3 u Q := by
  refine k_X4add (L := s.1) ((hw.1 63 2 (by omega)).trans hM.2.2.1.2.1) hL (fun u' _ _ _ _ hg hl => hq u' (hF.nx ⟨hg 40 14 (by omega) (by omega), hg 40 15 (by omega) (by omega)⟩) (hw.cnf.tr ⟨fun k i a b c d => hg k i (by omega) (by omega), fun k i _ => hl k i⟩))
theorem k_addNum {kd most : Nat} (hM : MS B n D s op i u) (hL : s.1 < 60) (hm : most < 100000) (hk : kd = 0 ∨ kd = 10) (hop : (op = true) = opK kd) (hq : run (bnd (pNum B n 1 most i) fun v => ok (addO s op kd 0 v.1, v.2)) (EN B n u (Q false)) (fun a => ∀ u', RN B n D u a u' → Q true u')) : p_X5_addNumber (nI kd) (nI most) u Q := by
  unfold p_X5_addNumber
  rw [run_bnd] at hq
  refine k_takeNumber (a := 1) (Or.inr rfl) (by omega) hm ⟨hM.1, hM.2.1, tf.rf⟩ (run_mono hq (fun k j hE u' a b => k_lineF hM hL a b (fun u2 c d => ⟨fun _ => hE u2 c d, fun z => absurd rfl z⟩)) (fun v hq u' h' hv => k_line (k := kd) (t := 0) (m := v.1) h' hM hL (by omega) hop rfl (fun z => by unfold thK at z; omega) (fun _ => rfl) (fun u2 c => ⟨fun z => absurd z (nI_ne_m1 (by omega)), fun _ => hq u2 c⟩)))
theorem k_addDoor {kd : Nat} (hM : MS B n D s op i u) (hL : s.1 < 60) (hk : kd = 1 ∨ kd = 2 ∨ kd = 6) (hop : (op = true) = opK kd) (hq : run (bnd (pOld B n (D.2 1) (D.1 1 0) i) fun d => ok (addO s op kd d.1 0, d.2)) (EN B n u (Q false)) (fun a => ∀ u', RN B n D u a u' → Q true u')) : p_X5_addDoor (nI kd) 83 u Q := by
  have c1 := hM.2.2.2.2.1.d
  unfold p_X5_addDoor
  rw [run_bnd] at hq
  refine k_takeDoor (Or.inr rfl) (Or.inl rfl) ⟨hM.1, hM.2.1, tf.rf⟩ hM.2.2.2 (run_mono hq (fun k j hE u' a b => k_lineF hM hL a b (fun u2 c d => ⟨fun _ => hE u2 c d, fun z => absurd rfl z⟩)) (fun v hq u' h' hv => k_line (k := kd) (t := v.1) (m := 0) h' hM hL (by omega) hop rfl (fun _ => rfl) (fun _ => rfl) (fun u2 c => ⟨fun z => absurd z (nI_ne_m1 (by omega)), fun _ => hq u2 c⟩)))
theorem k_addBare {kd : Nat} (hM : MS B n D s op i u) (hL : s.1 < 60) (hk : kd = 4 ∨ kd = 11) (hop : (op = true) = opK kd) (hq : ∀ u', RN B n D u (addO s op kd 0 0, i) u' → Q true u') : p_X5_addBare (nI kd) u Q := by
  unfold p_X5_addBare
  exact k_line (k := kd) (t := 0) (m := 0) ⟨hM.1, hM.2.1, tf.rf⟩ hM hL (by omega) hop rfl (fun z => by unfold thK at z; omega) (fun z => by unfold nuK at z; omega) hq
theorem k_addBail (hM : MS B n D s false i u) (hL : s.1 < 60) (hq : run (bnd (pOld B n (D.2 0) (D.1 0 0) i) fun r => bnd (pNum B n 1 999 r.2) fun v => ok (addO s false 3 r.1 v.1, v.2)) (EN B n u (Q false)) (fun a => ∀ u', RN B n D u a u' → Q true u')) : p_X5_addBail 83 u Q := by
  have c0 := hM.2.2.2.2.1.r
  unfold p_X5_addBail
  rw [run_bnd] at hq
  refine k_takeRoom (Or.inr rfl) (Or.inl rfl) ⟨hM.1, hM.2.1, tf.rf⟩ hM.2.2.2 (run_mono hq (fun k j hE u' a b => ⟨fun z => absurd rfl z, fun _ => hE u' a b.cnf⟩) (fun r hq u' h' hr => ⟨fun _ => ?_, fun z => absurd z (nI_ne_m1 (by omega))⟩))
  rw [run_bnd] at hq
  refine k_takeNumber (a := 1) (b := 999) (Or.inr rfl) (by omega) (by omega) h' (run_mono hq (fun k j hE u' a b => k_lineF hM hL a b (fun u2 c d => ⟨fun _ => hE u2 c d, fun z => absurd rfl z⟩)) (fun v hq u' h' hv => k_line (k := 3) (t := r.1) (m := v.1) h' hM hL (by omega) (opk_f (by omega)) rfl (fun _ => rfl) (fun _ => rfl) (fun u2 c => ⟨fun z => absurd z (nI_ne_m1 (by omega)), fun _ => hq u2 c⟩)))
theorem sg13 {c : Nat} (hc : c < 256 ∧ 0 < c) (h : TL 40 B n i u) (hB : ∀ i, i < n → B i < 256) : (gi u 40 13 = nI c) = (sgT B n i c = true) := by
  rw [h.2.2.2.2.2.2.2]
  unfold sgT
  by_cases z3 : tK B n (pS B n i) = 3
  · have hb : B (tS B n (pS B n i)) < 256 := hB _ (by
      have : ¬ n ≤ tS B n (pS B n i) := by rw [← tK_0, z3]; decide
      omega)
    have eC : (tC B n (pS B n i)).toInt32 = nI (B (tS B n (pS B n i))) := by
      unfold tC
      rw [z3]
      show (LI (B (tS B n (pS B n i)))).toInt32 = _
      rw [← nI_L (by omega), Int32.toInt32_toInt64]
    rw [if_pos z3, eC, cEQ (by omega) (by omega)]
    simp [z3]
  · rw [if_neg z3, show ((0 : Int32) = nI c) = (0 = c) from cEQ (a := 0) (by omega) (by omega)]
    refine propext ⟨fun z => by omega, fun z => ?_⟩
    rw [decide_eq_false z3] at z
    exact absurd z (by simp)
theorem sgT_3 {c : Nat} (h : sgT B n i c = true) : tK B n (pS B n i) = 3 ∧ B (tS B n (pS B n i)) = c := by
  unfold sgT at h
  simpa using h
theorem k_addDepth {r : Nat} (hs : CS 40 B n i u0 u) (hr : r < 100) (hB : ∀ i, i < n → B i < 256) {i0 : Nat} (hM : MS B n D s true i0 u0) (hL : s.1 < 60) (hq : run (bnd (pDep B n r i) fun a => ok (addO s true a.1.1 a.1.2.1 a.1.2.2, a.2)) (EN B n u0 (Q false)) (fun a => ∀ u', RN B n D u0 a u' → Q true u')) : p_X5_addDepth (nI r) u Q := by
  have fin : ∀ kd, 7 ≤ kd ∧ kd ≤ 9 → tK B n (pS B n i) = 3 → run (pNum B n 0 9999 (i + 1)) (EN B n u0 (Q false)) (fun v => ∀ u', RN B n D u0 (addO s true kd r v.1, v.2) u' → Q true u') → ((¬ nI kd = (-1 : Int32) → p_X8_advance 40 u (fun u4 => p_X8_takeNumber 40 (0 : Int32) (9999 : Int32) u4 (fun r6 u5 => p_X4_add 63 (nI kd) (nI r) r6 u5 (fun u7 => ((r6 = (-1 : Int32) → Q false u7) ∧ (¬ (r6 = (-1 : Int32)) → Q true u7)))))) ∧ (nI kd = (-1 : Int32) → p_X8_wrong 40 (2 : Int32) u (fun r10 u9 => Q r10 u9))) := fun kd hk h3 hq => by
    refine ⟨fun _ => k_go (Or.inr rfl) hs (by omega) (by omega) (fun u4 h4 => ?_), fun z => absurd z (nI_ne_m1 (by omega))⟩
    exact k_takeNumber (a := 0) (b := 9999) (Or.inr rfl) (by omega) (by omega) h4 (run_mono hq (fun k j hE u' a b => k_lineF hM hL a b (fun u2 c d => ⟨fun _ => hE u2 c d, fun z => absurd rfl z⟩)) (fun v hq u' h' hv => k_line (k := kd) (t := r) (m := v.1) h' hM hL (by omega) (opk_t (by omega)) rfl (fun _ => rfl) (fun _ => rfl) (fun u2 c => ⟨fun z => absurd z (nI_ne_m1 (by omega)), fun _ => hq u2 c⟩)))
  unfold p_X5_addDepth p_X5_kindOf
  rw [run_bnd] at hq
  unfold pDep at hq
  rw [show (gi u 40 13 = (60 : Int32)) = _ from sg13 (c := 60) (by omega) hs.1 hB, show (gi u 40 13 = (61 : Int32)) = _ from sg13 (c := 61) (by omega) hs.1 hB, show (gi u 40 13 = (62 : Int32)) = _ from sg13 (c := 62) (by omega) hs.1 hB]
  refine ⟨fun z => ?_, fun z => ?_, fun z => ?_, fun z1 z2 z3 => ⟨fun z => absurd rfl z, fun _ => ?_⟩⟩
  · rw [if_pos z, run_bnd] at hq
    exact fin 7 (by omega) (sgT_3 z).1 hq
  · have z' := sgT_3 z
    rw [if_neg (fun y => by have := sgT_3 y; omega), if_neg (fun y => by have := sgT_3 y; omega), if_pos z, run_bnd] at hq
    exact fin 9 (by omega) z'.1 hq
  · have z' := sgT_3 z
    rw [if_neg (fun y => by have := sgT_3 y; omega), if_pos z, run_bnd] at hq
    exact fin 8 (by omega) z'.1 hq
  · rw [if_neg z1, if_neg z3, if_neg z2] at hq
    exact k_wrong (k := 2) hs.1 (fun u' a b => hq u' a (hs.2.2.wf.tr b).cnf)
theorem w11 {w : Nat} (hw : w < 28) (h : TL 40 B n i u) : (gi u 40 11 = nI w) = (wrd B n i = some w) := by
  rw [h.2.2.2.2.1, tW_wrd, eO_is (fun t ht => by have := wrd_lt ht; omega) (by omega)]
theorem k_readTest (hM : MS B n D s true i u) (hL : s.1 < 60) (hB : ∀ i, i < n → B i < 256) (hq : run (bnd (pTest B n D i) fun a => ok (addO s true a.1.1 a.1.2.1 a.1.2.2, a.2)) (EN B n u (Q false)) (fun a => ∀ u', RN B n D u a u' → Q true u')) : p_X5_readTest 83 u Q := by
  have c0 := hM.2.2.2.2.1.r
  have hs : CS 40 B n i u u := ⟨hM.1, hM.2.1, tf.rf⟩
  unfold p_X5_readTest
  intro x1 e1
  subst e1
  rw [show (gi u 40 11 = (23 : Int32)) = _ from w11 (w := 23) (by omega) hM.1, show (gi u 40 11 = (18 : Int32)) = _ from w11 (w := 18) (by omega) hM.1, show (gi u 40 11 = (24 : Int32)) = _ from w11 (w := 24) (by omega) hM.1]
  rw [run_bnd] at hq
  unfold pTest at hq
  have room : ∀ {Q' : xM → Prop} (u2 : xM), CS 40 B n (i + 1) u u2 → ∀ (P : Int32 → xM → Prop), True → True := fun _ _ _ _ => trivial
  unfold p_X5_readTest_L35
  rw [show (gi u 40 11 = (18 : Int32)) = _ from w11 (w := 18) (by omega) hM.1, show (gi u 40 11 = (24 : Int32)) = _ from w11 (w := 24) (by omega) hM.1]
  refine ⟨fun z => ?_, fun z1 => ⟨fun z => ?_, fun z2 => ⟨fun z => ?_, fun z3 => ?_⟩⟩⟩
  · have h1 := wrd_1 z
    rw [if_pos z, run_bnd] at hq
    refine k_go (Or.inr rfl) hs (by omega) (by omega) (fun u2 h2 => ⟨fun _ => ?_, fun y => absurd (z.symm.trans y) (by decide)⟩)
    refine k_takeRoom (Or.inr rfl) (Or.inl rfl) h2 hM.2.2.2 (run_mono hq (fun k j hE u' a b => ⟨fun y => absurd rfl y, fun _ => hE u' a b.cnf⟩) (fun r hq u' h' hr => ⟨fun _ => ⟨fun _ => ?_, fun y => absurd (z.symm.trans y) (by decide)⟩, fun y => absurd y (nI_ne_m1 (by omega))⟩))
    exact k_line (k := 5) (t := r.1) (m := 0) h' hM hL (by omega) (opk_t (by omega)) rfl (fun _ => rfl) (fun _ => rfl) (fun u2 c => hq u2 c)
  · have h1 := wrd_1 z
    rw [if_neg z1, if_pos z, run_bnd] at hq
    refine k_go (Or.inr rfl) hs (by omega) (by omega) (fun u2 h2 => ⟨fun y => absurd z y, fun _ => ?_⟩)
    unfold p_X5_addDoor
    refine k_takeDoor (Or.inr rfl) (Or.inl rfl) h2 hM.2.2.2 (run_mono hq (fun k j hE u' a b => k_lineF hM hL a b (fun u2 c d => ⟨fun _ => hE u2 c d, fun z => absurd rfl z⟩)) (fun v hq u' h' hv => k_line (k := 6) (t := v.1) (m := 0) h' hM hL (by omega) (opk_t (by omega)) rfl (fun _ => rfl) (fun _ => rfl) (fun u2 c => ⟨fun z => absurd z (nI_ne_m1 (by have := hM.2.2.2.2.1.d; omega)), fun _ => hq u2 c⟩)))
  · have h1 := wrd_1 z
    rw [if_neg z1, if_neg z2, if_pos z, run_bnd] at hq
    refine k_go (Or.inr rfl) hs (by omega) (by omega) (fun u2 h2 => ⟨fun _ => ?_, fun y => absurd y z2⟩)
    refine k_takeRoom (Or.inr rfl) (Or.inl rfl) h2 hM.2.2.2 (run_mono hq (fun k j hE u' a b => ⟨fun y => absurd rfl y, fun _ => hE u' a b.cnf⟩) (fun r hq u' h' hr => ⟨fun _ => ⟨fun y => absurd z y, fun _ => ?_⟩, fun y => absurd y (nI_ne_m1 (by omega))⟩))
    exact k_addDepth h' (by omega) hB hM hL (by rw [run_bnd]; exact hq)
  · rw [if_neg z1, if_neg z2, if_neg z3] at hq
    exact k_wrong (k := 2) hM.1 (fun u' a b => hq u' a b.cnf)
theorem MS.tf {j : Nat} (h : MS B n D s op i u) (hs : CS 40 B n j u u') : MS B n D s op j u' := ⟨hs.1, hs.2.1, h.2.2.1.tf hs.2.2, h.2.2.2.tf (Or.inr rfl) (Or.inl rfl) hs.2.2⟩
theorem EN.mv {k j : Nat} {P : xM → Prop} (h : EN B n u0 P k j) (hf : cn u0 u) : EN B n u P k j := fun u' a b => h u' a (hf.cnf.tr b)
theorem RN.mv {a : NS × Nat} (h : RN B n D u a u') (hf : cn u0 u) : RN B n D u0 a u' := ⟨h.1, h.2.1, h.2.2.1, h.2.2.2.1, hf.tr h.2.2.2.2⟩
theorem k_readStep (hb : bgW B n i = true) (hM : MS B n D s (opW B n i) i u) (hL : s.1 < 60) (hB : ∀ i, i < n → B i < 256) (hq : run (bnd (pOrd B n D i) fun a => ok (addO s (opW B n i) a.1.1 a.1.2.1 a.1.2.2, a.2)) (EN B n u (Q false)) (fun a => ∀ u', RN B n D u a u' → Q true u')) : p_X5_readStep 83 u Q := by
  have is : ∀ w, w < 28 → ((gi u 40 11 = nI w) = (wrd B n i = some w)) := fun w hw => w11 hw hM.1
  have h1 : tK B n (pS B n i) = 1 := by
    cases c : wrd B n i with
    | some t => exact wrd_1 c
    | none =>
      unfold bgW at hb
      rw [c] at hb
      exact absurd hb (by decide)
  unfold p_X5_readStep
  intro x1 e1
  subst e1
  refine k_go (Or.inr rfl) ⟨hM.1, hM.2.1, tf.rf⟩ (by omega) (by omega) (fun u2 h2 => ?_)
  have hM2 := hM.tf h2
  have f2 : cn u u2 := h2.2.2.cn
  rw [show (gi u 40 11 = 17) = _ from is 17 (by omega), show (gi u 40 11 = 18) = _ from is 18 (by omega), show (gi u 40 11 = 19) = _ from is 19 (by omega), show (gi u 40 11 = 20) = _ from is 20 (by omega), show (gi u 40 11 = 21) = _ from is 21 (by omega), show (gi u 40 11 = 22) = _ from is 22 (by omega), show (gi u 40 11 = 23) = _ from is 23 (by omega), show (gi u 40 11 = 24) = _ from is 24 (by omega), show (gi u 40 11 = 25) = _ from is 25 (by omega)]
  rw [run_bnd] at hq
  unfold pOrd at hq
  have cv : ∀ {X : Type} {x : EX X} {K : X → Prop} {K' : X → Prop}, run x (EN B n u (Q false)) K → (∀ a, K a → K' a) → run x (EN B n u2 (Q false)) K' := fun h hk => run_mono h (fun k j hE => hE.mv f2) hk
  refine ⟨fun z => ?_, fun z => ?_, fun z => ?_, fun z => ?_, fun z => ?_, fun z => ?_, fun z => ?_, fun z => ?_, fun z => ?_, fun z17 z18 z19 z20 z21 z22 z23 z24 z25 => ?_⟩
  · have e : opW B n i = false := by unfold opW; rw [z]; decide
    rw [e] at hM2 hq
    rw [if_pos z, run_bnd] at hq
    exact k_addNum (kd := 0) (most := 12) hM2 hL (by omega) (by omega) (opk_f (by omega)) (by rw [run_bnd]; exact cv hq (fun v hq u' hR => hq u' (hR.mv f2)))
  · have e : opW B n i = false := by unfold opW; rw [z]; decide
    rw [e] at hM2 hq
    rw [if_neg (by rw [z]; decide), if_pos z, run_bnd] at hq
    exact k_addDoor (kd := 1) hM2 hL (by omega) (opk_f (by omega)) (by rw [run_bnd]; exact cv hq (fun v hq u' hR => hq u' (hR.mv f2)))
  · have e : opW B n i = false := by unfold opW; rw [z]; decide
    rw [e] at hM2 hq
    rw [if_neg (by rw [z]; decide), if_neg (by rw [z]; decide), if_pos z, run_bnd] at hq
    exact k_addDoor (kd := 2) hM2 hL (by omega) (opk_f (by omega)) (by rw [run_bnd]; exact cv hq (fun v hq u' hR => hq u' (hR.mv f2)))
  · have e : opW B n i = false := by unfold opW; rw [z]; decide
    rw [e] at hM2 hq
    rw [if_neg (by rw [z]; decide), if_neg (by rw [z]; decide), if_neg (by rw [z]; decide), if_pos z, run_bnd] at hq
    refine k_addBail hM2 hL ?_
    rw [run_bnd]
    refine cv hq (fun r hq => ?_)
    rw [run_bnd] at hq ⊢
    exact cv hq (fun v hq u' hR => hq u' (hR.mv f2))
  · have e : opW B n i = false := by unfold opW; rw [z]; decide
    rw [e] at hM2 hq
    rw [if_neg (by rw [z]; decide), if_neg (by rw [z]; decide), if_neg (by rw [z]; decide), if_neg (by rw [z]; decide), if_pos z] at hq
    exact k_addBare (kd := 4) hM2 hL (by omega) (opk_f (by omega)) (fun u' hR => hq u' (hR.mv f2))
  · have e : opW B n i = true := by unfold opW; rw [z]; decide
    rw [e] at hM2 hq
    rw [if_neg (by rw [z]; decide), if_neg (by rw [z]; decide), if_neg (by rw [z]; decide), if_neg (by rw [z]; decide), if_neg (by rw [z]; decide), if_pos z] at hq
    exact k_readTest hM2 hL hB (by rw [run_bnd]; exact cv hq (fun v hq u' hR => hq u' (hR.mv f2)))
  · exfalso
    unfold bgW at hb
    rw [z] at hb
    exact absurd hb (by decide)
  · exfalso
    unfold bgW at hb
    rw [z] at hb
    exact absurd hb (by decide)
  · have e : opW B n i = true := by unfold opW; rw [z]; decide
    rw [e] at hM2 hq
    rw [if_neg (by rw [z]; decide), if_neg (by rw [z]; decide), if_neg (by rw [z]; decide), if_neg (by rw [z]; decide), if_neg (by rw [z]; decide), if_neg (by rw [z]; decide), if_pos z, run_bnd] at hq
    exact k_addNum (kd := 10) (most := 99) hM2 hL (by omega) (by omega) (opk_t (by omega)) (by rw [run_bnd]; exact cv hq (fun v hq u' hR => hq u' (hR.mv f2)))
  · have e : opW B n i = false := by
      unfold opW
      rw [decide_eq_false z22, decide_eq_false z25]
      rfl
    rw [e] at hM2 hq
    rw [if_neg z17, if_neg z18, if_neg z19, if_neg z20, if_neg z21, if_neg z22, if_neg z25] at hq
    exact k_addBare (kd := 11) hM2 hL (by omega) (opk_f (by omega)) (fun u' hR => hq u' (hR.mv f2))
end NIGHTC
