/-! ===== the class reads a LAND ===== -/
def gn (u u' : xM) : Prop := (∀ k i, ¬ (k = 34 ∧ 7 ≤ i ∧ i ≤ 13) → ¬ (164 ≤ k ∧ k ≤ 190) → gi u' k i = gi u k i) ∧ ∀ k i, ¬ (k = 34 ∧ i = 10) → ¬ (164 ≤ k ∧ k ≤ 190) → gl u' k i = gl u k i
def gf (u u' : xM) : Prop := (∀ k i, ¬ (k = 34 ∧ 7 ≤ i) → ¬ (164 ≤ k ∧ k ≤ 190) → gi u' k i = gi u k i) ∧ ∀ k i, ¬ (k = 34 ∧ i = 10) → ¬ (164 ≤ k ∧ k ≤ 190) → gl u' k i = gl u k i
/-- what has been read: the next token, the draft -/
def RD (B : Nat → Nat) (n : Nat) (u0 : xM) (a : DR × Nat) (u : xM) : Prop := TL 34 B n a.2 u ∧ TXT 34 B n u ∧ CL 164 a.1 u ∧ gn u0 u
def EF (B : Nat → Nat) (n : Nat) (u0 : xM) (Q : xM → Prop) (k i : Nat) : Prop := ∀ u', FT 34 B n k i u' → gf u0 u' → Q u'
section READS
variable {B : Nat → Nat} {n : Nat} {u u' u0 : xM} {i : Nat} {D : DR} {Q : Bool → xM → Prop}
theorem gn.rf : gn u u := ⟨fun _ _ _ _ => rfl, fun _ _ _ _ => rfl⟩
theorem gn.tr {w : xM} (h : gn u u') (h' : gn u' w) : gn u w := ⟨fun k i a b => (h'.1 k i a b).trans (h.1 k i a b), fun k i a b => (h'.2 k i a b).trans (h.2 k i a b)⟩
theorem gn.gf (h : gn u u') : gf u u' := ⟨fun k i a b => h.1 k i (by omega) b, h.2⟩
theorem gf.tr {w : xM} (h : gf u u') (h' : gf u' w) : gf u w := ⟨fun k i a b => (h'.1 k i a b).trans (h.1 k i a b), fun k i a b => (h'.2 k i a b).trans (h.2 k i a b)⟩
theorem wf.gf (h : wf 34 u u') : gf u u' := ⟨fun k i a _ => h.1 k i a, fun k i a _ => h.2 k i a⟩
theorem tf.gn (h : tf 34 u u') : gn u u' := ⟨fun k i a _ => h.1 k i a, fun k i a _ => h.2 k i a⟩
theorem TL.lo {o : Nat} (ho : o = 34 ∨ o = 40) (h : TL o B n i u) (hg : ∀ k i, k < 46 → gi u' k i = gi u k i) (hl : ∀ k i, k < 46 → gl u' k i = gl u k i) : TL o B n i u' := by
  unfold TL at h ⊢
  rw [hg o 7 (by omega), hg o 8 (by omega), hg o 9 (by omega), hg o 11 (by omega), hl o 10 (by omega), hg o 12 (by omega), hg o 13 (by omega)]
  exact h
theorem TXT.lo {o : Nat} (ho : o = 34 ∨ o = 40) (h : TXT o B n u) (hg : ∀ k i, k < 46 → gi u' k i = gi u k i) (hl : ∀ k i, k < 46 → gl u' k i = gl u k i) : TXT o B n u' := by
  obtain ⟨cnt, h1, h2, h3, h4⟩ := h
  refine ⟨cnt, (hg o 6 (by omega)).trans h1, h2, h3, fun i hi => ?_⟩
  unfold ENT
  rw [hg (o + 2) i (by omega), hg (o + 3) i (by omega), hl (o + 4) i (by omega), hg (o + 5) i (by omega)]
  exact h4 i hi
/-- the draft alone has been written -/
theorem RD.w {a : DR × Nat} (h : CS 34 B n a.2 u0 u) (hc : CL 164 a.1 u') (hg : ∀ k i, ¬ (164 ≤ k ∧ k ≤ 190) → gi u' k i = gi u k i) (hl : ∀ k i, ¬ (164 ≤ k ∧ k ≤ 190) → gl u' k i = gl u k i) : RD B n u0 a u' := ⟨h.1.lo (Or.inl rfl) (fun k i hk => hg k i (by omega)) (fun k i hk => hl k i (by omega)), h.2.1.lo (Or.inl rfl) (fun k i hk => hg k i (by omega)) (fun k i hk => hl k i (by omega)), hc, h.2.2.gn.tr ⟨fun k i _ b => hg k i b, fun k i _ b => hl k i b⟩⟩
theorem CL.tf (h : CL 164 D u) (hf : tf 34 u u') : CL 164 D u' := by
  obtain ⟨h1, h2, h3, h4⟩ := h
  have r21 : ∀ f, f < 24 → rlO f ≤ 26 := by decide
  refine ⟨h1.cg (fun f hf' i => hf.1 _ _ (by omega)), fun i hi => ?_, fun i hi => ?_, fun i hi => ?_⟩
  · rw [hf.2 (164 + 2) i (by omega)]; exact h2 i hi
  · rw [hf.2 (164 + 10) i (by omega)]; exact h3 i hi
  · rw [hf.2 (164 + 17) i (by omega)]; exact h4 i hi
theorem lg00 : lg_cmp (0 : Int64) 0 = 0 := by decide
theorem nm_n0 {l : List Nat} (h : isNm l) : ¬ lg_cmp (Int64.ofNat (c5 l)) 0 = 0 := by
  rw [lg_cmp_eq]
  intro y
  have h1 := c5_lt h.2.2 h.2.1
  have h2 := c5_pos h.2.2 h.1
  have := oN_inj (a := c5 l) (b := 0) (by omega) (by omega) y
  omega
theorem k_readRoom (hT : TL 34 B n i u) (hX : TXT 34 B n u) (hC : CL 164 D u) (hD : okD D) (hB : ∀ i, i < n → B i < 256) (h1 : tK B n (pS B n i) = 1) (hq : run (bnd (pRoom B n D i) fun a => bnd (pStop B n a.2) fun j => ok (a.1, j)) (EF B n u (Q false)) (fun a => ∀ u', RD B n u a u' → Q true u')) : p_X2_readRoom u Q := by
  have c0 := hD.1.r
  have hN := hC.cn hD
  unfold p_X2_readRoom
  rw [hC.1.f0, show ((nI (D.1 0 0)) < (7 : Int32)) = (D.1 0 0 < 7) from cLT (b := 7) (by omega) (by omega)]
  unfold pRoom at hq
  refine ⟨fun c => ?_, fun c => ?_⟩
  · rw [if_neg (by omega)] at hq
    simp only [run_bnd, run_ok] at hq
    refine k_go (Or.inl rfl) ⟨hT, hX, tf.rf⟩ (by omega) (by omega) (fun u2 s2 => k_takeNewName (Or.inl rfl) (Or.inr rfl) s2 hN (run_mono hq (fun k i hE u' a b => ⟨fun _ => hE u' a b.gf, fun z => absurd lg00 z⟩) (fun i3 hq u3 s3 hnm => ⟨fun z => absurd z (nm_n0 hnm), fun _ => ?_⟩)))
    refine k_takeWord (w := 1) (Or.inl rfl) (by omega) s3 (run_mono hq (fun k i hE u' a b => ⟨fun z => absurd z (by decide), fun _ => hE u' a b.gf⟩) (fun i4 hq u4 s4 => ⟨fun _ => ?_, fun z => absurd z (by decide)⟩))
    refine k_takeNumber (a := 0) (b := 99) (Or.inl rfl) (by omega) (by omega) s4 (run_mono hq (fun k i hE u' a b => ⟨fun z => absurd rfl z, fun _ => hE u' a b.gf⟩) (fun f hq u5 s5 v5 => ⟨fun _ => ?_, fun z => absurd z (nI_ne_m1 (by omega))⟩))
    refine k_takeNumberBehind (w := 2) (a := 1) (b := 20) (d := 1) (Or.inl rfl) (by omega) (by omega) (by omega) (by omega) s5 (run_mono hq (fun k i hE u' a b => ⟨fun z => absurd rfl z, fun _ => hE u' a b.gf⟩) (fun ar hq u6 s6 v6 => ⟨fun _ => ?_, fun z => absurd z (nI_ne_m1 (by omega))⟩))
    refine k_takeNumberBehind (w := 3) (a := 1) (b := 99) (d := 10) (Or.inl rfl) (by omega) (by omega) (by omega) (by omega) s6 (run_mono hq (fun k i hE u' a b => ⟨fun z => absurd rfl z, fun _ => hE u' a b.gf⟩) (fun be hq u7 s7 v7 => ⟨fun _ => ?_, fun z => absurd z (nI_ne_m1 (by omega))⟩))
    refine k_takeNumberBehind (w := 4) (a := 0) (b := 999) (d := 0) (Or.inl rfl) (by omega) (by omega) (by omega) (by omega) s7 (run_mono hq (fun k i hE u' a b => ⟨fun _ => hE u' a b.gf, fun z => absurd rfl z⟩) (fun wa hq u8 s8 v8 => ⟨fun z => absurd z (nI_ne_m1 (by omega)), fun _ => ?_⟩))
    refine k_takeStop (Or.inl rfl) hB s8 (run_mono hq (fun k i hE u' a b => ⟨fun z => absurd z (by decide), fun _ => hE u' a b.gf⟩) (fun i9 hq u9 s9 => ⟨fun _ => ?_, fun z => absurd z (by decide)⟩))
    have hC9 := hC.tf s9.2.2
    refine k_X7add (c := D.1 0 0) hC9.1.f0 c (fun u10 w0 w1 w2 w3 w4 w5 w6 w7 hg hl => hq u10 (RD.w (a := (_, _)) s9 (hC9.addR ⟨(hD.2.2.1 _ (Nat.le_refl _)).1, hD.2.2.2.1 _⟩ w0 w1 w2 w3 w4 w5 w6 w7 hg hl) (fun k i hk => hg k i (by omega) (by omega)) (fun k i hk => hl k i (by omega))))
  · rw [if_pos (by omega)] at hq
    exact k_wrong (k := 6) hT (fun u' a b => hq u' a b.gf)
theorem k_readDoor (hT : TL 34 B n i u) (hX : TXT 34 B n u) (hC : CL 164 D u) (hD : okD D) (hB : ∀ i, i < n → B i < 256) (h1 : tK B n (pS B n i) = 1) (hq : run (bnd (pDoor B n D i) fun a => bnd (pStop B n a.2) fun j => ok (a.1, j)) (EF B n u (Q false)) (fun a => ∀ u', RD B n u a u' → Q true u')) : p_X2_readDoor u Q := by
  have c0 := hD.1.d
  have hN := hC.cn hD
  unfold p_X2_readDoor
  rw [hC.1.f1, show ((nI (D.1 1 0)) < (10 : Int32)) = (D.1 1 0 < 10) from cLT (b := 10) (by omega) (by omega)]
  unfold pDoor at hq
  refine ⟨fun c => ?_, fun c => ?_⟩
  · rw [if_neg (by omega)] at hq
    simp only [run_bnd, run_ok] at hq
    refine k_go (Or.inl rfl) ⟨hT, hX, tf.rf⟩ (by omega) (by omega) (fun u2 s2 => k_takeNewName (Or.inl rfl) (Or.inr rfl) s2 hN (run_mono hq (fun k i hE u' a b => ⟨fun _ => hE u' a b.gf, fun z => absurd lg00 z⟩) (fun i3 hq u3 s3 hnm => ⟨fun z => absurd z (nm_n0 hnm), fun _ => ?_⟩)))
    refine k_takeWord (w := 6) (Or.inl rfl) (by omega) s3 (run_mono hq (fun k i hE u' a b => ⟨fun z => absurd z (by decide), fun _ => hE u' a b.gf⟩) (fun i4 hq u4 s4 => ⟨fun _ => ?_, fun z => absurd z (by decide)⟩))
    refine k_takeEnd (oth := none) s4 hN (fun t ht => absurd ht (by simp)) (run_mono hq (fun k i hE u' a b => ⟨fun _ => hE u' a b.gf, fun z => absurd rfl z⟩) (fun e hq u5 s5 v5 => ⟨fun z => absurd z (nI_ne_m1 (by omega)), fun _ => ?_⟩))
    refine k_takeWord (w := 7) (Or.inl rfl) (by omega) s5 (run_mono hq (fun k i hE u' a b => ⟨fun z => absurd z (by decide), fun _ => hE u' a b.gf⟩) (fun i6 hq u6 s6 => ⟨fun _ => ?_, fun z => absurd z (by decide)⟩))
    refine k_takeEnd (oth := some e.1) s6 hN (fun t ht => by cases ht; omega) (run_mono hq (fun k i hE u' a b => ⟨fun _ => hE u' a b.gf, fun z => absurd rfl z⟩) (fun g hq u7 s7 v7 => ⟨fun z => absurd z (nI_ne_m1 (by omega)), fun _ => ?_⟩))
    refine k_takeWord (w := 8) (Or.inl rfl) (by omega) s7 (run_mono hq (fun k i hE u' a b => ⟨fun z => absurd z (by decide), fun _ => hE u' a b.gf⟩) (fun i8 hq u8 s8 => ⟨fun _ => ?_, fun z => absurd z (by decide)⟩))
    refine k_takeNumber (a := 0) (b := 99) (Or.inl rfl) (by omega) (by omega) s8 (run_mono hq (fun k i hE u' a b => ⟨fun z => absurd rfl z, fun _ => hE u' a b.gf⟩) (fun s hq u9 s9 v9 => ⟨fun _ => ?_, fun z => absurd z (nI_ne_m1 (by omega))⟩))
    refine k_takeNumberBehind (w := 9) (a := 1) (b := 9) (d := 1) (Or.inl rfl) (by omega) (by omega) (by omega) (by omega) s9 (run_mono hq (fun k i hE u' a b => ⟨fun z => absurd rfl z, fun _ => hE u' a b.gf⟩) (fun w hq u10 s10 v10 => ⟨fun _ => ?_, fun z => absurd z (nI_ne_m1 (by omega))⟩))
    refine k_takeNumberBehind (w := 10) (a := 0) (b := 9) (d := 0) (Or.inl rfl) (by omega) (by omega) (by omega) (by omega) s10 (run_mono hq (fun k i hE u' a b => ⟨fun _ => hE u' a b.gf, fun z => absurd rfl z⟩) (fun lk hq u11 s11 v11 => ⟨fun z => absurd z (nI_ne_m1 (by omega)), fun _ => ?_⟩))
    refine k_takeStop (Or.inl rfl) hB s11 (run_mono hq (fun k i hE u' a b => ⟨fun z => absurd z (by decide), fun _ => hE u' a b.gf⟩) (fun i12 hq u12 s12 => ⟨fun _ => ?_, fun z => absurd z (by decide)⟩))
    have hC9 := hC.tf s12.2.2
    refine k_X0add (c := D.1 1 0) hC9.1.f1 c (fun u13 w0 w1 w2 w3 w4 w5 w6 hg hl => hq u13 (RD.w (a := (_, _)) s12 (hC9.addD w0 w1 w2 w3 w4 w5 w6 hg hl) (fun k i hk => hg k i (by omega) (by omega)) (fun k i hk => hl k i (by omega))))
  · rw [if_pos (by omega)] at hq
    exact k_wrong (k := 6) hT (fun u' a b => hq u' a b.gf)
theorem k_readErrand (hT : TL 34 B n i u) (hX : TXT 34 B n u) (hC : CL 164 D u) (hD : okD D) (hB : ∀ i, i < n → B i < 256) (h1 : tK B n (pS B n i) = 1) (hq : run (bnd (pErr B n D i) fun a => bnd (pStop B n a.2) fun j => ok (a.1, j)) (EF B n u (Q false)) (fun a => ∀ u', RD B n u a u' → Q true u')) : p_X2_readErrand u Q := by
  have c0 := hD.1.e
  have c1 := hD.1.d
  have hN := hC.cn hD
  unfold p_X2_readErrand
  rw [hC.1.f2, show ((nI (D.1 2 0)) < (4 : Int32)) = (D.1 2 0 < 4) from cLT (b := 4) (by omega) (by omega)]
  unfold pErr at hq
  refine ⟨fun c => ?_, fun c => ?_⟩
  · rw [if_neg (by omega)] at hq
    simp only [run_bnd, run_ok] at hq
    refine k_go (Or.inl rfl) ⟨hT, hX, tf.rf⟩ (by omega) (by omega) (fun u2 s2 => k_takeNewName (Or.inl rfl) (Or.inr rfl) s2 hN (run_mono hq (fun k i hE u' a b => ⟨fun _ => hE u' a b.gf, fun z => absurd lg00 z⟩) (fun i3 hq u3 s3 hnm => ⟨fun z => absurd z (nm_n0 hnm), fun _ => ?_⟩)))
    refine k_takeWord (w := 15) (Or.inl rfl) (by omega) s3 (run_mono hq (fun k i hE u' a b => ⟨fun z => absurd z (by decide), fun _ => hE u' a b.gf⟩) (fun i4 hq u4 s4 => ⟨fun _ => ?_, fun z => absurd z (by decide)⟩))
    refine k_takeDoor (Or.inl rfl) (Or.inr rfl) s4 hN (run_mono hq (fun k i hE u' a b => ⟨fun _ => hE u' a b.gf, fun z => absurd rfl z⟩) (fun d hq u5 s5 v5 => ⟨fun z => absurd z (nI_ne_m1 (by omega)), fun _ => ?_⟩))
    refine k_takeWord (w := 6) (Or.inl rfl) (by omega) s5 (run_mono hq (fun k i hE u' a b => ⟨fun z => absurd z (by decide), fun _ => hE u' a b.gf⟩) (fun i6 hq u6 s6 => ⟨fun _ => ?_, fun z => absurd z (by decide)⟩))
    refine k_takeNumber (a := 0) (b := 11) (Or.inl rfl) (by omega) (by omega) s6 (run_mono hq (fun k i hE u' a b => ⟨fun _ => hE u' a b.gf, fun z => absurd rfl z⟩) (fun f hq u7 s7 v7 => ⟨fun z => absurd z (nI_ne_m1 (by omega)), fun _ => ?_⟩))
    refine k_takeWord (w := 7) (Or.inl rfl) (by omega) s7 (run_mono hq (fun k i hE u' a b => ⟨fun z => absurd z (by decide), fun _ => hE u' a b.gf⟩) (fun i8 hq u8 s8 => ⟨fun _ => ?_, fun z => absurd z (by decide)⟩))
    refine k_takeNumber (a := f.1) (b := 11) (Or.inl rfl) (by omega) (by omega) s8 (run_mono hq (fun k i hE u' a b => ⟨fun _ => hE u' a b.gf, fun z => absurd rfl z⟩) (fun t hq u9 s9 v9 => ⟨fun z => absurd z (nI_ne_m1 (by omega)), fun _ => ?_⟩))
    refine k_takeStop (Or.inl rfl) hB s9 (run_mono hq (fun k i hE u' a b => ⟨fun z => absurd z (by decide), fun _ => hE u' a b.gf⟩) (fun i12 hq u12 s12 => ⟨fun _ => ?_, fun z => absurd z (by decide)⟩))
    have hC9 := hC.tf s12.2.2
    refine k_addErrand (c := D.1 2 0) hC9.1.f2 c (fun u13 w0 w1 w2 w3 w4 hg hl => hq u13 (RD.w (a := (_, _)) s12 (hC9.addE w0 w1 w2 w3 w4 hg hl) (fun k i hk => hg k i (by omega) (by omega)) (fun k i hk => hl k i (by omega))))
  · rw [if_pos (by omega)] at hq
    exact k_wrong (k := 6) hT (fun u' a b => hq u' a b.gf)
theorem si_fr {k0 i0 : Nat} {x : Int32} (h : 164 ≤ k0 ∧ k0 ≤ 190) : (∀ k i, ¬ (164 ≤ k ∧ k ≤ 190) → gi (si u k0 i0 x) k i = gi u k i) ∧ ∀ k i, ¬ (164 ≤ k ∧ k ≤ 190) → gl (si u k0 i0 x) k i = gl u k i := ⟨fun k i hk => by rw [gi_si, if_neg (by omega)], fun _ _ _ => rfl⟩
theorem k_readTide (hT : TL 34 B n i u) (hX : TXT 34 B n u) (hC : CL 164 D u) (hD : okD D) (hB : ∀ i, i < n → B i < 256) (h1 : tK B n (pS B n i) = 1) (hq : run (bnd (pTide B n D i) fun a => bnd (pStop B n a.2) fun j => ok (a.1, j)) (EF B n u (Q false)) (fun a => ∀ u', RD B n u a u' → Q true u')) : p_X2_readTide u Q := by
  have hN := hC.cn hD
  unfold p_X2_readTide
  unfold pTide at hq
  simp only [run_bnd, run_ok] at hq
  refine k_go (Or.inl rfl) ⟨hT, hX, tf.rf⟩ (by omega) (by omega) (fun u2 s2 => k_takeNumber (a := 0) (b := 11) (Or.inl rfl) (by omega) (by omega) s2 (run_mono (run_and hq g_num (fun k i x _ => x) (fun a x y => And.intro x y)) (fun k i hE u' a b => ⟨fun z => absurd rfl z, fun _ => hE u' a b.gf⟩) (fun t hq u3 s3 v3 => ⟨fun _ => ?_, fun z => absurd z (nI_ne_m1 (by omega))⟩)))
  obtain ⟨hq, hr⟩ := hq
  refine k_takeNumber (a := 0) (b := 99) (Or.inl rfl) (by omega) (by omega) s3 (run_mono hq (fun k i hE u' a b => ⟨fun _ => hE u' a b.gf, fun z => absurd rfl z⟩) (fun v hq u4 s4 v4 => ⟨fun z => absurd z (nI_ne_m1 (by omega)), fun _ => ?_⟩))
  refine k_takeStop (Or.inl rfl) hB s4 (run_mono hq (fun k i hE u' a b => ⟨fun z => absurd z (by decide), fun _ => hE u' a b.gf⟩) (fun i5 hq u5 s5 => ⟨fun _ => ⟨cIN (by omega) (by omega), fun u6 q6 => hq u6 ?_⟩, fun z => absurd z (by decide)⟩))
  rw [q6, cCL (by omega)]
  exact RD.w (a := (_, _)) s5 ((hC.tf s5.2.2).sU (f := 18) rfl (by omega) (by omega) (by omega) (by omega) (by show _ < 12; omega) rfl rfl (by show _ = 0 + _; omega)) (si_fr (by omega)).1 (si_fr (by omega)).2
theorem k_readPump (hT : TL 34 B n i u) (hX : TXT 34 B n u) (hC : CL 164 D u) (hD : okD D) (hB : ∀ i, i < n → B i < 256) (h1 : tK B n (pS B n i) = 1) (hq : run (bnd (pPump B n D i) fun a => bnd (pStop B n a.2) fun j => ok (a.1, j)) (EF B n u (Q false)) (fun a => ∀ u', RD B n u a u' → Q true u')) : p_X2_readPump u Q := by
  have hN := hC.cn hD
  have c0 := hD.1.r
  unfold p_X2_readPump
  unfold pPump at hq
  simp only [run_bnd, run_ok] at hq
  refine k_go (Or.inl rfl) ⟨hT, hX, tf.rf⟩ (by omega) (by omega) (fun u2 s2 => k_takeRoom (Or.inl rfl) (Or.inr rfl) s2 hN (run_mono hq (fun k i hE u' a b => ⟨fun z => absurd rfl z, fun _ => hE u' a b.gf⟩) (fun t hq u3 s3 v3 => ⟨fun _ => ?_, fun z => absurd z (nI_ne_m1 (by omega))⟩)))
  refine k_takeNumber (a := 0) (b := 99) (Or.inl rfl) (by omega) (by omega) s3 (run_mono hq (fun k i hE u' a b => ⟨fun _ => hE u' a b.gf, fun z => absurd rfl z⟩) (fun v hq u4 s4 v4 => ⟨fun z => absurd z (nI_ne_m1 (by omega)), fun _ => ?_⟩))
  refine k_takeStop (Or.inl rfl) hB s4 (run_mono hq (fun k i hE u' a b => ⟨fun z => absurd z (by decide), fun _ => hE u' a b.gf⟩) (fun i5 hq u5 s5 => ⟨fun _ => ⟨cIN (by omega) (by omega), fun u6 q6 => hq u6 ?_⟩, fun z => absurd z (by decide)⟩))
  rw [q6, cCL (by omega)]
  exact RD.w (a := (_, _)) s5 ((hC.tf s5.2.2).sU (f := 7) rfl (by omega) (by omega) (by omega) (by omega) v3 rfl rfl (by show _ = 0 + _; omega)) (si_fr (by omega)).1 (si_fr (by omega)).2
theorem k_readRota (hT : TL 34 B n i u) (hX : TXT 34 B n u) (hC : CL 164 D u) (hD : okD D) (hB : ∀ i, i < n → B i < 256) (h1 : tK B n (pS B n i) = 1) (hq : run (bnd (pRota B n D i) fun a => bnd (pStop B n a.2) fun j => ok (a.1, j)) (EF B n u (Q false)) (fun a => ∀ u', RD B n u a u' → Q true u')) : p_X2_readRota u Q := by
  have hN := hC.cn hD
  have c0 := hD.1.d
  unfold p_X2_readRota
  unfold pRota at hq
  simp only [run_bnd, run_ok] at hq
  refine k_go (Or.inl rfl) ⟨hT, hX, tf.rf⟩ (by omega) (by omega) (fun u2 s2 => k_takeNumber (a := 0) (b := 11) (Or.inl rfl) (by omega) (by omega) s2 (run_mono (run_and hq g_num (fun k i x _ => x) (fun a x y => And.intro x y)) (fun k i hE u' a b => ⟨fun z => absurd rfl z, fun _ => hE u' a b.gf⟩) (fun t hq u3 s3 v3 => ⟨fun _ => ?_, fun z => absurd z (nI_ne_m1 (by omega))⟩)))
  obtain ⟨hq, hr⟩ := hq
  refine k_takeDoor (Or.inl rfl) (Or.inr rfl) s3 hN (run_mono hq (fun k i hE u' a b => ⟨fun _ => hE u' a b.gf, fun z => absurd rfl z⟩) (fun v hq u4 s4 v4 => ⟨fun z => absurd z (nI_ne_m1 (by omega)), fun _ => ?_⟩))
  refine k_takeStop (Or.inl rfl) hB s4 (run_mono hq (fun k i hE u' a b => ⟨fun z => absurd z (by decide), fun _ => hE u' a b.gf⟩) (fun i5 hq u5 s5 => ⟨fun _ => ⟨cIN (by omega) (by omega), cIN (by omega) (by omega), fun u6 q6 => hq u6 ?_⟩, fun z => absurd z (by decide)⟩))
  have hC5 := hC.tf s5.2.2
  rw [q6, cCL (by omega), show gi u5 180 t.1 = nI (D.1 19 t.1) from hC5.1.f19 (by omega), bPOW (by omega), bOR]
  exact RD.w (a := (_, _)) s5 (hC5.sU (f := 19) rfl (by omega) (by omega) (by omega) (by omega) (by show _ < 12; omega) rfl rfl (by show _ = 0 + _; omega)) (si_fr (by omega)).1 (si_fr (by omega)).2
theorem k_readPart (hT : TL 34 B n i u) (hX : TXT 34 B n u) (hC : CL 164 D u) (hD : okD D) (hB : ∀ i, i < n → B i < 256) (hq : run (pPart B n D i) (EF B n u (Q false)) (fun a => ∀ u', RD B n u a u' → Q true u')) : p_X2_readPart u Q := by
  unfold p_X2_readPart
  intro x1 e1
  have ew : x1 = eO (wrd B n i) := by rw [e1, hT.2.2.2.2.1, tW_wrd]
  have is : ∀ w, w < 28 → ((x1 = nI w) = (wrd B n i = some w)) := fun w hw => by
    rw [ew]
    exact eO_is (fun t ht => by have := wrd_lt ht; omega) (by omega)
  have i0 : (x1 = 0) = (wrd B n i = some 0) := is 0 (by omega)
  have i5 : (x1 = 5) = (wrd B n i = some 5) := is 5 (by omega)
  have i11 : (x1 = 11) = (wrd B n i = some 11) := is 11 (by omega)
  have i12 : (x1 = 12) = (wrd B n i = some 12) := is 12 (by omega)
  have i13 : (x1 = 13) = (wrd B n i = some 13) := is 13 (by omega)
  have i14 : (x1 = 14) = (wrd B n i = some 14) := is 14 (by omega)
  unfold pPart pOne at hq
  have wr : ¬ wrd B n i = some 0 → ¬ wrd B n i = some 5 → ¬ wrd B n i = some 11 → ¬ wrd B n i = some 12 → ¬ wrd B n i = some 13 → ¬ wrd B n i = some 14 → p_X8_wrong 34 (2 : Int32) u Q := fun a0 a5 a11 a12 a13 a14 => by
    rw [if_neg a0, if_neg a5, if_neg a11, if_neg a12, if_neg a13, if_neg a14] at hq
    exact k_wrong (k := 2) hT (fun u' a b => hq u' a b.gf)
  have isx : ∀ w, w < 28 → ¬ w = 0 → ¬ w = 5 → ¬ w = 11 → ¬ w = 12 → ¬ w = 13 → ¬ w = 14 → x1 = nI w → p_X8_wrong 34 (2 : Int32) u Q := fun w hw a0 a5 a11 a12 a13 a14 e => by
    rw [is w hw] at e
    rw [e] at wr
    exact wr (fun z => a0 (by cases z; rfl)) (fun z => a5 (by cases z; rfl)) (fun z => a11 (by cases z; rfl)) (fun z => a12 (by cases z; rfl)) (fun z => a13 (by cases z; rfl)) (fun z => a14 (by cases z; rfl))
  refine ⟨fun z => ?_, isx 1 (by omega) (by omega) (by omega) (by omega) (by omega) (by omega) (by omega), isx 2 (by omega) (by omega) (by omega) (by omega) (by omega) (by omega) (by omega), isx 3 (by omega) (by omega) (by omega) (by omega) (by omega) (by omega) (by omega), isx 4 (by omega) (by omega) (by omega) (by omega) (by omega) (by omega) (by omega), fun z => ?_, isx 6 (by omega) (by omega) (by omega) (by omega) (by omega) (by omega) (by omega), isx 7 (by omega) (by omega) (by omega) (by omega) (by omega) (by omega) (by omega), isx 8 (by omega) (by omega) (by omega) (by omega) (by omega) (by omega) (by omega), isx 9 (by omega) (by omega) (by omega) (by omega) (by omega) (by omega) (by omega), isx 10 (by omega) (by omega) (by omega) (by omega) (by omega) (by omega) (by omega), fun z => ?_, fun z => ?_, fun z => ?_, fun z => ?_, fun z0 _ _ _ _ z5 _ _ _ _ _ z11 z12 z13 z14 => ?_⟩
  · rw [i0] at z
    rw [if_pos z] at hq
    exact k_readRoom hT hX hC hD hB (wrd_1 z) hq
  · rw [i5] at z
    rw [if_neg (by rw [z]; decide), if_pos z] at hq
    exact k_readDoor hT hX hC hD hB (wrd_1 z) hq
  · rw [i11] at z
    rw [if_neg (by rw [z]; decide), if_neg (by rw [z]; decide), if_pos z] at hq
    exact k_readTide hT hX hC hD hB (wrd_1 z) hq
  · rw [i12] at z
    rw [if_neg (by rw [z]; decide), if_neg (by rw [z]; decide), if_neg (by rw [z]; decide), if_pos z] at hq
    exact k_readPump hT hX hC hD hB (wrd_1 z) hq
  · rw [i13] at z
    rw [if_neg (by rw [z]; decide), if_neg (by rw [z]; decide), if_neg (by rw [z]; decide), if_neg (by rw [z]; decide), if_pos z] at hq
    exact k_readRota hT hX hC hD hB (wrd_1 z) hq
  · rw [i14] at z
    rw [if_neg (by rw [z]; decide), if_neg (by rw [z]; decide), if_neg (by rw [z]; decide), if_neg (by rw [z]; decide), if_neg (by rw [z]; decide), if_pos z] at hq
    exact k_readErrand hT hX hC hD hB (wrd_1 z) hq
  · rw [i0] at z0
    rw [i5] at z5
    rw [i11] at z11
    rw [i12] at z12
    rw [i13] at z13
    rw [i14] at z14
    exact wr z0 z5 z11 z12 z13 z14
/-- all of it -/
theorem k_reads : ∀ (f : Nat) (D : DR) (i : Nat) (u : xM), f ≤ 901 → TL 34 B n i u → TXT 34 B n u → CL 164 D u → okD D → (∀ i, i < n → B i < 256) → run (pAll B n f D i) (EF B n u (Q false)) (fun D' => ∀ u', CL 164 D' u' → okD D' → gn u u' → Q true u') → p_X2_readAll_L18 Q (f + 1) (nI (901 - f)) u := by
  intro f
  induction f with
  | zero =>
    intro D i u _ hT hX hC hD hB hq
    unfold p_X2_readAll_L18
    rw [show ((900 : Int32) < nI (901 - 0)) = (900 < 901 - 0) from cLT (a := 900) (by omega) (by omega)]
    exact ⟨fun _ => hq u hC hD gn.rf, fun z => absurd z (by omega)⟩
  | succ f ih =>
    intro D i u hf hT hX hC hD hB hq
    unfold p_X2_readAll_L18 p_X8_isAtEnd
    have hk := tK_le (B := B) (n := n) (pS B n i)
    rw [show ((900 : Int32) < nI (901 - (f + 1))) = (900 < 901 - (f + 1)) from cLT (a := 900) (by omega) (by omega), hT.2.2.1, show (nI (tK B n (pS B n i)) = 0) = (tK B n (pS B n i) = 0) from cEQ (b := 0) (by omega) (by omega)]
    unfold pAll at hq
    refine ⟨fun z => absurd z (by omega), fun _ => ⟨fun z => ⟨fun y => absurd y (by decide), fun _ => ?_⟩, fun z => ⟨fun _ => ?_, fun y => absurd y (by decide)⟩⟩⟩
    · rw [if_neg z, run_bnd] at hq
      refine k_readPart hT hX hC hD hB (run_and hq (g_part hD) (fun k i hE _ u' a b => ⟨fun y => absurd y (by decide), fun _ => hE u' a b⟩) (fun a hq ha u' hR => ⟨fun _ x8 e8 => ?_, fun y => absurd y (by decide)⟩))
      rw [l_1, cA, show 901 - (f + 1) + 1 = 901 - f by omega] at e8
      rw [e8]
      exact ih a.1 a.2 u' (by omega) hR.1 hR.2.1 hR.2.2.1 ha.1 hB (run_mono hq (fun k i hE u'' a b => hE u'' a (hR.2.2.2.gf.tr b)) (fun D' hq u'' a b c => hq u'' a b (hR.2.2.2.tr c)))
    · rw [if_pos z] at hq
      exact hq u hC hD gn.rf
end READS
