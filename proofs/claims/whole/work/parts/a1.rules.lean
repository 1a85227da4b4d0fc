/-! ===== what a constructor does, step by step ===== -/
def spI : List Nat := [104, 131, 158, 185, 212, 239, 266, 83, 110, 137, 164, 191, 218, 245, 50, 52, 54, 56, 34, 40, 0, 272, 273, 276]
def spL : List Nat := [35, 41, 0, 272]
def uzi (k : Nat) : xM := (fun a => if a = k then fun _ => 0 else uI.1 a, uI.2)
def uzl (k : Nat) : xM := (uI.1, fun a => if a = k then fun _ => 0 else uI.2 a)
theorem uI_1 {k : Nat} (h : spI.contains k = false) : uI.1 k = fun _ => 0 := by
  have h : k ∉ spI := by simpa using h
  unfold spI at h
  simp only [List.mem_cons, List.not_mem_nil, or_false, not_or] at h
  funext i
  show (if k ∈ _ then _ else _) = _
  simp only [xpLL, xpYL, List.mem_cons, List.not_mem_nil, or_false]
  rw [if_neg (by omega), if_neg (by omega), if_neg (by omega), if_neg (by omega), if_neg (by omega), if_neg (by omega), if_neg (by omega), if_neg (by omega), if_neg (by omega)]
theorem uI_2 {k : Nat} (h : spL.contains k = false) : uI.2 k = fun _ => 0 := by
  have h : k ∉ spL := by simpa using h
  unfold spL at h
  simp only [List.mem_cons, List.not_mem_nil, or_false, not_or] at h
  funext i
  show (if _ then _ else _) = _
  rw [if_neg (by omega), if_neg (by omega)]
theorem uzi_1 {k j : Nat} (h : spI.contains j = false ∨ j = k) : (uzi k).1 j = fun _ => 0 := by
  show (if j = k then _ else _) = _
  split
  · rfl
  · exact uI_1 (h.resolve_right (by assumption))
theorem uzl_2 {k j : Nat} (h : spL.contains j = false ∨ j = k) : (uzl k).2 j = fun _ => 0 := by
  show (if j = k then _ else _) = _
  split
  · rfl
  · exact uI_2 (h.resolve_right (by assumption))
theorem uzi_u {k a : Nat} (h : a ≠ k) : (uzi k).1 a = uI.1 a ∧ (uzi k).2 a = uI.2 a := ⟨if_neg h, rfl⟩
theorem uzl_u {k a : Nat} (h : a ≠ k) : (uzl k).1 a = uI.1 a ∧ (uzl k).2 a = uI.2 a := ⟨rfl, if_neg h⟩
section YR2
variable {p : Program} {l : Launch} {e : Env} {R : Room} {s : State} {m : MethodId} {args : Array Value} {below : List Frame} {meth : Method} {c : Code} {H : Heap} {locs : List Loc} {cells slots c' n' : Nat} {Q : State → Prop}
variable {cc : ByteArray} {pc nL : Nat} {ls : Array Slot} {rest : List Value} {g : xG} {u : xM} {own : String} {A : Nat → Prop} {X : va_W} {ad : Nat → Nat} {Ks Ks' : List Nat}
theorem y_ai (C : y_C p s m args meth c g A own cc nL) (hw : y_W g A X ad Ks u s.heap H locs) {n : Nat} {v : Int32} (k : Nat) (hk : x_kind k = (0, n)) (hz : u.1 k = fun _ => 0) (hn : newK k Ks = true) (hKs : Ks ++ [k] = Ks') (hv : v = nI n) (hn2 : n ≤ 10000) (hr : cells + 1 ≤ R.cells ∧ slots + n ≤ R.slots) (hc : c' = cells + 1) (hs : n' = slots + n) (hd : decode cc pc = .ok (.newarray .int, 2))
    (kk : ∀ (q : Nat) (H1 : Heap), y_W g A X (ua ad k q) Ks' u s.heap H1 locs → W p l e R s m args below meth c H1 locs c' n' Q (F0 m (pc + 2) ls (.ref q :: rest))) : W p l e R s m args below meth c H locs cells slots Q (F0 m pc ls (.int v :: rest)) := by
  subst hKs
  exact y_newi C hw hk hz hn hv hn2 hr hc hs hd kk
theorem y_al (C : y_C p s m args meth c g A own cc nL) (hw : y_W g A X ad Ks u s.heap H locs) {n : Nat} {v : Int32} (k : Nat) (hk : x_kind k = (1, n)) (hz : u.2 k = fun _ => 0) (hn : newK k Ks = true) (hKs : Ks ++ [k] = Ks') (hv : v = nI n) (hn2 : n ≤ 10000) (hr : cells + 1 ≤ R.cells ∧ slots + n ≤ R.slots) (hc : c' = cells + 1) (hs : n' = slots + n) (hd : decode cc pc = .ok (.newarray .long, 2))
    (kk : ∀ (q : Nat) (H1 : Heap), y_W g A X (ua ad k q) Ks' u s.heap H1 locs → W p l e R s m args below meth c H1 locs c' n' Q (F0 m (pc + 2) ls (.ref q :: rest))) : W p l e R s m args below meth c H locs cells slots Q (F0 m pc ls (.int v :: rest)) := by
  subst hc hs hKs hv
  obtain ⟨⟨hx, hb, hml, hown, hts, -⟩, hK, hSS, hA⟩ := C
  obtain ⟨hP, hD, hS⟩ := hw
  refine va_newa (ty := .long) (a0 := (n, .inr (.inl (fun _ => 0)))) (atype := .long) hx hb (hts _ xw_63) rfl hK hP hD hS hA (fun cA => by simp [vp_cell, defaultValue]) (by rw [show ((nI n < 0) : Prop) = (n < 0) from cLT (b := 0) (by omega) (by omega)]; omega) (cCL (by omega)) (Nat.le_trans (Nat.mul_le_mul_right 8 hn2) (by decide)) hr.1 hr.2 hd (fun q cA H1 hK1 hP1 hD1 hS1 => kk q H1 ⟨?_, ?_, hS1⟩)
  all_goals
    have ec : cA = xtc g 1 := y_cls (t := 1) hK1 hK rfl
    rw [xwl_push (e := .inl (cA, (n, .inr (.inl (fun _ => 0))))) hn (by rw [x_e1 hk, hz, ec]; rfl), ← List.append_assoc]
    assumption
theorem y_ab (C : y_C p s m args meth c g A own cc nL) (hw : y_W g A X ad Ks u s.heap H locs) {n : Nat} {v : Int32} (k : Nat) (hk : x_kind k = (2, n)) (hz : u.1 k = fun _ => 0) (hn : newK k Ks = true) (hKs : Ks ++ [k] = Ks') (hv : v = nI n) (hn2 : n ≤ 10000) (hr : cells + 1 ≤ R.cells ∧ slots + n ≤ R.slots) (hc : c' = cells + 1) (hs : n' = slots + n) (hd : decode cc pc = .ok (.newarray .byte, 2))
    (kk : ∀ (q : Nat) (H1 : Heap), y_W g A X (ua ad k q) Ks' u s.heap H1 locs → W p l e R s m args below meth c H1 locs c' n' Q (F0 m (pc + 2) ls (.ref q :: rest))) : W p l e R s m args below meth c H locs cells slots Q (F0 m pc ls (.int v :: rest)) := by
  subst hc hs hKs hv
  obtain ⟨⟨hx, hb, hml, hown, hts, -⟩, hK, hSS, hA⟩ := C
  obtain ⟨hP, hD, hS⟩ := hw
  refine va_newa (ty := .byte) (a0 := (n, .inl (fun _ => 0))) (atype := .byte) hx hb (hts _ xw_43) rfl hK hP hD hS hA (fun cA => by simp [vp_cell, defaultValue]) (by rw [show ((nI n < 0) : Prop) = (n < 0) from cLT (b := 0) (by omega) (by omega)]; omega) (cCL (by omega)) (Nat.le_trans (Nat.mul_le_mul_right 1 hn2) (by decide)) hr.1 hr.2 hd (fun q cA H1 hK1 hP1 hD1 hS1 => kk q H1 ⟨?_, ?_, hS1⟩)
  all_goals
    have ec : cA = xtc g 2 := y_cls (t := 2) hK1 hK rfl
    rw [xwl_push (e := .inl (cA, (n, .inl (fun _ => 0)))) hn (by rw [x_e2 hk, hz, ec]; rfl), ← List.append_assoc]
    assumption
/-- a field of what is made -/
theorem y_putF (C : y_C p s m args meth c g A own cc nL) {h0 ci N j : Nat} {fs : List Value} {v : Value} {Cn : String} {T : u_T} {ty0 : Nat → FieldType} (hw : y_W g A ((h0, .inr (ci, fs)) :: X) ad Ks u s.heap H locs) (hin0 : meth.name = "<init>") (hc : vwCl[ci]? = some (Cn, T, N)) (hin : ∀ w ∈ u_ws Cn T N, w ∈ wsL_law) (hty : ∀ k, k < N → parseFieldDescriptor (T k).2.2.1 = some (ty0 k)) (hnm : ∀ a, a < N → ∀ b, b < N → a ≠ b → (T a).2.1 ≠ (T b).2.1) (hj : j < N) {index : Nat}
    (hl : Cond.fieldLink own index (T j).1 (T j).2.1 (T j).2.2.1 ∈ wsL_law) (hfin : (T j).2.2.2 = true) (hdecl : (T j).1 = own) (hn : narrow (ty0 j) v = v) (hf : fits (ty0 j) v = true) (hlen : j < fs.length) (hd : decode cc pc = .ok (.putfield index, 3))
    (kk : ∀ (H1 : Heap) (locs1 : List Loc), y_W g A ((h0, .inr (ci, fs.set j v)) :: X) ad Ks u s.heap H1 locs1 → W p l e R s m args below meth c H1 locs1 cells slots Q (F0 m (pc + 3) ls rest)) : W p l e R s m args below meth c H locs cells slots Q (F0 m pc ls (v :: .ref h0 :: rest)) := by
  obtain ⟨⟨hx, hb, hml, hown, hts, -⟩, hK, hSS, hA⟩ := C
  obtain ⟨hP, hD, hS⟩ := hw
  exact va_putF (tys := x_tys g) (C := Cn) (T := T) (N := N) (ref := (T j).1) (v := v) (ty := ty0 j) (fs := fs) hx hb (fun w h => hts w h) hin ty0 hty hnm hown hK hP hD hS 0 rfl hc j hj (hts _ hl) (fun _ h9 => h9) hfin hin0 hdecl (hty j hj) hn hf hlen hd (fun H1 locs1 hP1 hD1 hS1 => kk H1 locs1 ⟨hP1, hD1, hS1⟩)
theorem y_put (C : y_C p s m args meth c g A own cc nL) {h0 ci N j : Nat} {fs : List Value} {v : Value} {Cn : String} {T : u_T} {ty0 : Nat → FieldType} (hw : y_W g A ((h0, .inr (ci, fs)) :: X) ad Ks u s.heap H locs) (hc : vwCl[ci]? = some (Cn, T, N)) (hin : ∀ w ∈ u_ws Cn T N, w ∈ wsL_law) (hty : ∀ k, k < N → parseFieldDescriptor (T k).2.2.1 = some (ty0 k)) (hnm : ∀ a, a < N → ∀ b, b < N → a ≠ b → (T a).2.1 ≠ (T b).2.1) (hj : j < N) {index : Nat}
    (hl : Cond.fieldLink own index (T j).1 (T j).2.1 (T j).2.2.1 ∈ wsL_law) (hfin : (T j).2.2.2 = false) (hn : narrow (ty0 j) v = v) (hf : fits (ty0 j) v = true) (hlen : j < fs.length) (hd : decode cc pc = .ok (.putfield index, 3))
    (kk : ∀ (H1 : Heap) (locs1 : List Loc), y_W g A ((h0, .inr (ci, fs.set j v)) :: X) ad Ks u s.heap H1 locs1 → W p l e R s m args below meth c H1 locs1 cells slots Q (F0 m (pc + 3) ls rest)) : W p l e R s m args below meth c H locs cells slots Q (F0 m pc ls (v :: .ref h0 :: rest)) := by
  obtain ⟨⟨hx, hb, hml, hown, hts, -⟩, hK, hSS, hA⟩ := C
  obtain ⟨hP, hD, hS⟩ := hw
  exact va_put (tys := x_tys g) (C := Cn) (T := T) (N := N) (ref := (T j).1) (v := v) (ty := ty0 j) (fs := fs) hx hb (fun w h => hts w h) hin ty0 hty hnm hown hK hP hD hS 0 rfl hc j hj (hts _ hl) (fun _ h9 => h9) hfin (hty j hj) hn hf hlen hd (fun H1 locs1 hP1 hD1 hS1 => kk H1 locs1 ⟨hP1, hD1, hS1⟩)
theorem y_get (C : y_C p s m args meth c g A own cc nL) {h0 ci N j : Nat} {fs : List Value} {v : Value} {Cn : String} {T : u_T} (hw : y_W g A ((h0, .inr (ci, fs)) :: X) ad Ks u s.heap H locs) (hc : vwCl[ci]? = some (Cn, T, N)) (hin : ∀ w ∈ u_ws Cn T N, w ∈ wsL_law) (hj : j < N) {index : Nat}
    (hl : Cond.fieldLink own index (T j).1 (T j).2.1 (T j).2.2.1 ∈ wsL_law) (hv : fs[j]? = some v) (hd : decode cc pc = .ok (.getfield index, 3))
    (kk : W p l e R s m args below meth c H locs cells slots Q (F0 m (pc + 3) ls (v :: rest))) : W p l e R s m args below meth c H locs cells slots Q (F0 m pc ls (.ref h0 :: rest)) := by
  obtain ⟨⟨hx, hb, hml, hown, hts, -⟩, hK, hSS, hA⟩ := C
  obtain ⟨hP, hD, hS⟩ := hw
  exact va_get (tys := x_tys g) (C := Cn) (T := T) (N := N) (ref := (T j).1) (fs := fs) (v := v) hx hb (fun w h => hts w h) hin hown hK hP 0 rfl hc j hj (hts _ hl) (fun _ h9 => h9) hv hd kk
/-- a new object, its fields as they are born -/
theorem y_newo (C : y_C p s m args meth c g A own cc nL) {ci N : Nat} {fs : List Value} {Cn : String} {T : u_T} {ty0 : Nat → FieldType} (hw : y_W g A X ad Ks u s.heap H locs) (hc : vwCl[ci]? = some (Cn, T, N)) (hin : ∀ w ∈ u_ws Cn T N, w ∈ wsL_law) (hty : ∀ k, k < N → parseFieldDescriptor (T k).2.2.1 = some (ty0 k)) {index : Nat} (h1 : Cond.classLink own index Cn ∈ wsL_law) (h2 : Cond.instantiable Cn N ∈ wsL_law) (h3 : Cond.initialized Cn ∈ wsL_law) (hfs : (List.range N).map (fun j => defaultValue (ty0 j)) = fs) (hr : cells + 1 ≤ R.cells ∧ slots + N ≤ R.slots) (hc' : c' = cells + 1) (hs : n' = slots + N) (hd : decode cc pc = .ok (.new index, 3))
    (kk : ∀ (q : Nat) (H1 : Heap), va_P (xDD g) vwCl ((X ++ xwl g ad Ks u) ++ [(q, .inr (ci, fs))]) H1 → va_D A ((X ++ xwl g ad Ks u) ++ [(q, .inr (ci, fs))]) → va_S A s.heap H1 locs → W p l e R s m args below meth c H1 locs c' n' Q (F0 m (pc + 3) ls (.ref q :: rest))) : W p l e R s m args below meth c H locs cells slots Q (F0 m pc ls rest) := by
  subst hc' hs
  obtain ⟨⟨hx, hb, hml, hown, hts, -⟩, hK, hSS, hA⟩ := C
  obtain ⟨hP, hD, hS⟩ := hw
  refine va_new (tys := x_tys g) (C := Cn) (T := T) (N := N) (fs := fs) hx hb (fun w h => hts w h) hin ty0 hty hown (hts _ h1) (hts _ h2) (hts _ h3) hK hP hD hS hA hc (fun j hj => ?_) hr.1 hr.2 hd kk
  rw [← hfs]
  unfold vp_V
  rw [List.getD_eq_getElem?_getD, List.getElem?_map, List.getElem?_range hj]
  rfl
theorem y_F {q ci' : Nat} {fs' : List Value} {ws : va_W} (hA : ∀ x, s.heap.size ≤ x → A x) (hD : va_D A (ws ++ [(q, .inr (ci', fs'))])) (hS : va_S A s.heap H locs) : ∀ x, va_A [(q, .inr (ci', fs'))] H.size x → A x := fun x h => by
  rcases yA.mp h with h | h
  · rw [h]
    exact (yD.mp hD).2 (q, .inr (ci', fs')) (List.mem_append_right _ (List.mem_singleton.mpr rfl))
  · exact hA x (Nat.le_trans hS.1 h)
theorem y_preS (C : y_C p s m args meth c g A own cc nL) {q ci' : Nat} {fs' : List Value} {ws : va_W} {As : List Value} (hP : va_P (xDD g) vwCl (ws ++ [(q, .inr (ci', fs'))]) H) (hD : va_D A (ws ++ [(q, .inr (ci', fs'))])) (hS : va_S A s.heap H locs) : PreS s H (va_Pc (.ref q :: As) (y_pre g q ci' fs' H.size)) (.ref q :: As) := by
  obtain ⟨-, hK, hSS, hA⟩ := C
  refine ⟨y_blind, fun U hU hW => ⟨rfl, by rw [hU], ?_, va_K.moved hW.alike hK, (hSS.1.moved hS hU hW).narrow (y_F hA hD hS), hSS.2.moved hW⟩⟩
  rw [hU]
  exact yP.mpr (fun x hx => yP.mp hP x (List.mem_append_right _ hx))
/-- behind a constructor's call -/
theorem y_made (C : y_C p s m args meth c g A own cc nL) {q ci' o mc ms : Nat} {fs' : List Value} {Ks1 : List Nat} {a : Array Value} {st : List Value} (hP : va_P (xDD g) vwCl ((X ++ xwl g ad Ks u) ++ [(q, .inr (ci', fs'))]) H) (hD : va_D A ((X ++ xwl g ad Ks u) ++ [(q, .inr (ci', fs'))])) (hS : va_S A s.heap H locs)
    (hr : va_Run p l e R s m args below meth c H locs cells slots mc ms (F0 m pc ls st) rest (va_Qv (fun ad => ad o = q) (y_post g (va_A [(q, .inr (ci', fs'))] H.size) Ks1) (va_A [(q, .inr (ci', fs'))] H.size) a) (va_A [(q, .inr (ci', fs'))] H.size)) (hap : aprt Ks Ks1 = true) (hu : ∀ b ∈ Ks1, u.1 b = uI.1 b ∧ u.2 b = uI.2 b) (hKs : Ks ++ Ks1 = Ks') (hc : c' = cells + mc) (hs : n' = slots + ms)
    (kk : ∀ (ad1 : Nat → Nat) (H1 : Heap) (locs1 : List Loc), ad1 o = q → y_W g A X (um ad ad1 Ks1) Ks' u s.heap H1 locs1 → W p l e R s m args below meth c H1 locs1 c' n' Q (F0 m (pc + 3) ls rest)) : W p l e R s m args below meth c H locs cells slots Q (F0 m pc ls st) := by
  subst hc hs hKs
  have hF := y_F C.2.2.2 hD hS
  refine va_callv hr hS (fun x _ h => hF x h) hF (fun ad1 t H1 locs1 ht _ hpost hB hz hk hS1 => kk ad1 H1 locs1 hpost ?_)
  obtain ⟨hP1, hD1⟩ := hB
  rw [ht] at hP1
  obtain ⟨hP2, hD2⟩ := y_join hP hD hk hF hP1 hD1
  rw [List.append_assoc, ← xwl_um hap hu] at hP2 hD2
  exact ⟨hP2, hD2, hS1⟩
theorem y_mkI (C : y_C p s m args meth c g A own cc nL) {y : MethodName} {bytes : ByteArray} {maxL q ci' o mc ms fr lo n index : Nat} {fs' As st : List Value} {Ks1 : List Nat} (hM : CTRy l g y bytes maxL ci' fs' o Ks1 mc ms fr lo As) (h1 : Cond.methodLink own index y ∈ wsL_law) (h2 : Cond.instanceMethod y ∈ wsL_law) (h3 : Cond.initialized y.cls ∈ wsL_law) (h4 : Cond.code y bytes maxL none ∈ wsL_law) (hy : y.name = "<init>")
    (hd : y.cls ≠ "java/lang/invoke/MethodHandle" ∧ y.cls ≠ "java/lang/invoke/VarHandle" ∧ (parseMethodDescriptor y.desc).map (fun d => d.parameters.length) = some n) (hR : fr + 1 ≤ R.frames ∧ 8 + (maxL + 11) + lo ≤ R.locals) (hn : As.length = n) (hls : ls.size = nL) (hst : st = As.reverse ++ .ref q :: rest) (hrest : (rest.map fun v => v.category).sum ≤ 8) (hdg : decode cc pc = .ok (.invokespecial index, 3)) (hf : cells + mc ≤ R.cells ∧ slots + ms ≤ R.slots)
    (hP : va_P (xDD g) vwCl ((X ++ xwl g ad Ks u) ++ [(q, .inr (ci', fs'))]) H) (hD : va_D A ((X ++ xwl g ad Ks u) ++ [(q, .inr (ci', fs'))])) (hS : va_S A s.heap H locs) (hap : aprt Ks Ks1 = true) (hu : ∀ b ∈ Ks1, u.1 b = uI.1 b ∧ u.2 b = uI.2 b) (hKs : Ks ++ Ks1 = Ks') (hc : c' = cells + mc) (hs : n' = slots + ms)
    (kk : ∀ (ad1 : Nat → Nat) (H1 : Heap) (locs1 : List Loc), ad1 o = q → y_W g A X (um ad ad1 Ks1) Ks' u s.heap H1 locs1 → W p l e R s m args below meth c H1 locs1 c' n' Q (F0 m (pc + 3) ls rest)) : W p l e R s m args below meth c H locs cells slots Q (F0 m pc ls st) :=
  y_made C hP hD hS (va_runI (As := As) (rest := rest) ⟨C.1.1, C.1.2.1, C.1.2.2.1, C.1.2.2.2.1, C.1.2.2.2.2.1⟩ (hM q H.size) (cwI n C.1.2.2.2.2.1 (x_good h4) rfl rfl rfl (C.1.2.2.2.2.1 _ h3) (C.1.2.2.2.2.1 _ h1) (C.1.2.2.2.2.1 _ h2) hy hd hR) (y_preS C hP hD hS) rfl hn hls hst (lv_room hrest) hdg hf) hap hu hKs hc hs kk
theorem y_mkN (C : y_C p s m args meth c g A own cc nL) {y : MethodName} {bytes : ByteArray} {maxL q ci' o mc ms fr lo n index : Nat} {fs' As st : List Value} {Ks1 : List Nat} (hM : CTRy l g y bytes maxL ci' fs' o Ks1 mc ms fr lo As) (h1 : Cond.methodLinkNest own index y "DryDoors" ∈ y_nest) (h2 : Cond.instanceMethod y ∈ wsL_law) (h3 : Cond.initialized y.cls ∈ wsL_law) (h4 : Cond.code y bytes maxL none ∈ wsL_law) (hy : y.name = "<init>")
    (hd : y.cls ≠ "java/lang/invoke/MethodHandle" ∧ y.cls ≠ "java/lang/invoke/VarHandle" ∧ (parseMethodDescriptor y.desc).map (fun d => d.parameters.length) = some n) (hR : fr + 1 ≤ R.frames ∧ 8 + (maxL + 11) + lo ≤ R.locals) (hn : As.length = n) (hls : ls.size = nL) (hst : st = As.reverse ++ .ref q :: rest) (hrest : (rest.map fun v => v.category).sum ≤ 8) (hdg : decode cc pc = .ok (.invokespecial index, 3)) (hf : cells + mc ≤ R.cells ∧ slots + ms ≤ R.slots)
    (hP : va_P (xDD g) vwCl ((X ++ xwl g ad Ks u) ++ [(q, .inr (ci', fs'))]) H) (hD : va_D A ((X ++ xwl g ad Ks u) ++ [(q, .inr (ci', fs'))])) (hS : va_S A s.heap H locs) (hap : aprt Ks Ks1 = true) (hu : ∀ b ∈ Ks1, u.1 b = uI.1 b ∧ u.2 b = uI.2 b) (hKs : Ks ++ Ks1 = Ks') (hc : c' = cells + mc) (hs : n' = slots + ms)
    (kk : ∀ (ad1 : Nat → Nat) (H1 : Heap) (locs1 : List Loc), ad1 o = q → y_W g A X (um ad ad1 Ks1) Ks' u s.heap H1 locs1 → W p l e R s m args below meth c H1 locs1 c' n' Q (F0 m (pc + 3) ls rest)) : W p l e R s m args below meth c H locs cells slots Q (F0 m pc ls st) :=
  y_made C hP hD hS (va_runIN (As := As) (rest := rest) (host := "DryDoors") ⟨C.1.1, C.1.2.1, C.1.2.2.1, C.1.2.2.2.1, C.1.2.2.2.2.1⟩ (hM q H.size) ⟨va_cnB n C.1.2.2.2.2.1 (x_good h4) rfl rfl rfl (C.2.2.1.2.1 _ h1) (C.1.2.2.2.2.1 _ h3) hd hR, hy, C.1.2.2.2.2.1 _ h2⟩ (y_preS C hP hD hS) rfl hn hls hst (lv_room hrest) hdg hf) hap hu hKs hc hs kk
/-- all fields stand: what is made is a role -/
theorem y_sealW {h0 ci N o : Nat} {fs : List Value} (hw : y_W g A [(h0, .inr (ci, fs))] ad Ks u s.heap H locs) (hk : x_kind o = (10 + ci, N)) (hn : newK o Ks = true) (hfs : x_fs (gK g (ua ad o h0) []) u o ci = fs) : y_W g A [] (ua ad o h0) (o :: Ks) u s.heap H locs := by
  obtain ⟨hP, hD, hS⟩ := hw
  have e : [] ++ xwl g (ua ad o h0) (o :: Ks) u = [(h0, .inr (ci, fs))] ++ xwl g ad Ks u := by
    rw [List.nil_append, xwl_seal (e := .inr (ci, fs)) hn (by rw [x_eo hk, hfs])]
    rfl
  exact ⟨by rw [e]; exact hP, by rw [e]; exact hD, hS⟩
theorem y_vret (C : y_C p s m args meth c g A own cc nL) (hret : meth.sig.returnType = none) {o h0 : Nat} (hw : y_W g A [] ad Ks uI s.heap H locs) (ho : ad o = h0) (hd : decode cc pc = .ok (.return_, 1)) : W p l e R s m args below meth c H locs cells slots (MQ below (va_Qv (fun ad => ad o = h0) (y_post g A Ks) A) args s cells slots A) (F0 m pc ls []) :=
  W.vret C.1.1 C.1.2.1 hret (fun t ht hW => ⟨⟨ad, rfl, ho, by rw [ht]; exact hw.1, hw.2.1⟩, hw.2.2.F ht⟩) hw.2.2.2.2 hd C.1.2.2.2.2.2
theorem y_start {y : MethodName} {maxL h0 ci sz : Nat} {fs : List Value} {rm : Room} {s₁ : State} (B : BodyLoose p l y (headSpec (Cond.code y cc maxL none :: wsL_law) rm) cc maxL none e s m args below meth c s₁) (hml : c.maxLocals = maxL) (hy : y.name = "<init>") (h : y_pre g h0 ci fs sz s) : y_C p s m args meth c g (va_A [(h0, .inr (ci, fs))] s.heap.size) y.cls cc maxL ∧ y_W g (va_A [(h0, .inr (ci, fs))] s.heap.size) [(h0, .inr (ci, fs))] ad [] u s.heap s.heap [] ∧ meth.sig.returnType = none ∧ meth.name = "<init>" ∧ sz = s.heap.size := by
  have hts := atoms_spec (ws := Cond.code y cc maxL none :: wsL_law) B.pre
  obtain ⟨rfl, hP, hK, hS0, hS1⟩ := h
  refine ⟨⟨⟨B.exec, B.bytes, hml, findClass_of_methodNamed B.named, fun w h => hts w (List.mem_cons_of_mem _ h), B.notSynchronized⟩, hK, ⟨hS0, hS1⟩, fun q h => Or.inr h⟩, ⟨hP, yD.mpr ⟨List.pairwise_singleton _ _, fun x hx => ?_⟩, va_S.rf⟩, B.returns, (name_of_methodNamed B.named B.method).1.trans hy, rfl⟩
  have hx : x = (h0, .inr (ci, fs)) := List.mem_singleton.mp hx
  rw [hx]
  exact yA.mpr (Or.inl rfl)
end YR2
