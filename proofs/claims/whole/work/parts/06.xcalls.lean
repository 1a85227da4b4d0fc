def x_ch (i k : Nat) : Int32 := (x_bytS.getD i []).getD k 0
def x_rm (f n : Nat) : Room := { frames := f, cells := 0, slots := 0, locals := n }
theorem x_good {y : MethodName} {bytes : ByteArray} {maxL : Nat} {ret : Option FieldType} (hc : Cond.code y bytes maxL ret ∈ wsL_law) : GoodIn wsL_law (Cond.code y bytes maxL ret :: wsL_law) := fun w hw => by
  have hm : w ∈ wsL_law := by
    rcases List.mem_cons.mp hw with rfl | h
    · exact hc
    · exact h
  exact ⟨hm, good_of_word (List.all_eq_true.mp x_goodAll w hm)⟩
theorem x_good1 {w : Cond} (h : w ∈ wsL_law) : w ∈ wsL_law ∧ ((w.onTables && w.keeps) = true ∨ ∃ ty, w = .arrayClass ty) := ⟨h, good_of_word (List.all_eq_true.mp x_goodAll w h)⟩
theorem x_gV {own C : String} {index : Nat} {y : MethodName} {bytes : ByteArray} {maxL : Nat} {ret : Option FieldType} (h1 : Cond.methodLink own index y ∈ wsL_law) (h2 : Cond.instanceMethod y ∈ wsL_law) (h3 : Cond.selects C y y ∈ wsL_law) (h4 : Cond.initialized C ∈ wsL_law) (hc : Cond.code y bytes maxL ret ∈ wsL_law) : GoodIn wsL_law (wsV own index C y (Cond.code y bytes maxL ret :: wsL_law)) := by
  intro w hw
  unfold wsV at hw
  rcases List.mem_append.mp hw with h | h
  · simp only [List.mem_cons, List.not_mem_nil, or_false] at h
    rcases h with rfl | rfl | rfl | rfl
    · exact x_good1 h1
    · exact x_good1 h2
    · exact x_good1 h3
    · exact x_good1 h4
  · exact x_good hc w h
theorem x_gS {own : String} {index : Nat} {y : MethodName} {bytes : ByteArray} {maxL : Nat} {ret : Option FieldType} (h1 : Cond.methodLink own index y ∈ wsL_law) (h2 : Cond.static y ∈ wsL_law) (h4 : Cond.initialized y.cls ∈ wsL_law) (hc : Cond.code y bytes maxL ret ∈ wsL_law) : GoodIn wsL_law (va_wsS own index y (Cond.code y bytes maxL ret :: wsL_law)) := by
  intro w hw
  unfold va_wsS at hw
  rcases List.mem_append.mp hw with h | h
  · simp only [List.mem_cons, List.not_mem_nil, or_false] at h
    rcases h with rfl | rfl | rfl
    · exact x_good1 h1
    · exact x_good1 h2
    · exact x_good1 h4
  · exact x_good hc w h
section XC
variable {p : Program} {l : Launch} {e : Env} {R : Room} {s : State} {m : MethodId} {args : Array Value} {below : List Frame} {meth : Method} {c : Code} {H : Heap} {locs : List Loc} {Q : State → Prop}
variable {cc : ByteArray} {pc nL : Nat} {ls : Array Slot} {rest : List Value} {g : xG} {u : xM} {own : String} {ret : Option FieldType}
theorem x_start {y : MethodName} {maxL : Nat} {rm : Room} {s₁ : State} (B : BodyLoose p l y (headSpec (Cond.code y cc maxL ret :: wsL_law) rm) cc maxL ret e s m args below meth c s₁) (hml : c.maxLocals = maxL) (hD : x_D g) (hB : x_B g u s) : x_C p s m args meth c g y.cls cc maxL ret ∧ x_W g s.heap s.heap [] u := by
  have hts := atoms_spec (ws := Cond.code y cc maxL ret :: wsL_law) B.pre
  exact ⟨⟨B.exec, B.bytes, hml, findClass_of_methodNamed B.named, fun w h => hts w (List.mem_cons_of_mem _ h), B.returns, B.notSynchronized, hB.2.1, hD, hB.2.2⟩, hB.1, va_S.rf⟩
theorem x_iret {Qf : Int32 → xM → Prop} {v : Int32} (C : x_C p s m args meth c g own cc nL (some .int)) (hw : x_W g s.heap H locs u) (h : Qf v u) (hd : decode cc pc = .ok (.ireturn, 1)) : W p l e R s m args below meth c H locs 0 0 (MQ below (x_Qi g Qf) args s 0 0 (x_A g)) (F0 m pc ls [.int v]) :=
  W.iret C.1 C.2.1 C.2.2.2.2.2.1 (fun t ht hW => ⟨⟨v, u, rfl, h, by rw [ht]; exact hw.1, va_K.moved hW.alike C.2.2.2.2.2.2.2.1, x_St_moved C.2.2.2.2.2.2.2.2.2 hw.2 ht hW⟩, hw.2.F ht⟩) hw.2.2.2 hd C.2.2.2.2.2.2.1
theorem x_lret {Qf : Int64 → xM → Prop} {v : Int64} (C : x_C p s m args meth c g own cc nL (some .long)) (hw : x_W g s.heap H locs u) (h : Qf v u) (hd : decode cc pc = .ok (.lreturn, 1)) : W p l e R s m args below meth c H locs 0 0 (MQ below (x_Ql g Qf) args s 0 0 (x_A g)) (F0 m pc ls [.long v]) :=
  W.lret C.1 C.2.1 C.2.2.2.2.2.1 (fun t ht hW => ⟨⟨v, u, rfl, h, by rw [ht]; exact hw.1, va_K.moved hW.alike C.2.2.2.2.2.2.2.1, x_St_moved C.2.2.2.2.2.2.2.2.2 hw.2 ht hW⟩, hw.2.F ht⟩) hw.2.2.2 hd C.2.2.2.2.2.2.1
theorem x_zret {Qf : Bool → xM → Prop} {v : Int32} (b : Bool) (C : x_C p s m args meth c g own cc nL (some .boolean)) (hw : x_W g s.heap H locs u) (h : Qf b u) (hb : v = xb b) (hd : decode cc pc = .ok (.ireturn, 1)) : W p l e R s m args below meth c H locs 0 0 (MQ below (x_Qz g Qf) args s 0 0 (x_A g)) (F0 m pc ls [.int v]) :=
  W.zret C.1 C.2.1 C.2.2.2.2.2.1 (by rw [hb]; exact (x_nz b).1) (fun t ht hW => ⟨⟨v, u, rfl, ⟨b, hb, h⟩, by rw [ht]; exact hw.1, va_K.moved hW.alike C.2.2.2.2.2.2.2.1, x_St_moved C.2.2.2.2.2.2.2.2.2 hw.2 ht hW⟩, hw.2.F ht⟩) hw.2.2.2 hd C.2.2.2.2.2.2.1
theorem x_vret {Qf : xM → Prop} (C : x_C p s m args meth c g own cc nL none) (hw : x_W g s.heap H locs u) (h : Qf u) (hd : decode cc pc = .ok (.return_, 1)) : W p l e R s m args below meth c H locs 0 0 (MQ below (x_Qv g Qf) args s 0 0 (x_A g)) (F0 m pc ls []) :=
  W.vret C.1 C.2.1 C.2.2.2.2.2.1 (fun t ht hW => ⟨⟨u, rfl, h, by rw [ht]; exact hw.1, va_K.moved hW.alike C.2.2.2.2.2.2.2.1, x_St_moved C.2.2.2.2.2.2.2.2.2 hw.2 ht hW⟩, hw.2.F ht⟩) hw.2.2.2 hd C.2.2.2.2.2.2.1
theorem x_rret {Qf : xM → Prop} {k : Nat} {cn : String} (C : x_C p s m args meth c g own cc nL (some (.object cn))) (hw : x_W g s.heap H locs u) (h : Qf u) (hd : decode cc pc = .ok (.areturn, 1)) : W p l e R s m args below meth c H locs 0 0 (MQ below (x_Qr g k Qf) args s 0 0 (x_A g)) (F0 m pc ls [.ref (xad g k)]) :=
  W.aret C.1 C.2.1 C.2.2.2.2.2.1 (Or.inl ⟨_, rfl⟩) (Or.inr ⟨_, rfl⟩) (fun t ht hW => ⟨⟨u, _, rfl, h, rfl, by rw [ht]; exact hw.1, va_K.moved hW.alike C.2.2.2.2.2.2.2.1, x_St_moved C.2.2.2.2.2.2.2.2.2 hw.2 ht hW⟩, hw.2.F ht⟩) hw.2.2.2 hd C.2.2.2.2.2.2.1
theorem x_qret {Qf : Option Nat → xM → Prop} {L : List Nat} {v : Value} {cn : String} (r : Option Nat) (C : x_C p s m args meth c g own cc nL (some (.object cn))) (hw : x_W g s.heap H locs u) (h : Qf r u) (hv : v = va_rf (r.map (xad g))) (hL : ∀ a, r = some a → a ∈ L) (hd : decode cc pc = .ok (.areturn, 1)) : W p l e R s m args below meth c H locs 0 0 (MQ below (x_Qq g L Qf) args s 0 0 (x_A g)) (F0 m pc ls [v]) :=
  W.aret C.1 C.2.1 C.2.2.2.2.2.1 (Or.inl ⟨_, rfl⟩) (by cases r with
    | none => exact Or.inl hv
    | some a => exact Or.inr ⟨_, hv⟩) (fun t ht hW => ⟨⟨r.map (xad g), u, by rw [hv], ⟨r, rfl, hL, h⟩, by rw [ht]; exact hw.1, va_K.moved hW.alike C.2.2.2.2.2.2.2.1, x_St_moved C.2.2.2.2.2.2.2.2.2 hw.2 ht hW⟩, hw.2.F ht⟩) hw.2.2.2 hd C.2.2.2.2.2.2.1
theorem x_runV {y : MethodName} {bytes : ByteArray} {maxL k ci N n index : Nat} {rt : Option FieldType} {rm : Room} {Qc : Array Value → State → Outcome → State → Prop} {As st : List Value} {Cn : String} {T : u_T} (C : x_C p s m args meth c g own cc nL ret) (hw : x_W g s.heap H locs u)
    (hM : Met l y (Cond.code y bytes maxL rt :: wsL_law) rm (va_Pc (.ref (xad g k) :: As) (x_B g u)) Qc 0 0 (x_A g)) (hk : x_ok g k (10 + ci, N)) (hc : vwCl[ci]? = some (Cn, T, N)) (hG : GoodIn wsL_law (wsV own index Cn y (Cond.code y bytes maxL rt :: wsL_law))) (hrc : rm.cells = 0) (hrs : rm.slots = 0)
    (hd : y.cls = Cn ∧ y.cls ≠ "java/lang/invoke/MethodHandle" ∧ y.cls ≠ "java/lang/invoke/VarHandle" ∧ (parseMethodDescriptor y.desc).map (fun d => d.parameters.length) = some n) (hR : rm.frames + 1 ≤ R.frames ∧ 8 + (maxL + 11) + rm.locals ≤ R.locals) (hn : As.length = n) (hls : ls.size = nL) (hst : st = As.reverse ++ .ref (xad g k) :: rest) (hrest : (rest.map fun v => v.category).sum ≤ 8) (hdg : decode cc pc = .ok (.invokevirtual index, 3)) :
    va_Run p l e R s m args below meth c H locs 0 0 0 0 (F0 m pc ls st) rest (Qc (Value.ref (xad g k) :: As).toArray) (x_A g) := by
  obtain ⟨q, -, h2⟩ := x_get (u := u) hk.1
  rw [x_eo hk.2] at h2
  exact va_runV ⟨C.1, C.2.1, C.2.2.1, C.2.2.2.1, C.2.2.2.2.1⟩ hM (cwV n C.2.2.2.2.1 hG rfl hrc hrs hd hR) ⟨x_blind, va_recv C.2.2.2.2.2.2.2.1 hw.1 hc h2, fun U hU hW => ⟨rfl, by rw [hU]; exact hw.1, va_K.moved hW.alike C.2.2.2.2.2.2.2.1, x_St_moved C.2.2.2.2.2.2.2.2.2 hw.2 hU hW⟩⟩ rfl hn hls hst (lv_room hrest) hdg ⟨Nat.zero_le _, Nat.zero_le _⟩
theorem x_runS {y : MethodName} {bytes : ByteArray} {maxL n index : Nat} {rt : Option FieldType} {rm : Room} {Qc : Array Value → State → Outcome → State → Prop} {As st : List Value} (C : x_C p s m args meth c g own cc nL ret) (hw : x_W g s.heap H locs u)
    (hM : Met l y (Cond.code y bytes maxL rt :: wsL_law) rm (va_Pc As (x_B g u)) Qc 0 0 (x_A g)) (hG : GoodIn wsL_law (va_wsS own index y (Cond.code y bytes maxL rt :: wsL_law))) (hrc : rm.cells = 0) (hrs : rm.slots = 0)
    (hd : y.cls ≠ "java/lang/invoke/MethodHandle" ∧ y.cls ≠ "java/lang/invoke/VarHandle" ∧ (parseMethodDescriptor y.desc).map (fun d => d.parameters.length) = some n) (hR : rm.frames + 1 ≤ R.frames ∧ 8 + (maxL + 11) + rm.locals ≤ R.locals) (hn : As.length = n) (hls : ls.size = nL) (hst : st = As.reverse ++ rest) (hrest : (rest.map fun v => v.category).sum ≤ 8) (hdg : decode cc pc = .ok (.invokestatic index, 3)) :
    va_Run p l e R s m args below meth c H locs 0 0 0 0 (F0 m pc ls st) rest (Qc As.toArray) (x_A g) :=
  va_runS ⟨C.1, C.2.1, C.2.2.1, C.2.2.2.1, C.2.2.2.2.1⟩ hM (va_cwS n C.2.2.2.2.1 hG rfl hrc hrs hd hR) ⟨x_blind, fun U hU hW => ⟨rfl, by rw [hU]; exact hw.1, va_K.moved hW.alike C.2.2.2.2.2.2.2.1, x_St_moved C.2.2.2.2.2.2.2.2.2 hw.2 hU hW⟩⟩ rfl hn hls hst (lv_room hrest) hdg ⟨Nat.zero_le _, Nat.zero_le _⟩
theorem x_runSN {y : MethodName} {bytes : ByteArray} {maxL n index : Nat} {rt : Option FieldType} {rm : Room} {Qc : Array Value → State → Outcome → State → Prop} {As st : List Value} {host : String} (C : x_C p s m args meth c g own cc nL ret) (hw : x_W g s.heap H locs u)
    (hM : Met l y (Cond.code y bytes maxL rt :: wsL_law) rm (va_Pc As (x_B g u)) Qc 0 0 (x_A g)) (hNw : va_Nw (.methodLinkNest own index y host) s) (h2 : Cond.static y ∈ wsL_law) (h4 : Cond.initialized y.cls ∈ wsL_law) (hc : Cond.code y bytes maxL rt ∈ wsL_law) (hrc : rm.cells = 0) (hrs : rm.slots = 0)
    (hd : y.cls ≠ "java/lang/invoke/MethodHandle" ∧ y.cls ≠ "java/lang/invoke/VarHandle" ∧ (parseMethodDescriptor y.desc).map (fun d => d.parameters.length) = some n) (hR : rm.frames + 1 ≤ R.frames ∧ 8 + (maxL + 11) + rm.locals ≤ R.locals) (hn : As.length = n) (hls : ls.size = nL) (hst : st = As.reverse ++ rest) (hrest : (rest.map fun v => v.category).sum ≤ 8) (hdg : decode cc pc = .ok (.invokestatic index, 3)) :
    va_Run p l e R s m args below meth c H locs 0 0 0 0 (F0 m pc ls st) rest (Qc As.toArray) (x_A g) :=
  va_runSN ⟨C.1, C.2.1, C.2.2.1, C.2.2.2.1, C.2.2.2.2.1⟩ hM ⟨va_cnB n C.2.2.2.2.1 (x_good hc) rfl hrc hrs hNw (C.2.2.2.2.1 _ h4) hd hR, C.2.2.2.2.1 _ h2, trivial⟩ ⟨x_blind, fun U hU hW => ⟨rfl, by rw [hU]; exact hw.1, va_K.moved hW.alike C.2.2.2.2.2.2.2.1, x_St_moved C.2.2.2.2.2.2.2.2.2 hw.2 hU hW⟩⟩ rfl hn hls hst (lv_room hrest) hdg ⟨Nat.zero_le _, Nat.zero_le _⟩
variable {a : Array Value} {st : List Value}
theorem x_calli {Qf : Int32 → xM → Prop} (hw : x_W g s.heap H locs u) (hr : va_Run p l e R s m args below meth c H locs 0 0 0 0 (F0 m pc ls st) rest (x_Qi g Qf a) (x_A g)) (kk : ∀ (r : Int32) (u1 : xM) (H1 : Heap) (locs1 : List Loc), x_W g s.heap H1 locs1 u1 → Qf r u1 → W p l e R s m args below meth c H1 locs1 0 0 Q (F0 m (pc + 3) ls (.int r :: rest))) : W p l e R s m args below meth c H locs 0 0 Q (F0 m pc ls st) :=
  va_calli hr hw.2 (fun _ _ h => h) (fun _ h => h) (fun r u1 t H1 locs1 ht _ hq hB _ _ hS => kk r u1 H1 locs1 ⟨by rw [← ht]; exact hB.1, hS⟩ hq)
theorem x_callz {Qf : Bool → xM → Prop} (hw : x_W g s.heap H locs u) (hr : va_Run p l e R s m args below meth c H locs 0 0 0 0 (F0 m pc ls st) rest (x_Qz g Qf a) (x_A g)) (kk : ∀ (r : Bool) (u1 : xM) (H1 : Heap) (locs1 : List Loc), x_W g s.heap H1 locs1 u1 → Qf r u1 → W p l e R s m args below meth c H1 locs1 0 0 Q (F0 m (pc + 3) ls (.int (xb r) :: rest))) : W p l e R s m args below meth c H locs 0 0 Q (F0 m pc ls st) :=
  va_calli hr hw.2 (fun _ _ h => h) (fun _ h => h) (fun r u1 t H1 locs1 ht _ hq hB _ _ hS => by
    obtain ⟨b, rfl, hq⟩ := hq
    exact kk b u1 H1 locs1 ⟨by rw [← ht]; exact hB.1, hS⟩ hq)
theorem x_calll {Qf : Int64 → xM → Prop} (hw : x_W g s.heap H locs u) (hr : va_Run p l e R s m args below meth c H locs 0 0 0 0 (F0 m pc ls st) rest (x_Ql g Qf a) (x_A g)) (kk : ∀ (r : Int64) (u1 : xM) (H1 : Heap) (locs1 : List Loc), x_W g s.heap H1 locs1 u1 → Qf r u1 → W p l e R s m args below meth c H1 locs1 0 0 Q (F0 m (pc + 3) ls (.long r :: rest))) : W p l e R s m args below meth c H locs 0 0 Q (F0 m pc ls st) :=
  va_calll hr hw.2 (fun _ _ h => h) (fun _ h => h) (fun r u1 t H1 locs1 ht _ hq hB _ _ hS => kk r u1 H1 locs1 ⟨by rw [← ht]; exact hB.1, hS⟩ hq)
theorem x_callv {Qf : xM → Prop} (hw : x_W g s.heap H locs u) (hr : va_Run p l e R s m args below meth c H locs 0 0 0 0 (F0 m pc ls st) rest (x_Qv g Qf a) (x_A g)) (kk : ∀ (u1 : xM) (H1 : Heap) (locs1 : List Loc), x_W g s.heap H1 locs1 u1 → Qf u1 → W p l e R s m args below meth c H1 locs1 0 0 Q (F0 m (pc + 3) ls rest)) : W p l e R s m args below meth c H locs 0 0 Q (F0 m pc ls st) :=
  va_callv hr hw.2 (fun _ _ h => h) (fun _ h => h) (fun u1 t H1 locs1 ht _ hq hB _ _ hS => kk u1 H1 locs1 ⟨by rw [← ht]; exact hB.1, hS⟩ hq)
theorem x_callr {Qf : xM → Prop} {k : Nat} (hw : x_W g s.heap H locs u) (hr : va_Run p l e R s m args below meth c H locs 0 0 0 0 (F0 m pc ls st) rest (x_Qr g k Qf a) (x_A g)) (kk : ∀ (u1 : xM) (H1 : Heap) (locs1 : List Loc), x_W g s.heap H1 locs1 u1 → Qf u1 → W p l e R s m args below meth c H1 locs1 0 0 Q (F0 m (pc + 3) ls (.ref (xad g k) :: rest))) : W p l e R s m args below meth c H locs 0 0 Q (F0 m pc ls st) :=
  va_callr hr hw.2 (fun _ _ h => h) (fun _ h => h) (fun u1 ra t H1 locs1 ht _ hq hB _ _ hS => by
    obtain ⟨rfl, hB⟩ := hB
    exact kk u1 H1 locs1 ⟨by rw [← ht]; exact hB.1, hS⟩ hq)
theorem x_callq {Qf : Option Nat → xM → Prop} {L : List Nat} (hw : x_W g s.heap H locs u) (hr : va_Run p l e R s m args below meth c H locs 0 0 0 0 (F0 m pc ls st) rest (x_Qq g L Qf a) (x_A g)) (kn : ∀ (u1 : xM) (H1 : Heap) (locs1 : List Loc), x_W g s.heap H1 locs1 u1 → Qf none u1 → W p l e R s m args below meth c H1 locs1 0 0 Q (F0 m (pc + 3) ls (.null :: rest))) (ks : ∀ (k : Nat) (u1 : xM) (H1 : Heap) (locs1 : List Loc), x_W g s.heap H1 locs1 u1 → k ∈ L → Qf (some k) u1 → W p l e R s m args below meth c H1 locs1 0 0 Q (F0 m (pc + 3) ls (.ref (xad g k) :: rest))) : W p l e R s m args below meth c H locs 0 0 Q (F0 m pc ls st) :=
  va_callq hr hw.2 (fun _ _ h => h) (fun _ h => h) (fun r u1 t H1 locs1 ht _ hq hB _ _ hS => by
    obtain ⟨r', rfl, hL, hq⟩ := hq
    cases r' with
    | none => exact kn u1 H1 locs1 ⟨by rw [← ht]; exact hB.1, hS⟩ hq
    | some k => exact ks k u1 H1 locs1 ⟨by rw [← ht]; exact hB.1, hS⟩ (hL k rfl) hq)
theorem x_mmin {index : Nat} (C : x_C p s m args meth c g own cc nL ret) (hls : ls.size = nL) (h1 : Cond.methodLink own index Lib.Math.min.name ∈ wsL_law) (hfr : 1 ≤ R.frames) (hlo : (rest.map fun v => v.category).sum + 13 ≤ R.locals) {x y : Int32} (hd : decode cc pc = .ok (.invokestatic index, 3))
    (kk : W p l e R s m args below meth c H locs 0 0 Q (F0 m (pc + 3) ls (.int (if y < x then y else x) :: rest))) : W p l e R s m args below meth c H locs 0 0 Q (F0 m pc ls (.int y :: .int x :: rest)) :=
  va_mmin C.1 C.2.1 (C.2.2.1.trans hls.symm) C.2.2.2.1 (C.2.2.2.2.1 _ h1) (C.2.2.2.2.1 _ xw_mathMinStatic) (C.2.2.2.2.1 _ xw_mathInit) (C.2.2.2.2.1 _ xw_mathMinCode) hfr hlo (Nat.zero_le _) (Nat.zero_le _) hd kk
theorem x_mmax {index : Nat} (C : x_C p s m args meth c g own cc nL ret) (hls : ls.size = nL) (h1 : Cond.methodLink own index Lib.Math.max.name ∈ wsL_law) (hfr : 1 ≤ R.frames) (hlo : (rest.map fun v => v.category).sum + 13 ≤ R.locals) {x y : Int32} (hd : decode cc pc = .ok (.invokestatic index, 3))
    (kk : W p l e R s m args below meth c H locs 0 0 Q (F0 m (pc + 3) ls (.int (if x < y then y else x) :: rest))) : W p l e R s m args below meth c H locs 0 0 Q (F0 m pc ls (.int y :: .int x :: rest)) :=
  va_mmax C.1 C.2.1 (C.2.2.1.trans hls.symm) C.2.2.2.1 (C.2.2.2.2.1 _ h1) (C.2.2.2.2.1 _ xw_mathMaxStatic) (C.2.2.2.2.1 _ xw_mathInit) (C.2.2.2.2.1 _ xw_mathMaxCode) hfr hlo (Nat.zero_le _) (Nat.zero_le _) hd kk
theorem x_mabs {index : Nat} (C : x_C p s m args meth c g own cc nL ret) (hls : ls.size = nL) (h1 : Cond.methodLink own index Lib.Math.abs.name ∈ wsL_law) (hfr : 1 ≤ R.frames) (hlo : (rest.map fun v => v.category).sum + 13 ≤ R.locals) {x : Int32} (hd : decode cc pc = .ok (.invokestatic index, 3))
    (kk : W p l e R s m args below meth c H locs 0 0 Q (F0 m (pc + 3) ls (.int (if 0 ≤ x then x else 0 - x) :: rest))) : W p l e R s m args below meth c H locs 0 0 Q (F0 m pc ls (.int x :: rest)) :=
  va_mabs C.1 C.2.1 (C.2.2.1.trans hls.symm) C.2.2.2.1 (C.2.2.2.2.1 _ h1) (C.2.2.2.2.1 _ xw_mathAbsStatic) (C.2.2.2.2.1 _ xw_mathInit) (C.2.2.2.2.1 _ xw_mathAbsCode) hfr hlo (Nat.zero_le _) (Nat.zero_le _) hd kk
theorem x_cpyi {index : Nat} (C : x_C p s m args meth c g own cc nL ret) (hls : ls.size = nL) (h1 : Cond.methodLink own index arraycopyName ∈ wsL_law) (hw : x_W g s.heap H locs u) {k0 k1 n0 n1 : Nat} (hk0 : x_ok g k0 (0, n0)) (hk1 : x_ok g k1 (0, n1)) {sp dp n : Int32} (hc : ¬ sp < 0 ∧ ¬ dp < 0 ∧ ¬ n < 0 ∧ sp.toNatClampNeg + n.toNatClampNeg ≤ n0 ∧ dp.toNatClampNeg + n.toNatClampNeg ≤ n1) (hfr : 1 ≤ R.frames) (hlo : (rest.map fun v => v.category).sum + (nativeFrameWords "java/lang/System" "arraycopy" 5 + 11) ≤ R.locals) (hd : decode cc pc = .ok (.invokestatic index, 3)) {u1 : xM} (hu : u1 = cpi u k0 sp.toNatClampNeg k1 dp.toNatClampNeg n.toNatClampNeg)
    (kk : ∀ (H1 : Heap) (locs1 : List Loc), x_W g s.heap H1 locs1 u1 → W p l e R s m args below meth c H1 locs1 0 0 Q (F0 m (pc + 3) ls rest)) : W p l e R s m args below meth c H locs 0 0 Q (F0 m pc ls (.int n :: .int dp :: .ref (xad g k1) :: .int sp :: .ref (xad g k0) :: rest)) := by
  obtain ⟨q0, -, g0⟩ := x_get (u := u) hk0.1
  obtain ⟨q1, h3, g1⟩ := x_get (u := u) hk1.1
  rw [x_e0 hk0.2] at g0
  rw [x_e0 hk1.2] at g1
  refine va_copyi (tys := x_tys g) C.1 C.2.1 (C.2.2.1.trans hls.symm) C.2.2.2.1 (C.2.2.2.2.1 _ h1) (C.2.2.2.2.1 _ xw_acNative) (C.2.2.2.2.1 _ xw_acStatic) (C.2.2.2.2.1 _ xw_sysInit) C.2.2.2.2.2.2.2.1 hw.1 (x_vaD C.2.2.2.2.2.2.2.2.1 u) hw.2 q0 q1 0 0 g0 g1 rfl rfl rfl hc.1 hc.2.1 hc.2.2.1 hc.2.2.2.1 hc.2.2.2.2 (fun _ _ => rfl) hfr hlo hd (fun H1 locs1 hP _ hS => kk H1 locs1 ⟨?_, hS⟩)
  rw [x_set (u' := u1) C.2.2.2.2.2.2.2.2.1 h3 (by rw [x_e0 hk1.2, hu]; simp [cpi]) (fun a ha => x_e_of (by rw [hu]; simp [cpi, ha]) (by rw [hu]; rfl))] at hP
  exact hP
theorem x_cpyl {index : Nat} (C : x_C p s m args meth c g own cc nL ret) (hls : ls.size = nL) (h1 : Cond.methodLink own index arraycopyName ∈ wsL_law) (hw : x_W g s.heap H locs u) {k0 k1 n0 n1 : Nat} (hk0 : x_ok g k0 (1, n0)) (hk1 : x_ok g k1 (1, n1)) {sp dp n : Int32} (hc : ¬ sp < 0 ∧ ¬ dp < 0 ∧ ¬ n < 0 ∧ sp.toNatClampNeg + n.toNatClampNeg ≤ n0 ∧ dp.toNatClampNeg + n.toNatClampNeg ≤ n1) (hfr : 1 ≤ R.frames) (hlo : (rest.map fun v => v.category).sum + (nativeFrameWords "java/lang/System" "arraycopy" 5 + 11) ≤ R.locals) (hd : decode cc pc = .ok (.invokestatic index, 3)) {u1 : xM} (hu : u1 = cpl u k0 sp.toNatClampNeg k1 dp.toNatClampNeg n.toNatClampNeg)
    (kk : ∀ (H1 : Heap) (locs1 : List Loc), x_W g s.heap H1 locs1 u1 → W p l e R s m args below meth c H1 locs1 0 0 Q (F0 m (pc + 3) ls rest)) : W p l e R s m args below meth c H locs 0 0 Q (F0 m pc ls (.int n :: .int dp :: .ref (xad g k1) :: .int sp :: .ref (xad g k0) :: rest)) := by
  obtain ⟨q0, -, g0⟩ := x_get (u := u) hk0.1
  obtain ⟨q1, h3, g1⟩ := x_get (u := u) hk1.1
  rw [x_e1 hk0.2] at g0
  rw [x_e1 hk1.2] at g1
  refine va_copyl (tys := x_tys g) C.1 C.2.1 (C.2.2.1.trans hls.symm) C.2.2.2.1 (C.2.2.2.2.1 _ h1) (C.2.2.2.2.1 _ xw_acNative) (C.2.2.2.2.1 _ xw_acStatic) (C.2.2.2.2.1 _ xw_sysInit) C.2.2.2.2.2.2.2.1 hw.1 (x_vaD C.2.2.2.2.2.2.2.2.1 u) hw.2 q0 q1 1 1 g0 g1 rfl rfl rfl hc.1 hc.2.1 hc.2.2.1 hc.2.2.2.1 hc.2.2.2.2 (fun _ _ => rfl) hfr hlo hd (fun H1 locs1 hP _ hS => kk H1 locs1 ⟨?_, hS⟩)
  rw [x_set (u' := u1) C.2.2.2.2.2.2.2.2.1 h3 (by rw [x_e1 hk1.2, hu]; simp [cpl]) (fun a ha => x_e_of (by rw [hu]; rfl) (by rw [hu]; simp [cpl, ha]))] at hP
  exact hP
end XC
