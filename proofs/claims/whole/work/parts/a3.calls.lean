/-! ===== calls from what makes; arrays of arrays ===== -/
section YC
variable {p : Program} {l : Launch} {e : Env} {R : Room} {s : State} {m : MethodId} {args : Array Value} {below : List Frame} {meth : Method} {c : Code} {H : Heap} {locs : List Loc} {cells slots c' n' : Nat} {Q : State → Prop}
variable {cc : ByteArray} {pc nL : Nat} {ls : Array Slot} {rest : List Value} {g : xG} {u u1 : xM} {own : String} {A : Nat → Prop} {X : va_W} {ad ad' : Nat → Nat} {Ks Ks' : List Nat}
theorem xwl_get {k : Nat} (h : k ∈ Ks) : ∃ i : Nat, (xwl g ad Ks u)[i]? = some (ad k, x_e (gK g ad []) u k) := by
  obtain ⟨i, hi⟩ := List.getElem?_of_mem h
  exact ⟨i, by unfold xwl; rw [List.getElem?_map, hi]; rfl⟩
theorem y_xD (hn : va_nd Ks = true) (hD : va_D A (xwl g ad Ks u)) : x_D (gK g ad Ks) := ⟨hn, fun a b ha hb e => by
  have ha : a ∈ Ks := ha
  have hb : b ∈ Ks := hb
  obtain ⟨i, hi⟩ := List.getElem?_of_mem ha
  obtain ⟨j, hj⟩ := List.getElem?_of_mem hb
  have hij := hD.1 i j (ad a, x_e (gK g ad []) u a) (ad b, x_e (gK g ad []) u b) (by unfold xwl; rw [List.getElem?_map, hi]; rfl) (by unfold xwl; rw [List.getElem?_map, hj]; rfl) e
  subst hij
  exact Option.some.inj (hi.symm.trans hj)⟩
theorem y_AA (hD : va_D A (xwl g ad Ks u)) : ∀ q, x_A (gK g ad Ks) q → A q := fun q hq => by
  obtain ⟨k, hk, rfl⟩ := hq
  have hk : k ∈ Ks := hk
  exact (yD.mp hD).2 (ad k, x_e (gK g ad []) u k) (List.mem_map.mpr ⟨k, hk, rfl⟩)
theorem y_xB (C : y_C p s m args meth c g A own cc nL) (hw : y_W g A [] ad Ks u s.heap H locs) {U : State} (hU : U.heap = H) (hW : s.WarmedH U.vm) : x_B (gK g ad Ks) u U := by
  refine ⟨by rw [hU]; exact hw.1, va_K.moved hW.alike C.2.1, ?_⟩
  show y_S0 g (x_A (gK g ad Ks)) U
  exact (C.2.2.1.1.moved hw.2.2 hU hW).narrow (y_AA hw.2.1)
theorem y_Wu (hw : y_W g A X ad Ks u s.heap H locs) (hu : ∀ a ∈ Ks, u1.1 a = u.1 a ∧ u1.2 a = u.2 a) : y_W g A X ad Ks u1 s.heap H locs := by
  have e : xwl g ad Ks u1 = xwl g ad Ks u := xwl_cg (fun a ha => ⟨fun _ _ => rfl, rfl, (hu a ha).1, (hu a ha).2⟩)
  unfold y_W
  rw [e]
  exact hw
theorem y_runV (C : y_C p s m args meth c g A own cc nL) (hw : y_W g A [] ad Ks u s.heap H locs) {y : MethodName} {bytes : ByteArray} {maxL k ci N n index q : Nat} {rt : Option FieldType} {rm : Room} {Qc : Array Value → State → Outcome → State → Prop} {As st : List Value} {Cn : String} {T : u_T}
    (hM : Met l y (Cond.code y bytes maxL rt :: wsL_law) rm (va_Pc (.ref (ad k) :: As) (x_B (gK g ad Ks) u)) Qc 0 0 (x_A (gK g ad Ks))) (hk : x_kind k = (10 + ci, N)) (hkm : k ∈ Ks) (hq : ad k = q) (hc : vwCl[ci]? = some (Cn, T, N)) (hG : GoodIn wsL_law (wsV own index Cn y (Cond.code y bytes maxL rt :: wsL_law))) (hrc : rm.cells = 0) (hrs : rm.slots = 0)
    (hd : y.cls = Cn ∧ y.cls ≠ "java/lang/invoke/MethodHandle" ∧ y.cls ≠ "java/lang/invoke/VarHandle" ∧ (parseMethodDescriptor y.desc).map (fun d => d.parameters.length) = some n) (hR : rm.frames + 1 ≤ R.frames ∧ 8 + (maxL + 11) + rm.locals ≤ R.locals) (hn : As.length = n) (hls : ls.size = nL) (hst : st = As.reverse ++ .ref q :: rest) (hrest : (rest.map fun v => v.category).sum ≤ 8) (hdg : decode cc pc = .ok (.invokevirtual index, 3)) (hf : cells ≤ R.cells ∧ slots ≤ R.slots) :
    va_Run p l e R s m args below meth c H locs cells slots 0 0 (F0 m pc ls st) rest (Qc (Value.ref q :: As).toArray) (x_A (gK g ad Ks)) := by
  subst hq
  obtain ⟨i, hi⟩ := xwl_get (g := g) (ad := ad) (u := u) hkm
  rw [x_eo hk] at hi
  exact va_runV ⟨C.1.1, C.1.2.1, C.1.2.2.1, C.1.2.2.2.1, C.1.2.2.2.2.1⟩ hM (cwV n C.1.2.2.2.2.1 hG rfl hrc hrs hd hR) ⟨x_blind, va_recv C.2.1 hw.1 hc hi, fun U hU hW => ⟨rfl, y_xB C hw hU hW⟩⟩ rfl hn hls hst (lv_room hrest) hdg hf
variable {a : Array Value} {st : List Value}
theorem y_D2 (hw : y_W g A [] ad Ks u s.heap H locs) {H1 : Heap} {locs1 : List Loc} {t : State} (ht : t.heap = H1) (hB : x_B (gK g ad Ks) u1 t) (hS : va_S A s.heap H1 locs1) : y_W g A [] ad Ks u1 s.heap H1 locs1 := ⟨by rw [← ht]; exact hB.1, y_adD (by rw [List.nil_append, List.nil_append, xwl_ads, xwl_ads]) hw.2.1, hS⟩
theorem y_callv {Qf : xM → Prop} (hw : y_W g A [] ad Ks u s.heap H locs) (hr : va_Run p l e R s m args below meth c H locs cells slots 0 0 (F0 m pc ls st) rest (x_Qv (gK g ad Ks) Qf a) (x_A (gK g ad Ks))) (kk : ∀ (u1 : xM) (H1 : Heap) (locs1 : List Loc), y_W g A [] ad Ks u1 s.heap H1 locs1 → Qf u1 → W p l e R s m args below meth c H1 locs1 cells slots Q (F0 m (pc + 3) ls rest)) : W p l e R s m args below meth c H locs cells slots Q (F0 m pc ls st) :=
  va_callv hr hw.2.2 (fun q _ h => y_AA hw.2.1 q h) (y_AA hw.2.1) (fun u1 t H1 locs1 ht _ hq hB _ _ hS => kk u1 H1 locs1 (y_D2 hw ht hB hS) hq)
theorem y_calli {Qf : Int32 → xM → Prop} (hw : y_W g A [] ad Ks u s.heap H locs) (hr : va_Run p l e R s m args below meth c H locs cells slots 0 0 (F0 m pc ls st) rest (x_Qi (gK g ad Ks) Qf a) (x_A (gK g ad Ks))) (kk : ∀ (r : Int32) (u1 : xM) (H1 : Heap) (locs1 : List Loc), y_W g A [] ad Ks u1 s.heap H1 locs1 → Qf r u1 → W p l e R s m args below meth c H1 locs1 cells slots Q (F0 m (pc + 3) ls (.int r :: rest))) : W p l e R s m args below meth c H locs cells slots Q (F0 m pc ls st) :=
  va_calli hr hw.2.2 (fun q _ h => y_AA hw.2.1 q h) (y_AA hw.2.1) (fun r u1 t H1 locs1 ht _ hq hB _ _ hS => kk r u1 H1 locs1 (y_D2 hw ht hB hS) hq)
theorem y_callz {Qf : Bool → xM → Prop} (hw : y_W g A [] ad Ks u s.heap H locs) (hr : va_Run p l e R s m args below meth c H locs cells slots 0 0 (F0 m pc ls st) rest (x_Qz (gK g ad Ks) Qf a) (x_A (gK g ad Ks))) (kk : ∀ (r : Bool) (u1 : xM) (H1 : Heap) (locs1 : List Loc), y_W g A [] ad Ks u1 s.heap H1 locs1 → Qf r u1 → W p l e R s m args below meth c H1 locs1 cells slots Q (F0 m (pc + 3) ls (.int (xb r) :: rest))) : W p l e R s m args below meth c H locs cells slots Q (F0 m pc ls st) :=
  va_calli hr hw.2.2 (fun q _ h => y_AA hw.2.1 q h) (y_AA hw.2.1) (fun r u1 t H1 locs1 ht _ hq hB _ _ hS => by
    obtain ⟨b, rfl, hq⟩ := hq
    exact kk b u1 H1 locs1 (y_D2 hw ht hB hS) hq)
theorem y_calll {Qf : Int64 → xM → Prop} (hw : y_W g A [] ad Ks u s.heap H locs) (hr : va_Run p l e R s m args below meth c H locs cells slots 0 0 (F0 m pc ls st) rest (x_Ql (gK g ad Ks) Qf a) (x_A (gK g ad Ks))) (kk : ∀ (r : Int64) (u1 : xM) (H1 : Heap) (locs1 : List Loc), y_W g A [] ad Ks u1 s.heap H1 locs1 → Qf r u1 → W p l e R s m args below meth c H1 locs1 cells slots Q (F0 m (pc + 3) ls (.long r :: rest))) : W p l e R s m args below meth c H locs cells slots Q (F0 m pc ls st) :=
  va_calll hr hw.2.2 (fun q _ h => y_AA hw.2.1 q h) (y_AA hw.2.1) (fun r u1 t H1 locs1 ht _ hq hB _ _ hS => kk r u1 H1 locs1 (y_D2 hw ht hB hS) hq)
/-- a place of a row that has been made -/
theorem y_ia (C : y_C p s m args meth c g A own cc nL) {k n q : Nat} {h0 : Nat × va_E} (hw : y_W g A [h0] ad Ks u s.heap H locs) (hk : x_kind k = (0, n)) (hnd : va_nd Ks = true) (hkm : k ∈ Ks) (hq : ad k = q) {i x : Int32} (hin : vp_in i n) (hu : u1 = si u k i.toNatClampNeg x) (hd : decode cc pc = .ok (.iastore, 1))
    (kk : ∀ (H1 : Heap) (locs1 : List Loc), y_W g A [h0] ad Ks u1 s.heap H1 locs1 → W p l e R s m args below meth c H1 locs1 cells slots Q (F0 m (pc + 1) ls rest)) : W p l e R s m args below meth c H locs cells slots Q (F0 m pc ls (.int x :: .int i :: .ref q :: rest)) := by
  subst hq
  obtain ⟨j, hj⟩ := List.getElem?_of_mem hkm
  have h2 : ([h0] ++ xwl g ad Ks u)[j + 1]? = some (ad k, x_e (gK g ad []) u k) := by
    show (xwl g ad Ks u)[j]? = _
    unfold xwl
    rw [List.getElem?_map, hj]
    rfl
  rw [x_e0 hk] at h2
  have e : ([h0] ++ xwl g ad Ks u).set (j + 1) (ad k, .inl (xtc g 0, n, .inl (upd (u.1 k) i.toNatClampNeg x))) = [h0] ++ xwl g ad Ks u1 := by
    show h0 :: (xwl g ad Ks u).set j _ = h0 :: xwl g ad Ks u1
    congr 1
    apply List.ext_getElem?
    intro i'
    have hl : j < (xwl g ad Ks u).length := by
      unfold xwl
      rw [List.length_map]
      exact (List.getElem?_eq_some_iff.mp hj).1
    by_cases hi : i' = j
    · subst hi
      rw [List.getElem?_set_self hl]
      unfold xwl
      rw [List.getElem?_map, hj]
      show _ = some (ad k, x_e (gK g ad []) u1 k)
      rw [x_e0 hk, hu]
      simp [si]
      rfl
    · rw [List.getElem?_set_ne (Ne.symm hi)]
      unfold xwl
      rw [List.getElem?_map, List.getElem?_map]
      cases ha : Ks[i']? with
      | none => rfl
      | some b =>
        have hne : b ≠ k := fun z => hi (va_nd_inj _ hnd i' j k (z ▸ ha) hj)
        show some (ad b, x_e (gK g ad []) u b) = some (ad b, x_e (gK g ad []) u1 b)
        rw [x_e_of (u := u) (u' := u1) (by rw [hu]; simp [si, hne]) (by rw [hu]; rfl)]
  obtain ⟨⟨hx, hb, hml, hown, hts, -⟩, hK, hSS, hA⟩ := C
  refine va_iast (tys := x_tys g) hx hb hK hw.1 hw.2.1 hw.2.2 (j + 1) 0 h2 rfl hin hd (fun H1 locs1 hP hD hS => kk H1 locs1 ⟨?_, ?_, hS⟩)
  · rw [← e]; exact hP
  · rw [← e]; exact hD
/-- rows of rows -/
theorem y_mna (C : y_C p s m args meth c g A own cc nL) (hw : y_W g A X ad Ks u s.heap H locs) {k N index : Nat} {v w : Int32} {Ks1 : List Nat} (h1 : Cond.classLink own index "[[I" ∈ wsL_law) (hKs1 : k :: (List.range N).map (fun i => k + 1 + i) = Ks1) (hk : x_kind k = (6, N)) (hr : ∀ i, i < N → x_ref k i = k + 1 + i) (hi : ∀ i, i < N → x_kind (k + 1 + i) = (0, 7)) (hz : ∀ i, i < N → u.1 (k + 1 + i) = fun _ => 0) (hap : aprt Ks Ks1 = true) (hKs : Ks ++ Ks1 = Ks') (hv : v = nI N) (hw7 : w = nI 7) (hN : N ≤ 100) (hc : c' = cells + 1 + N) (hs : n' = slots + N + N * 7) (hf : cells + (1 + N) ≤ R.cells ∧ slots + (N + N * 7) ≤ R.slots) (hd : decode cc pc = .ok (.multianewarray index 2, 4))
    (kk : ∀ (ad1 : Nat → Nat) (q : Nat) (H1 : Heap), ad1 k = q → y_W g A X (um ad ad1 Ks1) Ks' u s.heap H1 locs → W p l e R s m args below meth c H1 locs c' n' Q (F0 m (pc + 4) ls (.ref q :: rest))) : W p l e R s m args below meth c H locs cells slots Q (F0 m pc ls (.int w :: .int v :: rest)) := by
  subst hc hs hKs hv hw7
  obtain ⟨⟨hx, hb, hml, hown, hts, -⟩, hK, hSS, hA⟩ := C
  have hP := hw.1
  have hD := hw.2.1
  rw [← List.append_nil (X ++ xwl g ad Ks u)] at hP hD
  have hcy : s.vm.findClass (FieldType.array .int).toString = some (xtc g 0) := (hK.2 0 _ rfl).2
  have e0 : ∀ x : Nat, ((nI x < 0) : Prop) = (x < 0) ∨ 100 < x := fun x => by
    by_cases hx : x ≤ 100
    · exact Or.inl (cLT (b := 0) (by omega) (by omega))
    · exact Or.inr (by omega)
  refine va_mna (X := X ++ xwl g ad Ks u) (L := []) (f := fun _ => .inr (0, [])) (ty := .int) (z := (7, .inl (fun _ => 0))) hx hb hown (hts _ h1) hSS.2.2.1.2.2.2 (hts _ xw_65) hcy hK hP hD hw.2.2 hA (N' := N) (K' := 7) (by rw [show ((nI N < 0) : Prop) = (N < 0) from cLT (b := 0) (by omega) (by omega)]; omega) (by decide) (cCL (by omega)) (by decide) (by omega) (by decide) (by decide) rfl rfl hf.1 hf.2 (fun c => ?_) hd (fun q r cA H1 hinj _ hK1 hP1 hD1 hS1 => ?_)
  · show ({ cls := c, slots := Array.replicate 7 (.int 0), vm := .none } : Cell) = _
    rw [arrV_new]
    simp [vp_cell]
  · have ec : cA = xtc g 6 := y_cls (t := 6) hK1 hK rfl
    let ad1 : Nat → Nat := fun a => if a = k then q else r (a - (k + 1))
    have ek : ad1 k = q := if_pos rfl
    have ei : ∀ i, ad1 (k + 1 + i) = r i := fun i => by
      show (if k + 1 + i = k then q else r (k + 1 + i - (k + 1))) = _
      rw [if_neg (by omega), show k + 1 + i - (k + 1) = i by omega]
    have e : xwl g ad1 Ks1 u = [(q, .inl (cA, N, .inr (.inr (.inr (.inr (fun i => if i < N then some (r i) else none))))))] ++ va_pl ([] ++ (List.range N).map r) (vr_up (fun _ => .inr (0, [])) ((List.range N).map r) (.inl (xtc g 0, (7, .inl (fun _ => 0))))) := by
      rw [← hKs1]
      show (ad1 k, x_e (gK g ad1 []) u k) :: ((List.range N).map (fun i => k + 1 + i)).map _ = _ :: _
      congr 1
      · have hf : (fun i => if i < N then some (xad (gK g ad1 []) (x_ref k i)) else none) = (fun i => if i < N then some (r i) else none) := by
          funext i
          by_cases hi' : i < N
          · rw [if_pos hi', if_pos hi']
            show some (ad1 (x_ref k i)) = _
            rw [hr i hi', ei]
          · rw [if_neg hi', if_neg hi']
        rw [ek, x_eq hk (by omega) (by omega), ec, hf]
        rfl
      · rw [List.nil_append]
        unfold va_pl
        rw [List.map_map, List.map_map]
        refine List.map_congr_left (fun i hi' => ?_)
        have hi' := List.mem_range.mp hi'
        show (ad1 (k + 1 + i), x_e (gK g ad1 []) u (k + 1 + i)) = (r i, vr_up _ _ _ (r i))
        rw [ei, x_e0 (hi i hi'), hz i hi']
        unfold vr_up
        rw [if_pos (List.mem_map.mpr ⟨i, List.mem_range.mpr hi', rfl⟩)]
        rfl
    have e2 : (X ++ xwl g ad Ks u ++ [(q, .inl (cA, N, .inr (.inr (.inr (.inr (fun i => if i < N then some (r i) else none))))))]) ++ va_pl ([] ++ (List.range N).map r) (vr_up (fun _ => .inr (0, [])) ((List.range N).map r) (.inl (xtc g 0, (7, .inl (fun _ => 0))))) = X ++ xwl g (um ad ad1 Ks1) (Ks ++ Ks1) u := by
      rw [xwl_um hap (fun _ _ => ⟨rfl, rfl⟩), e]
      simp only [List.append_assoc]
    rw [e2] at hP1 hD1
    exact kk ad1 q H1 ek ⟨hP1, hD1, hS1⟩
theorem y_seal2 {h0 ci N o : Nat} {fs : List Value} (hw : y_W g A [(h0, .inr (ci, fs))] ad Ks u s.heap H locs) (hk : x_kind o = (10 + ci, N)) (hn : newK o Ks = true) (hfs : x_fs (gK g (ua ad o h0) []) u o ci = fs) : ∃ adf : Nat → Nat, adf o = h0 ∧ y_W g A [] adf (o :: Ks) u s.heap H locs := ⟨ua ad o h0, if_pos rfl, y_sealW hw hk hn hfs⟩
end YC
