/-! ===== rows of references, while they are filled ===== -/
section YQ
variable {p : Program} {l : Launch} {e : Env} {R : Room} {s : State} {m : MethodId} {args : Array Value} {below : List Frame} {meth : Method} {c : Code} {H : Heap} {locs : List Loc} {cells slots c' n' : Nat} {Q : State → Prop}
variable {cc : ByteArray} {pc nL : Nat} {ls : Array Slot} {rest : List Value} {g : xG} {u : xM} {own : String} {A : Nat → Prop} {X X' : va_W} {ad : Nat → Nat} {Ks : List Nat}
theorem y_aq (C : y_C p s m args meth c g A own cc nL) (hw : y_W g A X ad Ks u s.heap H locs) {Cn : String} {t n index : Nat} {v : Int32} (h1 : Cond.classLink own index Cn ∈ wsL_law) (hao : va_AO Cn s) (ht : (x_tys g)[t]? = some (xtc g t, .object Cn)) (hv : v = nI n) (hn : n ≤ 1000) (hr : cells + 1 ≤ R.cells ∧ slots + n ≤ R.slots) (hc : c' = cells + 1) (hs : n' = slots + n) (hd : decode cc pc = .ok (.anewarray index, 3))
    (kk : ∀ (q : Nat) (H1 : Heap), y_W g A (X ++ [(q, .inl (xtc g t, n, .inr (.inr (.inr (.inr (fun _ => none))))))]) ad Ks u s.heap H1 locs → W p l e R s m args below meth c H1 locs c' n' Q (F0 m (pc + 3) ls (.ref q :: rest))) : W p l e R s m args below meth c H locs cells slots Q (F0 m pc ls (.int v :: rest)) := by
  subst hc hs hv
  obtain ⟨⟨hx, hb, hml, hown, hts, -⟩, hK, hSS, hA⟩ := C
  obtain ⟨hP, hD, hS⟩ := hw
  refine va_newq hx hb hown (hts _ h1) hao hK hP hD hS hA (by rw [show ((nI n < 0) : Prop) = (n < 0) from cLT (b := 0) (by omega) (by omega)]; omega) (cCL (by omega)) (by omega) hr.1 hr.2 hd (fun q cA H1 hK1 hP1 hD1 hS1 => kk q H1 ?_)
  have ec : cA = xtc g t := y_cls hK1 hK ht
  rw [ec] at hP1 hD1
  have e : (X ++ xwl g ad Ks u ++ [(q, (.inl (xtc g t, n, .inr (.inr (.inr (.inr (fun _ => none))))) : va_E))]).Perm (X ++ [(q, .inl (xtc g t, n, .inr (.inr (.inr (.inr (fun _ => none))))))] ++ xwl g ad Ks u) := by
    rw [List.append_assoc, List.append_assoc]
    exact List.Perm.append_left X List.perm_append_comm
  exact ⟨y_permP (fun x => e.mem_iff) hP1, y_permD e hD1, hS1⟩
theorem y_aas (C : y_C p s m args meth c g A own cc nL) (hw : y_W g A X ad Ks u s.heap H locs) {q0 t n a v k ci N : Nat} {Cn : String} {T : u_T} {f : Nat → Option Nat} (ha : X[q0]? = some (a, .inl (xtc g t, n, .inr (.inr (.inr (.inr f)))))) (ht : (x_tys g)[t]? = some (xtc g t, .object Cn)) (hk : x_kind k = (10 + ci, N)) (hkm : k ∈ Ks) (hv : ad k = v) (hc : vwCl[ci]? = some (Cn, T, N)) {i : Int32} (hin : vp_in i n) (hX : X.set q0 (a, .inl (xtc g t, n, .inr (.inr (.inr (.inr (va_up f i.toNatClampNeg (some v))))))) = X') (hd : decode cc pc = .ok (.aastore, 1))
    (kk : ∀ (H1 : Heap) (locs1 : List Loc), y_W g A X' ad Ks u s.heap H1 locs1 → W p l e R s m args below meth c H1 locs1 cells slots Q (F0 m (pc + 1) ls rest)) : W p l e R s m args below meth c H locs cells slots Q (F0 m pc ls (.ref v :: .int i :: .ref a :: rest)) := by
  subst hv hX
  obtain ⟨⟨hx, hb, hml, hown, hts, -⟩, hK, hSS, hA⟩ := C
  obtain ⟨hP, hD, hS⟩ := hw
  obtain ⟨j, hj⟩ := xwl_get (g := g) (ad := ad) (u := u) hkm
  rw [x_eo hk] at hj
  have hlt : q0 < X.length := (List.getElem?_eq_some_iff.mp ha).1
  have ha2 : (X ++ xwl g ad Ks u)[q0]? = some (a, .inl (xtc g t, n, .inr (.inr (.inr (.inr f))))) := by rw [List.getElem?_append_left hlt]; exact ha
  have hj2 : (X ++ xwl g ad Ks u)[X.length + j]? = some (ad k, .inr (ci, x_fs (gK g ad []) u k ci)) := by rw [List.getElem?_append_right (by omega), show X.length + j - X.length = j by omega]; exact hj
  refine va_astq (r := (Cn, T, N)) hx hb hK hP hD hS q0 t (X.length + j) ci ha2 ht hj2 hc hin hd (fun H1 locs1 hP1 hD1 hS1 => kk H1 locs1 ⟨?_, ?_, hS1⟩)
  · rw [← List.set_append_left _ _ hlt]; exact hP1
  · rw [← List.set_append_left _ _ hlt]; exact hD1
theorem y_sealQ {a k n t : Nat} {f : Nat → Option Nat} (hw : y_W g A (X ++ [(a, .inl (xtc g t, n, .inr (.inr (.inr (.inr f)))))]) ad Ks u s.heap H locs) (hk : x_kind k = (t, n)) (h3 : 3 ≤ t) (h9 : t < 10) (hn : newK k Ks = true) (hf : ∀ i, f i = if i < n then some (ua ad k a (x_ref k i)) else none) : y_W g A X (ua ad k a) (k :: Ks) u s.heap H locs := by
  obtain ⟨hP, hD, hS⟩ := hw
  have hf : f = fun i => if i < n then some (ua ad k a (x_ref k i)) else none := funext hf
  have e : X ++ xwl g (ua ad k a) (k :: Ks) u = X ++ [(a, .inl (xtc g t, n, .inr (.inr (.inr (.inr f)))))] ++ xwl g ad Ks u := by
    rw [xwl_seal (e := .inl (xtc g t, n, .inr (.inr (.inr (.inr f))))) hn (by rw [x_eq hk h3 h9, hf]; rfl), List.append_assoc]
    rfl
  exact ⟨by rw [e]; exact hP, by rw [e]; exact hD, hS⟩
end YQ
