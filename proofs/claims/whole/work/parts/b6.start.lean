/-! ===== what the Statement gives of the start ===== -/
abbrev NN : Jvm.Cond := Jvm.Cond.and given_1 narrow_1
def tmS (i : Nat) : Term := if i = 0 then .string "DryDoors$Text" 40 else if i = 1 then .string "DryDoors$Text" 38 else .string "DryDoorsModel" 187
def posS (i : Nat) : Nat := if i = 0 then 115 else if i = 1 then 58 else 206
theorem f_ex : ∀ i, i < 3 → (flatC NN)[if i = 0 then 111 else if i = 1 then 54 else 202]? = some (Cond.exactly (tmS i) "java/lang/String") := by decide +kernel
theorem f_co : ∀ i, i < 3 → (flatC NN)[if i = 0 then 112 else if i = 1 then 55 else 203]? = some (Cond.eq (.field (tmS i) "java/lang/String" "coder" "B") (.int 0)) := by decide +kernel
theorem f_ar : ∀ i, i < 3 → (flatC NN)[if i = 0 then 113 else if i = 1 then 56 else 204]? = some (Cond.arrayOf (.field (tmS i) "java/lang/String" "value" "[B") .byte) := by decide +kernel
theorem f_le : ∀ i, i < 3 → (flatC NN)[if i = 0 then 114 else if i = 1 then 57 else 205]? = some (Cond.eq (.length (.field (tmS i) "java/lang/String" "value" "[B")) (.int (Int32.ofNat (x_lenS.getD i 0)))) := by decide +kernel
theorem f_el : ∀ i, i < 3 → ((flatC NN).drop (posS i)).take (x_lenS.getD i 0) = (List.range (x_lenS.getD i 0)).map (fun j => Cond.eq (.elem (.field (tmS i) "java/lang/String" "value" "[B") (.int (Int32.ofNat j))) (.int ((x_bytS.getD i []).getD j 0))) := by decide +kernel
theorem f_ne : (flatC NN)[201]? = some (Cond.not (Cond.eq (tmS 1) (tmS 0))) ∧ (flatC NN)[346]? = some (Cond.not (Cond.eq (tmS 1) (tmS 2))) ∧ (flatC NN)[347]? = some (Cond.not (Cond.eq (tmS 0) (tmS 2))) := by decide +kernel
theorem f_or : (flatC NN)[10]? = some (Cond.arrayOf (.static "DryDoors$Planner" "ORDERS" "[I") .int) ∧ (flatC NN)[11]? = some (Cond.eq (.length (.static "DryDoors$Planner" "ORDERS" "[I")) (.int (Int32.ofNat 6))) ∧ ∀ j, j < 6 → (flatC NN)[12 + j]? = some (Cond.eq (.elem (.static "DryDoors$Planner" "ORDERS" "[I") (.int (Int32.ofNat j))) (.int (x_ord j))) := by decide +kernel
theorem f_cs : (flatC NN)[4]? = some (Cond.eq (.static "java/lang/String" "COMPACT_STRINGS" "Z") (.int 1)) ∧ (flatC NN)[5]? = some (Cond.isRef (.static "jdk/internal/util/Preconditions" "SIOOBE_FORMATTER" "Ljava/util/function/BiFunction;")) := by decide +kernel
theorem ts_lays : Cond.laysStatic "java/lang/String" "COMPACT_STRINGS" "Z" ∈ lw_tbl ∧ Cond.laysStatic "jdk/internal/util/Preconditions" "SIOOBE_FORMATTER" "Ljava/util/function/BiFunction;" ∈ lw_tbl ∧ Cond.laysStatic "DryDoors$Planner" "ORDERS" "[I" ∈ lw_tbl ∧ Cond.initialized "java/lang/String" ∈ lw_tbl ∧ Cond.initialized "jdk/internal/util/Preconditions" ∈ lw_tbl ∧ Cond.initialized "DryDoors$Planner" ∈ lw_tbl := by decide +kernel
theorem ts_sref : Cond.stringRef "DryDoors$Text" 38 "hour open shut bail any when wet depth loop end stop " ∈ lw_tbl ∧ Cond.stringRef "DryDoors$Text" 40 "room floor area bears water door from to sill wide leaks tide pump rota errand by sea " ∈ lw_tbl ∧ Cond.stringRef "DryDoorsModel" 187 " room door tide pump rota errand floor area bears water from to sill wide leaks by sea hour open shut bail any when loop end stop wet depth " ∈ lw_tbl := by decide +kernel
theorem ts_nest : ∀ w ∈ y_nest, w ∈ lw_tbl := by decide +kernel
theorem ts_ns : Cond.methodLinkNest "DryDoors$Doors" 53 yX10_indexIn "DryDoors" ∈ lw_tbl ∧ Cond.methodLinkNest "DryDoors$Land" 102 yX10_indexIn "DryDoors" ∈ lw_tbl ∧ Cond.methodLinkNest "DryDoors$Rooms" 47 yX10_indexIn "DryDoors" ∈ lw_tbl ∧ Cond.methodLinkNest "DryDoors$Text" 90 yX10_indexIn "DryDoors" ∈ lw_tbl := by decide +kernel
theorem ts_ao : Cond.arrayOver (.object "DryDoors$Land") ∈ lw_tbl ∧ Cond.arrayOver (.object "DryDoors$Nights") ∈ lw_tbl ∧ Cond.arrayOver (.object "DryDoors$Tray") ∈ lw_tbl ∧ Cond.arrayOver (.array .int) ∈ lw_tbl := by decide +kernel
section START
variable {s : State} {b : Nat}
theorem g_cls (hts : ∀ w ∈ wsL_law, w.before #[Value.ref b] s = true) : ∃ dd : va_G, ∀ (cI : Nat) (q : vw_C), vwCl[cI]? = some q → u_Kn s q.1 q.2.1 q.2.2 (dd.1 cI) (dd.2 cI) := by
  have h : ∀ cI : Nat, ∃ z : ClassId × (Nat → Nat), ∀ q, vwCl[cI]? = some q → u_Kn s q.1 q.2.1 q.2.2 z.1 z.2 := fun cI => by
    cases e : vwCl[cI]? with
    | none => exact ⟨(0, fun _ => 0), fun q hq => by cases hq⟩
    | some q =>
      have hq : ∃ cC iS, u_Kn s q.1 q.2.1 q.2.2 cC iS := by
        have hm := List.mem_of_getElem? e
        simp only [vwCl, List.mem_cons, List.not_mem_nil, or_false] at hm
        rcases hm with rfl | rfl | rfl | rfl | rfl | rfl | rfl | rfl | rfl | rfl | rfl | rfl
        · exact u_known hts inlX0 (hts _ xw_60)
        · exact u_known hts inlX1 (hts _ xw_14)
        · exact u_known hts inlX2 (hts _ xw_27)
        · exact u_known hts inlX3 (hts _ xw_35)
        · exact u_known hts inlX4 (hts _ xw_18)
        · exact u_known hts inlX5 (hts _ xw_31)
        · exact u_known hts inlX6 (hts _ xw_23)
        · exact u_known hts inlX7 (hts _ xw_56)
        · exact u_known hts inlX8 (hts _ xw_121)
        · exact u_known hts inlX9 (hts _ xw_49)
        · exact u_known hts inlX10 (hts _ xw_1)
        · exact u_known hts inlX11 (hts _ xw_4)
      obtain ⟨cC, iS, hq⟩ := hq
      exact ⟨(cC, iS), fun q' hq' => by cases hq'; exact hq⟩
  exact ⟨(fun cI => (h cI).choose.1, fun cI => (h cI).choose.2), fun cI q hq => (h cI).choose_spec q hq⟩
theorem g_prim {ty : FieldType} (h : (Cond.arrayClass ty).before #[Value.ref b] s = true) (hr : ∀ cA, va_RA s cA ty = (s.vm.findClass ("[" ++ ty.toString) = some cA)) : ∃ cA : ClassId, ArrOfT s cA ty ∧ va_RA s cA ty := by
  obtain ⟨cA, kA, comp, h1, h2, h3⟩ := Cond.arrayClass_spec h
  exact ⟨cA, fun n z => ⟨fun k h => (by cases h), kA, h2, comp, h3⟩, by rw [hr]; exact h1⟩
theorem g_obj {C : String} (h : va_AO C s) : ∃ cA : ClassId, ArrOfT s cA (.object C) ∧ va_RA s cA (.object C) := by
  obtain ⟨comp, cA, kA, h1, -, h3, h4, h5⟩ := Cond.arrayOver_spec h
  exact ⟨cA, fun n z => ⟨fun k h => (by cases h), kA, h3, comp, h4⟩, kA, comp, h3, h4, h1, h5⟩
theorem g_arr (h : va_AOA .int s) : ∃ cA : ClassId, ArrOfT s cA (.array .int) ∧ va_RA s cA (.array .int) := by
  obtain ⟨comp, cA, kA, h1, -, h3, h4, h5⟩ := y_over h
  exact ⟨cA, fun n z => ⟨fun k h => (by cases h), kA, h3, comp, h4⟩, h5⟩
theorem law_g (hts : ∀ w ∈ lw_tbl, w.before #[Value.ref b] s = true) (hgv : NN.before #[Value.ref b] s = true) : ∃ g : xG, va_K (xDD g) vwCl (x_tys g) s ∧ (y_S0 g (lwA s) s ∧ y_S1 g s) := by
  have hn : ∀ (i : Nat) (w : Jvm.Cond), (flatC NN)[i]? = some w → w.before #[Value.ref b] s = true := fun i w h => flat_of_before _ hgv w (List.mem_of_getElem? h)
  have htL : ∀ w ∈ wsL_law, w.before #[Value.ref b] s = true := fun w h => hts w (wsL_law_in w h)
  have hA : ∀ a : Nat, a < s.heap.size → ¬ lwA s a := fun a h => Nat.not_le.mpr h
  obtain ⟨dd, hdd⟩ := g_cls htL
  have ao1 : va_AO "DryDoors$Land" s := va_AO.of (hts _ ts_ao.1)
  have ao2 : va_AO "DryDoors$Nights" s := va_AO.of (hts _ ts_ao.2.1)
  have ao3 : va_AO "DryDoors$Tray" s := va_AO.of (hts _ ts_ao.2.2.1)
  have ao4 : va_AOA .int s := hts _ ts_ao.2.2.2
  obtain ⟨c0, a0⟩ := g_prim (htL _ xw_65) (fun _ => rfl)
  obtain ⟨c1, a1⟩ := g_prim (htL _ xw_63) (fun _ => rfl)
  obtain ⟨c2, a2⟩ := g_prim (htL _ xw_43) (fun _ => rfl)
  obtain ⟨c3, a3⟩ := g_obj ao1
  obtain ⟨c4, a4⟩ := g_obj ao2
  obtain ⟨c5, a5⟩ := g_obj ao3
  obtain ⟨c6, a6⟩ := g_arr ao4
  have hel : ∀ i, i < 3 → ∀ j, j < x_lenS.getD i 0 → (Cond.eq (.elem (.field (tmS i) "java/lang/String" "value" "[B") (.int (Int32.ofNat j))) (.int ((x_bytS.getD i []).getD j 0))).before #[Value.ref b] s = true := fun i hi j hj => by
    refine flat_of_before _ hgv _ (List.mem_of_mem_drop (List.mem_of_mem_take (i := x_lenS.getD i 0) (l := (flatC NN).drop (posS i)) ?_))
    rw [f_el i hi]
    exact List.mem_map.mpr ⟨j, List.mem_range.mpr hj, rfl⟩
  obtain ⟨sK, sV, hS, hE⟩ := vk_Sof (N := x_nS) (tm := tmS) (len := x_lenS) (byt := x_bytS) (A := lwA s) (by decide +kernel) (fun i hi => hn _ _ (f_ex i hi)) (fun i hi => hn _ _ (f_co i hi)) (fun i hi => hn _ _ (f_ar i hi)) (fun i hi => hn _ _ (f_le i hi)) hel (fun i j hi hj hij => by
    have hi : i < 3 := hi
    have hj : j < 3 := hj
    obtain ⟨n1, n2, n3⟩ := f_ne
    rcases (show (i = 0 ∧ j = 1) ∨ (i = 0 ∧ j = 2) ∨ (i = 1 ∧ j = 0) ∨ (i = 1 ∧ j = 2) ∨ (i = 2 ∧ j = 0) ∨ (i = 2 ∧ j = 1) by omega) with ⟨rfl, rfl⟩ | ⟨rfl, rfl⟩ | ⟨rfl, rfl⟩ | ⟨rfl, rfl⟩ | ⟨rfl, rfl⟩ | ⟨rfl, rfl⟩
    · exact Or.inr (hn _ _ n1)
    · exact Or.inl (hn _ _ n3)
    · exact Or.inl (hn _ _ n1)
    · exact Or.inl (hn _ _ n2)
    · exact Or.inr (hn _ _ n3)
    · exact Or.inr (hn _ _ n2)) hA
  obtain ⟨t, ht, hT⟩ := va_Tof (tm := .static "DryDoors$Planner" "ORDERS" "[I") (ty := .int) (N := 6) (f := fun j => .int (x_ord j)) (A := lwA s) (by decide) (hn _ _ f_or.1) (va_eqt (hn _ _ f_or.2.1)) (fun j hj => va_eqt (hn _ _ (f_or.2.2 j hj))) hA
  refine ⟨(fun k => if k = 0 then c0 else if k = 1 then c1 else if k = 2 then c2 else if k = 3 then c3 else if k = 4 then c4 else if k = 5 then c5 else c6, dd, fun _ => 0, [], t, sK, sV), ⟨hdd, fun k q hk => ?_⟩, ⟨⟨⟨va_Nw.of rfl (hts _ ts_ns.1), va_Nw.of rfl (hts _ ts_ns.2.1), va_Nw.of rfl (hts _ ts_ns.2.2.1), va_Nw.of rfl (hts _ ts_ns.2.2.2)⟩, va_Zof (hts _ ts_lays.1) (hts _ ts_lays.2.2.2.1) (va_eqt (hn _ _ f_cs.1)) hA, va_Zqof (hts _ ts_lays.2.1) (hts _ ts_lays.2.2.2.2.1) (hn _ _ f_cs.2) hA⟩, va_Zref (hts _ ts_lays.2.2.1) (hts _ ts_lays.2.2.2.2.2) ht hA, hT, hS, vk_R.of (hts _ ts_sref.2.2) (hE 2 (by decide))⟩, ⟨fun w hw => ?_, ⟨ao1, ao2, ao3, ao4⟩, vk_R.of (hts _ ts_sref.1) (hE 1 (by decide)), vk_R.of (hts _ ts_sref.2.1) (hE 0 (by decide))⟩⟩
  · rcases k with _ | _ | _ | _ | _ | _ | _ | k
    · cases hk; exact a0
    · cases hk; exact a1
    · cases hk; exact a2
    · cases hk; exact a3
    · cases hk; exact a4
    · cases hk; exact a5
    · cases hk; exact a6
    · cases hk
  · obtain ⟨a, i, x, h, rfl⟩ := y_nest_m w hw
    exact va_Nw.of rfl (hts _ (ts_nest _ hw))
end START
