/-! ===== worlds that grow ===== -/
def gK (g : xG) (ad : Nat → Nat) (Ks : List Nat) : xG := (xtc g, xDD g, ad, Ks, xtO g, xsK g, xsV g)
def ua (ad : Nat → Nat) (k q : Nat) : Nat → Nat := fun a => if a = k then q else ad a
def um (ad ad1 : Nat → Nat) (Ks1 : List Nat) : Nat → Nat := fun a => if a ∈ Ks1 then ad1 a else ad a
/-- the roles that a role refers to -/
def xrf (a : Nat) : List Nat := if (x_kind a).1 < 3 then [] else if (x_kind a).1 < 10 then (List.range (x_kind a).2).map (x_ref a) else ((List.range (x_fn ((x_kind a).1 - 10))).filter (fun j => x_fk ((x_kind a).1 - 10) j != 0 && x_fk ((x_kind a).1 - 10) j != 1)).map (x_ref a)
def newK (k : Nat) (Ks : List Nat) : Bool := Ks.all (fun a => a != k && !(xrf a).contains k)
def aprt (Ks Ks1 : List Nat) : Bool := Ks.all (fun a => !Ks1.contains a && (xrf a).all (fun k => !Ks1.contains k)) && Ks1.all (fun a => (xrf a).all (fun k => Ks1.contains k))
def xwl (g : xG) (ad : Nat → Nat) (Ks : List Nat) (u : xM) : va_W := Ks.map (fun k => (ad k, x_e (gK g ad []) u k))
section GROW
variable {g : xG} {ad ad' ad1 : Nat → Nat} {Ks Ks1 : List Nat} {u u' u1 : xM} {D : va_G} {cl : List vw_C} {A A0 : Nat → Prop} {ws ws' w1 X : va_W} {H H0 H1 : Heap} {k q : Nat}
theorem xwl_e : xw (gK g ad Ks) u = xwl g ad Ks u := rfl
theorem xwl_app : xwl g ad (Ks ++ Ks1) u = xwl g ad Ks u ++ xwl g ad Ks1 u := List.map_append
theorem xe_ad {a : Nat} (h : ∀ k, k ∈ xrf a → ad' k = ad k) (h1 : u'.1 a = u.1 a) (h2 : u'.2 a = u.2 a) : x_e (gK g ad' []) u' a = x_e (gK g ad []) u a := by
  unfold xrf at h
  unfold x_e
  by_cases e0 : (x_kind a).1 = 0
  · rw [if_pos e0, if_pos e0, h1]; rfl
  rw [if_neg e0, if_neg e0]
  by_cases e1 : (x_kind a).1 = 1
  · rw [if_pos e1, if_pos e1, h2]; rfl
  rw [if_neg e1, if_neg e1]
  by_cases e2 : (x_kind a).1 = 2
  · rw [if_pos e2, if_pos e2, h1]; rfl
  rw [if_neg e2, if_neg e2]
  rw [if_neg (by omega)] at h
  by_cases e9 : (x_kind a).1 < 10
  · rw [if_pos e9] at h
    rw [if_pos e9, if_pos e9]
    have hf : (fun i => if i < (x_kind a).2 then some (xad (gK g ad' []) (x_ref a i)) else none) = (fun i => if i < (x_kind a).2 then some (xad (gK g ad []) (x_ref a i)) else none) := by
      funext i
      by_cases hi : i < (x_kind a).2
      · rw [if_pos hi, if_pos hi]
        show some (ad' (x_ref a i)) = some (ad (x_ref a i))
        rw [h _ (List.mem_map.mpr ⟨i, List.mem_range.mpr hi, rfl⟩)]
      · rw [if_neg hi, if_neg hi]
    rw [hf]
    rfl
  · rw [if_neg e9] at h
    rw [if_neg e9, if_neg e9]
    have hf : x_fs (gK g ad' []) u' a ((x_kind a).1 - 10) = x_fs (gK g ad []) u a ((x_kind a).1 - 10) := by
      unfold x_fs
      refine List.map_congr_left (fun j hj => ?_)
      unfold x_fv
      rw [h1, h2]
      by_cases f0 : x_fk ((x_kind a).1 - 10) j = 0
      · rw [if_pos f0, if_pos f0]
      rw [if_neg f0, if_neg f0]
      by_cases f1 : x_fk ((x_kind a).1 - 10) j = 1
      · rw [if_pos f1, if_pos f1]
      rw [if_neg f1, if_neg f1]
      show Value.ref (ad' (x_ref a j)) = Value.ref (ad (x_ref a j))
      rw [h _ (List.mem_map.mpr ⟨j, List.mem_filter.mpr ⟨hj, by simp [f0, f1]⟩, rfl⟩)]
    rw [hf]
theorem xwl_cg (h : ∀ a ∈ Ks, (∀ k ∈ xrf a, ad' k = ad k) ∧ ad' a = ad a ∧ u'.1 a = u.1 a ∧ u'.2 a = u.2 a) : xwl g ad' Ks u' = xwl g ad Ks u := by
  unfold xwl
  refine List.map_congr_left (fun a ha => ?_)
  obtain ⟨h1, h2, h3, h4⟩ := h a ha
  rw [xe_ad h1 h3 h4, h2]
theorem newK_s (h : newK k Ks = true) : ∀ a ∈ Ks, a ≠ k ∧ k ∉ xrf a := fun a ha => by
  unfold newK at h
  have := List.all_eq_true.mp h a ha
  simp only [Bool.and_eq_true, bne_iff_ne, ne_eq, Bool.not_eq_true', List.contains_eq_mem, decide_eq_false_iff_not] at this
  exact this
theorem xwl_ua (h : newK k Ks = true) : xwl g (ua ad k q) Ks u = xwl g ad Ks u := xwl_cg (fun a ha => by
  obtain ⟨h1, h2⟩ := newK_s h a ha
  exact ⟨fun j hj => if_neg (c := j = k) (fun z : j = k => h2 (z ▸ hj)), if_neg h1, rfl, rfl⟩)
theorem aprt_s (h : aprt Ks Ks1 = true) : (∀ a ∈ Ks, a ∉ Ks1 ∧ ∀ k ∈ xrf a, k ∉ Ks1) ∧ ∀ a ∈ Ks1, ∀ k ∈ xrf a, k ∈ Ks1 := by
  unfold aprt at h
  rw [Bool.and_eq_true] at h
  refine ⟨fun a ha => ?_, fun a ha k hk => ?_⟩
  · have := List.all_eq_true.mp h.1 a ha
    simp only [Bool.and_eq_true, Bool.not_eq_true', List.contains_eq_mem, decide_eq_false_iff_not, List.all_eq_true] at this
    exact this
  · have := List.all_eq_true.mp (List.all_eq_true.mp h.2 a ha) k hk
    simpa using this
theorem xwl_um (h : aprt Ks Ks1 = true) (hu : ∀ a ∈ Ks1, u.1 a = u1.1 a ∧ u.2 a = u1.2 a) : xwl g (um ad ad1 Ks1) (Ks ++ Ks1) u = xwl g ad Ks u ++ xwl g ad1 Ks1 u1 := by
  obtain ⟨h1, h2⟩ := aprt_s h
  rw [xwl_app]
  refine congr (congrArg _ (xwl_cg (fun a ha => ?_))) (xwl_cg (fun a ha => ?_))
  · obtain ⟨h3, h4⟩ := h1 a ha
    exact ⟨fun k hk => if_neg (h4 k hk), if_neg h3, rfl, rfl⟩
  · exact ⟨fun k hk => if_pos (h2 a ha k hk), if_pos ha, (hu a ha).1, (hu a ha).2⟩
theorem xwl_push (h : newK k Ks = true) {e : va_E} (he : x_e (gK g (ua ad k q) []) u k = e) : xwl g (ua ad k q) (Ks ++ [k]) u = xwl g ad Ks u ++ [(q, e)] := by
  rw [xwl_app, xwl_ua h, ← he]
  show _ ++ [(ua ad k q k, _)] = _
  rw [show ua ad k q k = q from if_pos rfl]
theorem xwl_seal (h : newK k Ks = true) {e : va_E} (he : x_e (gK g (ua ad k q) []) u k = e) : xwl g (ua ad k q) (k :: Ks) u = (q, e) :: xwl g ad Ks u := by
  show (ua ad k q k, x_e (gK g (ua ad k q) []) u k) :: xwl g (ua ad k q) Ks u = _
  rw [xwl_ua h, he, show ua ad k q k = q from if_pos rfl]
/-- worlds by their members -/
theorem yP : va_P D cl ws H ↔ ∀ x ∈ ws, va_at D cl x H := ⟨fun h x hx => by
  obtain ⟨i, hi⟩ := List.getElem?_of_mem hx
  exact h i x hi, fun h k x hx => h x (List.mem_of_getElem? hx)⟩
theorem yD : va_D A ws ↔ ws.Pairwise (fun x y => x.1 ≠ y.1) ∧ ∀ x ∈ ws, A x.1 := by
  constructor
  · rintro ⟨h1, h2⟩
    refine ⟨List.pairwise_iff_getElem.mpr (fun i j hi hj hij e => ?_), fun x hx => ?_⟩
    · have := h1 i j _ _ (List.getElem?_eq_getElem hi) (List.getElem?_eq_getElem hj) e
      omega
    · obtain ⟨i, hi⟩ := List.getElem?_of_mem hx
      exact h2 i x hi
  · rintro ⟨h1, h2⟩
    rw [List.pairwise_iff_getElem] at h1
    refine ⟨fun i j x y hx hy e => ?_, fun k x hx => h2 x (List.mem_of_getElem? hx)⟩
    obtain ⟨hi, rfl⟩ := List.getElem?_eq_some_iff.mp hx
    obtain ⟨hj, rfl⟩ := List.getElem?_eq_some_iff.mp hy
    rcases Nat.lt_trichotomy i j with z | z | z
    · exact absurd e (h1 i j hi hj z)
    · exact z
    · exact absurd e.symm (h1 j i hj hi z)
theorem yA {c : Nat × va_E} {sz : Nat} : va_A [c] sz q ↔ q = c.1 ∨ sz ≤ q := by
  constructor
  · rintro (⟨k, e, h⟩ | h)
    · cases k with
      | zero => cases h; exact Or.inl rfl
      | succ k => cases h
    · exact Or.inr h
  · rintro (h | h)
    · subst h
      exact Or.inl ⟨0, c.2, rfl⟩
    · exact Or.inr h
theorem y_join {c : Nat × va_E} (hP : va_P D cl (ws ++ [c]) H) (hD : va_D A0 (ws ++ [c])) (hk : ∀ x : Nat, x < H.size → ¬ va_A [c] H.size x → H1[x]? = H[x]?) (hF : ∀ x, va_A [c] H.size x → A0 x) (hP1 : va_P D cl w1 H1) (hD1 : va_D (va_A [c] H.size) w1) : va_P D cl (ws ++ w1) H1 ∧ va_D A0 (ws ++ w1) := by
  have hlt : ∀ x ∈ ws, x.1 < H.size ∧ ¬ va_A [c] H.size x.1 := fun x hx => by
    obtain ⟨i, hi⟩ := List.getElem?_of_mem (List.mem_append_left [c] hx)
    have hl := (hP i x hi).lt
    refine ⟨hl, fun z => ?_⟩
    rcases yA.mp z with z | z
    · have := (List.pairwise_append.mp (yD.mp hD).1).2.2 x hx c (List.mem_singleton.mpr rfl)
      exact this z
    · omega
  rw [yP] at hP hP1
  rw [yD] at hD hD1
  refine ⟨yP.mpr (fun x hx => ?_), yD.mpr ⟨List.pairwise_append.mpr ⟨(List.pairwise_append.mp hD.1).1, hD1.1, fun x hx y hy e => ?_⟩, fun x hx => ?_⟩⟩
  · rcases List.mem_append.mp hx with h | h
    · exact (hP x (List.mem_append_left _ h)).kept (hk _ (hlt x h).1 (hlt x h).2)
    · exact hP1 x h
  · exact (hlt x hx).2 (e ▸ hD1.2 y hy)
  · rcases List.mem_append.mp hx with h | h
    · exact hD.2 x (List.mem_append_left _ h)
    · exact hF _ (hD1.2 x h)
theorem y_permP (h : ∀ x, x ∈ ws ↔ x ∈ ws') (hP : va_P D cl ws H) : va_P D cl ws' H := yP.mpr (fun x hx => yP.mp hP x ((h x).mpr hx))
theorem y_permD (h : ws.Perm ws') (hD : va_D A ws) : va_D A ws' := by
  rw [yD] at hD ⊢
  exact ⟨(h.pairwise_iff (fun e => Ne.symm e)).mp hD.1, fun x hx => hD.2 x (h.mem_iff.mpr hx)⟩
/-- the same addresses -/
theorem y_adD (h : ws.map (fun x => x.1) = ws'.map (fun x => x.1)) (hD : va_D A ws) : va_D A ws' := by
  rw [yD] at hD ⊢
  have e : ∀ w : va_W, w.Pairwise (fun x y => x.1 ≠ y.1) ↔ (w.map (fun x => x.1)).Pairwise (fun x y => x ≠ y) := fun w => List.pairwise_map.symm
  refine ⟨by rw [e, ← h, ← e]; exact hD.1, fun x hx => ?_⟩
  have : x.1 ∈ ws.map (fun x => x.1) := by rw [h]; exact List.mem_map_of_mem hx
  obtain ⟨y, hy, hyx⟩ := List.mem_map.mp this
  rw [← hyx]
  exact hD.2 y hy
theorem xwl_ads : (xwl g ad Ks u).map (fun x => x.1) = Ks.map ad := by
  unfold xwl
  rw [List.map_map]
  rfl
end GROW
/-- what stands beside the worlds: statics, Strings, links of nest mates -/
def y_S0 (g : xG) (A : Nat → Prop) (U : State) : Prop := (x_Ns U ∧ va_Z "java/lang/String" "COMPACT_STRINGS" "Z" (.int 1) A U U.heap ∧ va_Zq "jdk/internal/util/Preconditions" "SIOOBE_FORMATTER" "Ljava/util/function/BiFunction;" A U U.heap) ∧ va_Z "DryDoors$Planner" "ORDERS" "[I" (.ref (xtO g)) A U U.heap ∧ va_T .int (xtO g) 6 (fun j => .int (x_ord j)) A U U.heap ∧ vk_S x_nS x_lenS x_bytS (xsK g) (xsV g) A U U.heap ∧ vk_R "DryDoorsModel" 187 " room door tide pump rota errand floor area bears water from to sill wide leaks by sea hour open shut bail any when loop end stop wet depth " (xsK g 2) U
def va_AOA (ty : FieldType) (U : State) : Prop := (Cond.arrayOver (.array ty)).before #[] U = true
theorem va_AOA.use {ty : FieldType} {A : Array Value} {U : State} (h : va_AOA ty U) : (Cond.arrayOver (.array ty)).before A U = true := h
def y_nest : List Cond := [.methodLinkNest "DryDoors$Land" 11 yX7_init "DryDoors", .methodLinkNest "DryDoors$Land" 20 yX0_init "DryDoors", .methodLinkNest "DryDoors" 18 yX4_init "DryDoors", .methodLinkNest "DryDoors" 28 yX6_init "DryDoors", .methodLinkNest "DryDoors" 35 yX2_init "DryDoors", .methodLinkNest "DryDoors" 42 yX5_init "DryDoors", .methodLinkNest "DryDoors$NightsReader" 22 yX4_init "DryDoors", .methodLinkNest "DryDoors" 49 yX3_init "DryDoors", .methodLinkNest "DryDoors" 89 yX9_init "DryDoors"]
theorem y_over {ty : FieldType} {args : Array Value} {U : State} (h : (Cond.arrayOver (.array ty)).before args U = true) : ∃ comp c k, U.vm.findClass (FieldType.array ty).toString = some comp ∧ (U.vm.classes.findIdx? fun x => match x.kind with | .array component _ => component == comp | _ => false) = some c ∧ U.vm.classes[c]? = some k ∧ k.kind = .array comp (.array ty) ∧ U.vm.findClass ("[" ++ (FieldType.array ty).toString) = some c := by
  unfold Cond.before at h
  simp only [Cond.holds, Cond.value, beq_iff_eq] at h
  cases hc : U.vm.findClass (FieldType.array ty).toString with
  | none => simp [hc] at h
  | some comp =>
    simp only [hc, Option.bind_some, Option.bind_eq_some_iff, Option.map_eq_some_iff] at h
    obtain ⟨c, hi, k, hk, hb⟩ := h
    obtain ⟨hlt, hp, -⟩ := Array.findIdx?_eq_some_iff_getElem.mp hi
    have hkk : U.vm.classes[c] = k := (Array.getElem?_eq_some_iff.mp hk).2
    rw [hkk] at hp
    cases hkind : k.kind with
    | array component ty' =>
      rw [hkind] at hb hp
      simp at hb hp
      exact ⟨comp, c, k, rfl, hi, hk, by rw [hkind, hp, hb.1], hb.2⟩
    | _ => rw [hkind] at hb; simp at hb
theorem y_idx_bare (vm : Vm) (comp : ClassId) : (vm.bare.classes.findIdx? fun (x : Class) => match x.kind with | .array component _ => component == comp | _ => false) = (vm.classes.findIdx? fun (x : Class) => match x.kind with | .array component _ => component == comp | _ => false) := by
  simp only [Vm.bare, Array.findIdx?_map]
  rfl
theorem va_AOA.moved {ty : FieldType} {u U : State} (hvm : u.vm.Alike U.vm) (h : va_AOA ty u) : va_AOA ty U := by
  obtain ⟨comp, c, k, h1, h2, h3, h4, h5⟩ := y_over h
  obtain ⟨k', hk', he⟩ := hvm.2.2 _ _ h3
  have hi : (U.vm.classes.findIdx? fun (x : Class) => match x.kind with | .array component _ => component == comp | _ => false) = some c := by
    rw [← y_idx_bare]
    first | rw [hvm.bare_eq] | rw [← hvm.bare_eq]
    rw [y_idx_bare]
    exact h2
  have hkind : k'.kind = .array comp (.array ty) := by rw [he]; exact h4
  have f1 : U.vm.findClass (FieldType.array ty).toString = some comp := by rw [hvm.findClass]; exact h1
  have f2 : U.vm.findClass ("[" ++ (FieldType.array ty).toString) = some c := by rw [hvm.findClass]; exact h5
  unfold va_AOA Cond.before Cond.holds
  simp only [Cond.value]
  rw [f1, Option.bind_some]
  refine (congrArg (fun o : Option Nat => (o.bind (fun c => (U.vm.classes[c]?).map fun (k : Class) => match k.kind with | .array _ ty' => decide (ty' = FieldType.array ty) && decide (U.vm.findClass ("[" ++ (FieldType.array ty).toString) = some c) | _ => false) == some true)) hi).trans ?_
  simp [hk', hkind, f2]
def y_S1 (g : xG) (U : State) : Prop := (∀ w ∈ y_nest, va_Nw w U) ∧ (va_AO "DryDoors$Land" U ∧ va_AO "DryDoors$Nights" U ∧ va_AO "DryDoors$Tray" U ∧ va_AOA .int U) ∧ vk_R "DryDoors$Text" 38 "hour open shut bail any when wet depth loop end stop " (xsK g 1) U ∧ vk_R "DryDoors$Text" 40 "room floor area bears water door from to sill wide leaks tide pump rota errand by sea " (xsK g 0) U
theorem y_nest_m : ∀ w ∈ y_nest, ∃ a i x h, w = .methodLinkNest a i x h := fun w hw => by
  unfold y_nest at hw
  simp only [List.mem_cons, List.not_mem_nil, or_false] at hw
  rcases hw with rfl | rfl | rfl | rfl | rfl | rfl | rfl | rfl | rfl <;> exact ⟨_, _, _, _, rfl⟩
section YS
variable {g : xG} {A B : Nat → Prop} {s U : State} {H : Heap} {locs : List Loc}
theorem y_S1.moved (h : y_S1 g s) (hW : s.WarmedH U.vm) : y_S1 g U := by
  obtain ⟨h1, ⟨h2, h3, h4, h5⟩, h6, h7⟩ := h
  refine ⟨fun w hw => ?_, ⟨h2.moved hW.alike, h3.moved hW.alike, h4.moved hW.alike, h5.moved hW.alike⟩, h6.warm hW, h7.warm hW⟩
  obtain ⟨a, i, x, hh, rfl⟩ := y_nest_m w hw
  exact (h1 _ hw).warmM hW
theorem y_S1.calling {a : Array Value} {f : JFrame} {mk : MethodId} (h : y_S1 g U) : y_S1 g (U.calling f mk a) := by
  obtain ⟨h1, ⟨h2, h3, h4, h5⟩, h6, h7⟩ := h
  refine ⟨fun w hw => ?_, ⟨va_AO.moved (u := U) (U := U.calling f mk a) (Vm.Alike.refl U.vm) h2, va_AO.moved (u := U) (U := U.calling f mk a) (Vm.Alike.refl U.vm) h3, va_AO.moved (u := U) (U := U.calling f mk a) (Vm.Alike.refl U.vm) h4, va_AOA.moved (u := U) (U := U.calling f mk a) (Vm.Alike.refl U.vm) h5⟩, vk_R.same (u := U) (U := U.calling f mk a) rfl h6, vk_R.same (u := U) (U := U.calling f mk a) rfl h7⟩
  obtain ⟨a, i, x, hh, rfl⟩ := y_nest_m w hw
  exact va_Nw.same rfl (u := U) rfl (h1 _ hw)
theorem y_S0.moved (h : y_S0 g A s) (hS : va_S A s.heap H locs) (hU : U.heap = H) (hW : s.WarmedH U.vm) : y_S0 g A U := by
  obtain ⟨⟨h0, h00, h01⟩, h1, h2, h3, h4⟩ := h
  have hk : ∀ a : Nat, a < s.heap.size → ¬ A a → U.heap[a]? = s.heap[a]? := fun a h5 h6 => by rw [hU]; exact hS.2.1 a h5 h6
  exact ⟨⟨⟨h0.1.warmM hW, h0.2.1.warmM hW, h0.2.2.1.warmM hW, h0.2.2.2.warmM hW⟩, (h00.kept hk).moved hW.alike, (h01.kept hk).moved hW.alike⟩, (h1.kept hk).moved hW.alike, (h2.kept hk).moved hW.alike, (h3.kept hk).moved hW.alike, h4.warm hW⟩
theorem y_S0.calling {a : Array Value} {f : JFrame} {mk : MethodId} (h : y_S0 g A U) : y_S0 g A (U.calling f mk a) := by
  obtain ⟨⟨h0, h00, h01⟩, h1, h2, h3, h4⟩ := h
  exact ⟨⟨⟨va_Nw.same rfl (u := U) (U := U.calling f mk a) rfl h0.1, va_Nw.same rfl (u := U) (U := U.calling f mk a) rfl h0.2.1, va_Nw.same rfl (u := U) (U := U.calling f mk a) rfl h0.2.2.1, va_Nw.same rfl (u := U) (U := U.calling f mk a) rfl h0.2.2.2⟩, h00.moved (u := U) (U := U.calling f mk a) (Vm.Alike.refl U.vm), h01.moved (u := U) (U := U.calling f mk a) (Vm.Alike.refl U.vm)⟩, h1.moved (u := U) (U := U.calling f mk a) (Vm.Alike.refl U.vm), h2.moved (u := U) (U := U.calling f mk a) (Vm.Alike.refl U.vm), h3.moved (u := U) (U := U.calling f mk a) (Vm.Alike.refl U.vm), vk_R.same (u := U) (U := U.calling f mk a) rfl h4⟩
theorem y_S0.narrow (h : y_S0 g A U) (hAB : ∀ q, B q → A q) : y_S0 g B U := by
  obtain ⟨⟨h0, h00, h01⟩, h1, h2, h3, h4⟩ := h
  exact ⟨⟨h0, h00.narrow hAB, h01.narrow hAB⟩, h1.narrow hAB, h2.narrow hAB, h3.narrow hAB, h4⟩
end YS
/-- the memory that both objects begin with -/
def uI : xM := (fun k i => if k ∈ [104, 131, 158, 185, 212, 239, 266] then (if i < 12 then 10 else 0) else if k ∈ xpLL ∧ i = 9 then 4095 else if k ∈ xpYL ∧ i = 2 then -1 else if k = 34 ∧ i = 1 then 901 else if k = 40 ∧ i = 1 then 301 else if k = 0 ∧ (i = 17 ∨ i = 18) then -1 else if k = 272 ∧ (i = 16 ∨ i = 17 ∨ i = 23 ∨ i = 24) then -1 else if k = 273 then (if i = 4 then -1 else if 135 ≤ i ∧ i < 147 then 10 else 0) else if k = 276 ∧ i < 4 then -1 else 0,
  fun k i => if (k = 35 ∨ k = 41) ∧ i < 28 then wordK i else if (k = 0 ∧ i = 16) ∨ (k = 272 ∧ i = 4) then 1 else 0)
/-- a method that makes: its code, its tables, its class -/
def y_C (p : Program) (s : State) (m : MethodId) (args : Array Value) (meth : Method) (c : Code) (g : xG) (A : Nat → Prop) (own : String) (cc : ByteArray) (nL : Nat) : Prop :=
  (p.tables.exec = Jvm.exec ∧ c.code = cc ∧ c.maxLocals = nL ∧ s.vm.findClass own = some m.cls ∧ (∀ w ∈ wsL_law, w.before args s = true) ∧ meth.locks = false) ∧ va_K (xDD g) vwCl (x_tys g) s ∧ (y_S0 g A s ∧ y_S1 g s) ∧ ∀ q, s.heap.size ≤ q → A q
def y_W (g : xG) (A : Nat → Prop) (X : va_W) (ad : Nat → Nat) (Ks : List Nat) (u : xM) (H0 H : Heap) (locs : List Loc) : Prop := va_P (xDD g) vwCl (X ++ xwl g ad Ks u) H ∧ va_D A (X ++ xwl g ad Ks u) ∧ va_S A H0 H locs
def y_pre (g : xG) (h0 ci : Nat) (fs : List Value) (sz : Nat) (U : State) : Prop := U.heap.size = sz ∧ va_P (xDD g) vwCl [(h0, .inr (ci, fs))] U.heap ∧ va_K (xDD g) vwCl (x_tys g) U ∧ y_S0 g (va_A [(h0, .inr (ci, fs))] sz) U ∧ y_S1 g U
def y_post (g : xG) (A : Nat → Prop) (Ks : List Nat) (ad : Nat → Nat) (t : State) : Prop := va_P (xDD g) vwCl (xwl g ad Ks uI) t.heap ∧ va_D A (xwl g ad Ks uI)
/-- a constructor's contract -/
def CTRy (l : Launch) (g : xG) (y : MethodName) (bytes : ByteArray) (maxL ci : Nat) (fs : List Value) (o : Nat) (Ks : List Nat) (mc ms fr lo : Nat) (As : List Value) : Prop := ∀ h0 sz : Nat, Met l y (Cond.code y bytes maxL none :: wsL_law) { frames := fr, cells := mc, slots := ms, locals := lo } (va_Pc (.ref h0 :: As) (y_pre g h0 ci fs sz)) (va_Qv (fun ad => ad o = h0) (y_post g (va_A [(h0, .inr (ci, fs))] sz) Ks) (va_A [(h0, .inr (ci, fs))] sz)) mc ms (va_A [(h0, .inr (ci, fs))] sz)
section YR
variable {p : Program} {l : Launch} {e : Env} {R : Room} {s : State} {m : MethodId} {args : Array Value} {below : List Frame} {meth : Method} {c : Code} {H : Heap} {locs : List Loc} {cells slots c' n' : Nat} {Q : State → Prop}
variable {cc : ByteArray} {pc nL : Nat} {ls : Array Slot} {rest : List Value} {g : xG} {u : xM} {own : String} {A : Nat → Prop} {X : va_W} {ad : Nat → Nat} {Ks : List Nat}
theorem y_blind {h0 ci sz : Nat} {fs av : List Value} : FrameBlind (va_Pc av (y_pre g h0 ci fs sz)) := fun a U f mk q => by
  obtain ⟨q1, q2, q3, q4, q5, q6⟩ := q
  exact ⟨q1, q2, q3, va_K.moved (u := U) (U := U.calling f mk a) (Vm.Alike.refl U.vm) q4, q5.calling, q6.calling⟩
/-- the class of arrays of a type is one -/
theorem y_cls {D : va_G} {cl : List vw_C} {tys : List (ClassId × FieldType)} {cA cB : ClassId} {ty : FieldType} {t : Nat} (hK : va_K D cl (tys ++ [(cA, ty)]) s) (hK2 : va_K D cl tys s) (ht : tys[t]? = some (cB, ty)) : cA = cB := by
  have h1 := (hK.2 tys.length (cA, ty) (by simp)).2
  have h2 := (hK2.2 t _ ht).2
  have f : ∀ c : ClassId, va_RA s c ty → s.vm.findClass ("[" ++ ty.toString) = some c := fun c h => by
    cases ty with
    | object C => obtain ⟨_, _, -, -, -, h⟩ := h; exact h
    | _ => exact h
  exact Option.some.inj ((f cA h1).symm.trans (f cB h2))
theorem y_newi (C : y_C p s m args meth c g A own cc nL) (hw : y_W g A X ad Ks u s.heap H locs) {k n : Nat} {v : Int32} (hk : x_kind k = (0, n)) (hz : u.1 k = fun _ => 0) (hn : newK k Ks = true) (hv : v = nI n) (hn2 : n ≤ 10000) (hr : cells + 1 ≤ R.cells ∧ slots + n ≤ R.slots) (hc : c' = cells + 1) (hs : n' = slots + n) (hd : decode cc pc = .ok (.newarray .int, 2))
    (kk : ∀ (q : Nat) (H1 : Heap), y_W g A X (ua ad k q) (Ks ++ [k]) u s.heap H1 locs → W p l e R s m args below meth c H1 locs c' n' Q (F0 m (pc + 2) ls (.ref q :: rest))) : W p l e R s m args below meth c H locs cells slots Q (F0 m pc ls (.int v :: rest)) := by
  subst hc hs
  obtain ⟨⟨hx, hb, hml, hown, hts, -⟩, hK, hSS, hA⟩ := C
  obtain ⟨hP, hD, hS⟩ := hw
  subst hv
  refine va_newa (ty := .int) (a0 := (n, .inl (fun _ => 0))) (atype := .int) hx hb (hts _ xw_65) rfl hK hP hD hS hA (fun cA => by simp [vp_cell, defaultValue]) (by rw [show ((nI n < 0) : Prop) = (n < 0) from cLT (b := 0) (by omega) (by omega)]; omega) (cCL (by omega)) (Nat.le_trans (Nat.mul_le_mul_right 4 hn2) (by decide)) hr.1 hr.2 hd (fun q cA H1 hK1 hP1 hD1 hS1 => kk q H1 ⟨?_, ?_, hS1⟩)
  all_goals
    have ec : cA = xtc g 0 := y_cls (t := 0) hK1 hK rfl
    rw [xwl_push (e := .inl (cA, (n, .inl (fun _ => 0)))) hn (by rw [x_e0 hk, hz, ec]; rfl), ← List.append_assoc]
    assumption
end YR
