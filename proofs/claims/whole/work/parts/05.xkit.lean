/-! the static memory: roles (places) of all cells, their kinds, their references; what changes is a pair of functions -/
abbrev xM : Type := (Nat → Nat → Int32) × (Nat → Nat → Int64)
def gi (u : xM) (k i : Nat) : Int32 := u.1 k i
def gl (u : xM) (k i : Nat) : Int64 := u.2 k i
def si (u : xM) (k i : Nat) (v : Int32) : xM := (fun a => if a = k then upd (u.1 k) i v else u.1 a, u.2)
def sl (u : xM) (k i : Nat) (v : Int64) : xM := (u.1, fun a => if a = k then vp_updL (u.2 k) i v else u.2 a)
def cpi (u : xM) (k0 sp k1 dp n : Nat) : xM := (fun a => if a = k1 then va_cpy (u.1 k0) (u.1 k1) sp dp n else u.1 a, u.2)
def cpl (u : xM) (k0 sp k1 dp n : Nat) : xM := (u.1, fun a => if a = k1 then va_cpy (u.2 k0) (u.2 k1) sp dp n else u.2 a)
def xb (b : Bool) : Int32 := if b then 1 else 0
/-- kinds: 0 int[], 1 long[], 2 byte[], 3 .. 6 arrays of references, 10 + class: an object; lengths -/
def x_kindL : List (Nat × Nat) := [(20, 19), (3, 3), (4, 3), (5, 4), (2, 900), (16, 7), (6, 10), (0, 7), (0, 7), (0, 7), (0, 7), (0, 7), (0, 7), (0, 7), (0, 7), (0, 7), (0, 7), (6, 12), (0, 7), (0, 7), (0, 7), (0, 7), (0, 7), (0, 7), (0, 7), (0, 7), (0, 7), (0, 7), (0, 7), (0, 7), (0, 12), (12, 2), (15, 4), (0, 3), (18, 16), (1, 28), (0, 901), (0, 901), (1, 901), (0, 901), (18, 16), (1, 28), (0, 301), (0, 301), (1, 301), (0, 301), (13, 9), (0, 60), (13, 9), (0, 60), (19, 3), (1, 60), (19, 3), (1, 60), (19, 3), (1, 60), (19, 3), (1, 60), (14, 7), (0, 60), (0, 60), (0, 60), (0, 60), (14, 7), (0, 60), (0, 60), (0, 60), (0, 60), (14, 7), (0, 60), (0, 60), (0, 60), (0, 60), (14, 7), (0, 60), (0, 60), (0, 60), (0, 60), (14, 7), (0, 60), (0, 60), (0, 60), (0, 60), (11, 15), (17, 9), (1, 7), (0, 7), (0, 7), (0, 7), (0, 7), (0, 7), (0, 7), (10, 10), (1, 10), (0, 10), (0, 10), (0, 10), (0, 10), (0, 10), (0, 12), (1, 4), (0, 4), (0, 4), (0, 4), (0, 12), (0, 8), (0, 10), (0, 10), (0, 10), (0, 10), (11, 15), (17, 9), (1, 7), (0, 7), (0, 7), (0, 7), (0, 7), (0, 7), (0, 7), (10, 10), (1, 10), (0, 10), (0, 10), (0, 10), (0, 10), (0, 10), (0, 12), (1, 4), (0, 4), (0, 4), (0, 4), (0, 12), (0, 8), (0, 10), (0, 10), (0, 10), (0, 10), (11, 15), (17, 9), (1, 7), (0, 7), (0, 7), (0, 7), (0, 7), (0, 7), (0, 7), (10, 10), (1, 10), (0, 10), (0, 10), (0, 10), (0, 10), (0, 10), (0, 12), (1, 4), (0, 4), (0, 4), (0, 4), (0, 12), (0, 8), (0, 10), (0, 10), (0, 10), (0, 10), (11, 15), (17, 9), (1, 7), (0, 7), (0, 7), (0, 7), (0, 7), (0, 7), (0, 7), (10, 10), (1, 10), (0, 10), (0, 10), (0, 10), (0, 10), (0, 10), (0, 12), (1, 4), (0, 4), (0, 4), (0, 4), (0, 12), (0, 8), (0, 10), (0, 10), (0, 10), (0, 10), (11, 15), (17, 9), (1, 7), (0, 7), (0, 7), (0, 7), (0, 7), (0, 7), (0, 7), (10, 10), (1, 10), (0, 10), (0, 10), (0, 10), (0, 10), (0, 10), (0, 12), (1, 4), (0, 4), (0, 4), (0, 4), (0, 12), (0, 8), (0, 10), (0, 10), (0, 10), (0, 10), (11, 15), (17, 9), (1, 7), (0, 7), (0, 7), (0, 7), (0, 7), (0, 7), (0, 7), (10, 10), (1, 10), (0, 10), (0, 10), (0, 10), (0, 10), (0, 10), (0, 12), (1, 4), (0, 4), (0, 4), (0, 4), (0, 12), (0, 8), (0, 10), (0, 10), (0, 10), (0, 10), (11, 15), (17, 9), (1, 7), (0, 7), (0, 7), (0, 7), (0, 7), (0, 7), (0, 7), (10, 10), (1, 10), (0, 10), (0, 10), (0, 10), (0, 10), (0, 10), (0, 12), (1, 4), (0, 4), (0, 4), (0, 4), (0, 12), (0, 8), (0, 10), (0, 10), (0, 10), (0, 10), (21, 44), (0, 3668), (1, 126), (0, 4), (0, 4), (1, 240), (2, 900), (2, 900), (0, 3), (0, 10), (0, 10), (0, 4), (0, 4), (0, 7), (0, 10), (0, 80), (0, 5), (0, 5)]
def x_kind (k : Nat) : Nat × Nat := x_kindL.getD k (99, 0)
def x_len (k : Nat) : Nat := (x_kind k).2
def x_refL : List (List Nat) := [[83, 58, 110, 5, 31, 32, 46, 48, 1, 2, 0, 3, 4], [191, 218, 245], [68, 73, 78], [50, 52, 54, 56], [], [137, 6, 17, 30], [7, 8, 9, 10, 11, 12, 13, 14, 15, 16], [], [], [], [], [], [], [], [], [], [], [18, 19, 20, 21, 22, 23, 24, 25, 26, 27, 28, 29], [], [], [], [], [], [], [], [], [], [], [], [], [], [34, 164], [40, 63, 33], [], [35, 0, 36, 37, 38, 39], [], [], [], [], [], [41, 0, 42, 43, 44, 45], [], [], [], [], [], [0, 0, 0, 0, 0, 0, 0, 0, 47], [], [0, 0, 0, 0, 0, 0, 0, 0, 49], [], [51], [], [53], [], [55], [], [57], [], [0, 0, 0, 59, 60, 61, 62], [], [], [], [], [0, 0, 0, 64, 65, 66, 67], [], [], [], [], [0, 0, 0, 69, 70, 71, 72], [], [], [], [], [0, 0, 0, 74, 75, 76, 77], [], [], [], [], [0, 0, 0, 79, 80, 81, 82], [], [], [], [], [84, 92, 0, 100, 101, 102, 103, 104, 0, 0, 105, 106, 107, 108, 109], [0, 0, 85, 86, 87, 88, 89, 90, 91], [], [], [], [], [], [], [], [0, 0, 0, 93, 94, 95, 96, 97, 98, 99], [], [], [], [], [], [], [], [], [], [], [], [], [], [], [], [], [], [111, 119, 0, 127, 128, 129, 130, 131, 0, 0, 132, 133, 134, 135, 136], [0, 0, 112, 113, 114, 115, 116, 117, 118], [], [], [], [], [], [], [], [0, 0, 0, 120, 121, 122, 123, 124, 125, 126], [], [], [], [], [], [], [], [], [], [], [], [], [], [], [], [], [], [138, 146, 0, 154, 155, 156, 157, 158, 0, 0, 159, 160, 161, 162, 163], [0, 0, 139, 140, 141, 142, 143, 144, 145], [], [], [], [], [], [], [], [0, 0, 0, 147, 148, 149, 150, 151, 152, 153], [], [], [], [], [], [], [], [], [], [], [], [], [], [], [], [], [], [165, 173, 0, 181, 182, 183, 184, 185, 0, 0, 186, 187, 188, 189, 190], [0, 0, 166, 167, 168, 169, 170, 171, 172], [], [], [], [], [], [], [], [0, 0, 0, 174, 175, 176, 177, 178, 179, 180], [], [], [], [], [], [], [], [], [], [], [], [], [], [], [], [], [], [192, 200, 0, 208, 209, 210, 211, 212, 0, 0, 213, 214, 215, 216, 217], [0, 0, 193, 194, 195, 196, 197, 198, 199], [], [], [], [], [], [], [], [0, 0, 0, 201, 202, 203, 204, 205, 206, 207], [], [], [], [], [], [], [], [], [], [], [], [], [], [], [], [], [], [219, 227, 0, 235, 236, 237, 238, 239, 0, 0, 240, 241, 242, 243, 244], [0, 0, 220, 221, 222, 223, 224, 225, 226], [], [], [], [], [], [], [], [0, 0, 0, 228, 229, 230, 231, 232, 233, 234], [], [], [], [], [], [], [], [], [], [], [], [], [], [], [], [], [], [246, 254, 0, 262, 263, 264, 265, 266, 0, 0, 267, 268, 269, 270, 271], [0, 0, 247, 248, 249, 250, 251, 252, 253], [], [], [], [], [], [], [], [0, 0, 0, 255, 256, 257, 258, 259, 260, 261], [], [], [], [], [], [], [], [], [], [], [], [], [], [], [], [], [], [273, 274, 0, 0, 0, 275, 276, 277, 278, 279, 0, 0, 0, 0, 0, 0, 0, 0, 0, 0, 280, 0, 0, 0, 0, 0, 281, 282, 0, 0, 283, 284, 0, 0, 0, 285, 286, 0, 0, 287, 288, 289], [], [], [], [], [], [], [], [], [], [], [], [], [], [], [], [], []]
def x_ref (k j : Nat) : Nat := (x_refL.getD k []).getD j 0
def x_fkL : List (List Nat) := [[0, 0, 0, 2, 2, 2, 2, 2, 2, 2], [2, 2, 0, 2, 2, 2, 2, 2, 0, 0, 2, 2, 2, 2, 2], [2, 2], [0, 0, 0, 0, 0, 0, 0, 0, 2], [0, 0, 0, 2, 2, 2, 2], [2, 2, 2, 0], [2, 2, 2, 2, 0, 0, 0], [0, 0, 2, 2, 2, 2, 2, 2, 2], [2, 0, 2, 2, 2, 2, 0, 0, 0, 0, 1, 0, 0, 0, 0, 0], [2, 0, 0], [2, 2, 2, 2, 2, 2, 2, 2, 2, 2, 0, 2, 2, 0, 0, 1, 1, 0, 0], [2, 2, 0, 1, 1, 2, 2, 2, 2, 2, 0, 0, 0, 0, 0, 0, 0, 0, 0, 0, 2, 0, 0, 0, 0, 0, 2, 2, 0, 0, 2, 2, 0, 0, 0, 2, 2, 0, 0, 2, 2, 2, 0, 0]]
def x_fk (ci j : Nat) : Nat := (x_fkL.getD ci []).getD j 2
def x_fn (ci : Nat) : Nat := (x_fkL.getD ci []).length
def x_ord (j : Nat) : Int32 := [1, 1, 2, 6, 24, 120].getD j 0
/-- the launch's own: class ids of arrays, classes, addresses of the roles, the roles that are there, the static array, the Strings' addresses -/
abbrev xG : Type := (Nat → ClassId) × va_G × (Nat → Nat) × List Nat × Nat × (Nat → Nat) × (Nat → Nat)
abbrev xtc (g : xG) : Nat → ClassId := g.1
abbrev xDD (g : xG) : va_G := g.2.1
abbrev xad (g : xG) : Nat → Nat := g.2.2.1
abbrev xKs (g : xG) : List Nat := g.2.2.2.1
abbrev xtO (g : xG) : Nat := g.2.2.2.2.1
abbrev xsK (g : xG) : Nat → Nat := g.2.2.2.2.2.1
abbrev xsV (g : xG) : Nat → Nat := g.2.2.2.2.2.2
def x_fv (g : xG) (u : xM) (k f j : Nat) : Value := if f = 0 then .int (u.1 k j) else if f = 1 then .long (u.2 k j) else .ref (xad g (x_ref k j))
def x_fs (g : xG) (u : xM) (k ci : Nat) : List Value := (List.range (x_fn ci)).map (fun j => x_fv g u k (x_fk ci j) j)
def x_e (g : xG) (u : xM) (k : Nat) : va_E :=
  if (x_kind k).1 = 0 then .inl (xtc g 0, (x_kind k).2, .inl (u.1 k))
  else if (x_kind k).1 = 1 then .inl (xtc g 1, (x_kind k).2, .inr (.inl (u.2 k)))
  else if (x_kind k).1 = 2 then .inl (xtc g 2, (x_kind k).2, .inl (u.1 k))
  else if (x_kind k).1 < 10 then .inl (xtc g (x_kind k).1, (x_kind k).2, .inr (.inr (.inr (.inr (fun i => if i < (x_kind k).2 then some (xad g (x_ref k i)) else none)))))
  else .inr ((x_kind k).1 - 10, x_fs g u k ((x_kind k).1 - 10))
def xw (g : xG) (u : xM) : va_W := (xKs g).map (fun k => (xad g k, x_e g u k))
def x_tys (g : xG) : List (ClassId × FieldType) := [(xtc g 0, .int), (xtc g 1, .long), (xtc g 2, .byte), (xtc g 3, .object RX1), (xtc g 4, .object RX4), (xtc g 5, .object RX9), (xtc g 6, .array .int)]
def x_A (g : xG) : Nat → Prop := fun q => ∃ k, k ∈ xKs g ∧ q = xad g k
def x_D (g : xG) : Prop := va_nd (xKs g) = true ∧ ∀ a b, a ∈ xKs g → b ∈ xKs g → xad g a = xad g b → a = b
/-- a role is there, and of a kind -/
def x_ok (g : xG) (k : Nat) (kd : Nat × Nat) : Prop := k ∈ xKs g ∧ x_kind k = kd
def x_nS : Nat := 3
def x_lenS : List Nat := [(String.toList "room floor area bears water door from to sill wide leaks tide pump rota errand by sea ").length, (String.toList "hour open shut bail any when wet depth loop end stop ").length, (String.toList " room door tide pump rota errand floor area bears water from to sill wide leaks by sea hour open shut bail any when loop end stop wet depth ").length]
def x_bytS : List (List Int32) := [(String.toList "room floor area bears water door from to sill wide leaks tide pump rota errand by sea ").map (fun c => nI c.toNat), (String.toList "hour open shut bail any when wet depth loop end stop ").map (fun c => nI c.toNat), (String.toList " room door tide pump rota errand floor area bears water from to sill wide leaks by sea hour open shut bail any when loop end stop wet depth ").map (fun c => nI c.toNat)]
def x_Ns (U : State) : Prop := va_Nw (.methodLinkNest "DryDoors$Doors" 53 yX10_indexIn "DryDoors") U ∧ va_Nw (.methodLinkNest "DryDoors$Land" 102 yX10_indexIn "DryDoors") U ∧ va_Nw (.methodLinkNest "DryDoors$Rooms" 47 yX10_indexIn "DryDoors") U ∧ va_Nw (.methodLinkNest "DryDoors$Text" 90 yX10_indexIn "DryDoors") U
def x_St (g : xG) (U : State) : Prop := (x_Ns U ∧ va_Z "java/lang/String" "COMPACT_STRINGS" "Z" (.int 1) (x_A g) U U.heap ∧ va_Zq "jdk/internal/util/Preconditions" "SIOOBE_FORMATTER" "Ljava/util/function/BiFunction;" (x_A g) U U.heap) ∧ va_Z "DryDoors$Planner" "ORDERS" "[I" (.ref (xtO g)) (x_A g) U U.heap ∧ va_T .int (xtO g) 6 (fun j => .int (x_ord j)) (x_A g) U U.heap ∧ vk_S x_nS x_lenS x_bytS (xsK g) (xsV g) (x_A g) U U.heap ∧ vk_R "DryDoorsModel" 187 " room door tide pump rota errand floor area bears water from to sill wide leaks by sea hour open shut bail any when loop end stop wet depth " (xsK g 2) U
def x_W (g : xG) (H0 H : Heap) (locs : List Loc) (u : xM) : Prop := va_P (xDD g) vwCl (xw g u) H ∧ va_S (x_A g) H0 H locs
def x_B (g : xG) (u : xM) (U : State) : Prop := va_P (xDD g) vwCl (xw g u) U.heap ∧ va_K (xDD g) vwCl (x_tys g) U ∧ x_St g U
def x_C (p : Program) (s : State) (m : MethodId) (args : Array Value) (meth : Method) (c : Code) (g : xG) (own : String) (cc : ByteArray) (nL : Nat) (ret : Option FieldType) : Prop :=
  p.tables.exec = Jvm.exec ∧ c.code = cc ∧ c.maxLocals = nL ∧ s.vm.findClass own = some m.cls ∧ (∀ w ∈ wsL_law, w.before args s = true) ∧ meth.sig.returnType = ret ∧ meth.locks = false ∧ va_K (xDD g) vwCl (x_tys g) s ∧ x_D g ∧ x_St g s
theorem x_get {g : xG} {u : xM} {k : Nat} (h : k ∈ xKs g) : ∃ q : Nat, (xKs g)[q]? = some k ∧ (xw g u)[q]? = some (xad g k, x_e g u k) := by
  obtain ⟨q, hq⟩ := List.getElem?_of_mem h
  exact ⟨q, hq, by simp [xw, List.getElem?_map, hq]⟩
theorem x_at {g : xG} {u : xM} {q : Nat} {x : Nat × va_E} (h : (xw g u)[q]? = some x) : ∃ k, (xKs g)[q]? = some k ∧ x = (xad g k, x_e g u k) := by
  unfold xw at h
  rw [List.getElem?_map] at h
  cases hk : (xKs g)[q]? with
  | none => rw [hk] at h; cases h
  | some k => rw [hk] at h; exact ⟨k, rfl, (Option.some.inj h).symm⟩
theorem x_vaD {g : xG} (h : x_D g) (u : xM) : va_D (x_A g) (xw g u) := by
  refine ⟨fun i j p q hi hj hpq => ?_, fun k q hq => ?_⟩
  · obtain ⟨a, ha, rfl⟩ := x_at hi
    obtain ⟨b, hb, rfl⟩ := x_at hj
    have hab : a = b := h.2 a b (List.mem_of_getElem? ha) (List.mem_of_getElem? hb) hpq
    subst hab
    exact va_nd_inj _ h.1 i j a ha hb
  · obtain ⟨a, ha, rfl⟩ := x_at hq
    exact ⟨a, List.mem_of_getElem? ha, rfl⟩
theorem x_set {g : xG} {u u' : xM} {q k : Nat} {e : va_E} (hD : x_D g) (hq : (xKs g)[q]? = some k) (he : e = x_e g u' k) (ho : ∀ a, a ≠ k → x_e g u' a = x_e g u a) : (xw g u).set q (xad g k, e) = xw g u' := by
  subst he
  apply List.ext_getElem?
  intro i
  have hl : q < (xw g u).length := by
    unfold xw
    rw [List.length_map]
    exact (List.getElem?_eq_some_iff.mp hq).1
  by_cases hi : i = q
  · subst hi
    rw [List.getElem?_set_self hl]
    unfold xw
    rw [List.getElem?_map, hq]
    rfl
  · rw [List.getElem?_set_ne (Ne.symm hi)]
    unfold xw
    rw [List.getElem?_map, List.getElem?_map]
    cases ha : (xKs g)[i]? with
    | none => rfl
    | some a =>
      have hne : a ≠ k := fun z => hi (va_nd_inj _ hD.1 i q k (z ▸ ha) hq)
      show some (xad g a, x_e g u a) = some (xad g a, x_e g u' a)
      rw [ho a hne]
theorem x_e0 {g : xG} {u : xM} {k n : Nat} (h : x_kind k = (0, n)) : x_e g u k = .inl (xtc g 0, n, .inl (u.1 k)) := by simp [x_e, h]
theorem x_e1 {g : xG} {u : xM} {k n : Nat} (h : x_kind k = (1, n)) : x_e g u k = .inl (xtc g 1, n, .inr (.inl (u.2 k))) := by simp [x_e, h]
theorem x_e2 {g : xG} {u : xM} {k n : Nat} (h : x_kind k = (2, n)) : x_e g u k = .inl (xtc g 2, n, .inl (u.1 k)) := by simp [x_e, h]
theorem x_eq {g : xG} {u : xM} {k n t : Nat} (h : x_kind k = (t, n)) (h3 : 3 ≤ t) (h9 : t < 10) : x_e g u k = .inl (xtc g t, n, .inr (.inr (.inr (.inr (fun i => if i < n then some (xad g (x_ref k i)) else none))))) := by
  unfold x_e
  rw [h]
  dsimp only
  rw [if_neg (by omega), if_neg (by omega), if_neg (by omega), if_pos h9]
theorem x_eo {g : xG} {u : xM} {k n ci : Nat} (h : x_kind k = (10 + ci, n)) : x_e g u k = .inr (ci, x_fs g u k ci) := by
  unfold x_e
  rw [h]
  dsimp only
  rw [if_neg (by omega), if_neg (by omega), if_neg (by omega), if_neg (by omega), show 10 + ci - 10 = ci by omega]
theorem x_e_of {g : xG} {u u' : xM} {a : Nat} (h1 : u'.1 a = u.1 a) (h2 : u'.2 a = u.2 a) : x_e g u' a = x_e g u a := by
  unfold x_e x_fs x_fv
  rw [h1, h2]
theorem x_fs_get {g : xG} {u : xM} {k ci j : Nat} (hj : j < x_fn ci) : (x_fs g u k ci)[j]? = some (x_fv g u k (x_fk ci j) j) := by
  unfold x_fs
  rw [List.getElem?_map, List.getElem?_range hj]
  rfl
theorem x_fs_len {g : xG} {u : xM} {k ci : Nat} : (x_fs g u k ci).length = x_fn ci := by
  unfold x_fs
  rw [List.length_map, List.length_range]
theorem x_fs_set {g : xG} {u u' : xM} {k ci j : Nat} {v : Value} (hj : j < x_fn ci) (hv : v = x_fv g u' k (x_fk ci j) j) (ho : ∀ i, i ≠ j → u'.1 k i = u.1 k i ∧ u'.2 k i = u.2 k i) : (x_fs g u k ci).set j v = x_fs g u' k ci := by
  subst hv
  apply List.ext_getElem?
  intro i
  by_cases hi : i = j
  · subst hi
    rw [List.getElem?_set_self (by rw [x_fs_len]; exact hj), x_fs_get hj]
  · rw [List.getElem?_set_ne (Ne.symm hi)]
    by_cases hl : i < x_fn ci
    · rw [x_fs_get hl, x_fs_get hl]
      unfold x_fv
      rw [(ho i hi).1, (ho i hi).2]
    · rw [List.getElem?_eq_none (by rw [x_fs_len]; omega), List.getElem?_eq_none (by rw [x_fs_len]; omega)]
theorem x_St_moved {g : xG} {s U : State} {H : Heap} {locs : List Loc} (h : x_St g s) (hS : va_S (x_A g) s.heap H locs) (hU : U.heap = H) (hW : s.WarmedH U.vm) : x_St g U := by
  obtain ⟨⟨h0, h00, h01⟩, h1, h2, h3, h4⟩ := h
  have hk : ∀ a : Nat, a < s.heap.size → ¬ x_A g a → U.heap[a]? = s.heap[a]? := fun a h5 h6 => by rw [hU]; exact hS.2.1 a h5 h6
  exact ⟨⟨⟨h0.1.warmM hW, h0.2.1.warmM hW, h0.2.2.1.warmM hW, h0.2.2.2.warmM hW⟩, (h00.kept hk).moved hW.alike, (h01.kept hk).moved hW.alike⟩, (h1.kept hk).moved hW.alike, (h2.kept hk).moved hW.alike, (h3.kept hk).moved hW.alike, h4.warm hW⟩
theorem x_St_calling {g : xG} {U : State} {a : Array Value} {f : JFrame} {mk : MethodId} (h : x_St g U) : x_St g (U.calling f mk a) := by
  obtain ⟨⟨h0, h00, h01⟩, h1, h2, h3, h4⟩ := h
  exact ⟨⟨⟨va_Nw.same rfl (u := U) (U := U.calling f mk a) rfl h0.1, va_Nw.same rfl (u := U) (U := U.calling f mk a) rfl h0.2.1, va_Nw.same rfl (u := U) (U := U.calling f mk a) rfl h0.2.2.1, va_Nw.same rfl (u := U) (U := U.calling f mk a) rfl h0.2.2.2⟩, h00.moved (u := U) (U := U.calling f mk a) (Vm.Alike.refl U.vm), h01.moved (u := U) (U := U.calling f mk a) (Vm.Alike.refl U.vm)⟩, h1.moved (u := U) (U := U.calling f mk a) (Vm.Alike.refl U.vm), h2.moved (u := U) (U := U.calling f mk a) (Vm.Alike.refl U.vm), h3.moved (u := U) (U := U.calling f mk a) (Vm.Alike.refl U.vm), vk_R.same (u := U) (U := U.calling f mk a) rfl h4⟩
theorem x_blind {g : xG} {u : xM} {av : List Value} : FrameBlind (va_Pc av (x_B g u)) := fun a U f mk q => by
  obtain ⟨q1, q2, q3, q4⟩ := q
  exact ⟨q1, q2, va_K.moved (u := U) (U := U.calling f mk a) (Vm.Alike.refl U.vm) q3, x_St_calling q4⟩
/-- contracts' ends -/
def x_Qi (g : xG) (Q : Int32 → xM → Prop) : Array Value → State → Outcome → State → Prop := va_Qi Q (x_B g) (x_A g)
def x_Ql (g : xG) (Q : Int64 → xM → Prop) : Array Value → State → Outcome → State → Prop := va_Ql Q (x_B g) (x_A g)
def x_Qv (g : xG) (Q : xM → Prop) : Array Value → State → Outcome → State → Prop := va_Qv Q (x_B g) (x_A g)
def x_Qz (g : xG) (Q : Bool → xM → Prop) : Array Value → State → Outcome → State → Prop := va_Qi (fun r u => ∃ b, r = xb b ∧ Q b u) (x_B g) (x_A g)
def x_Qr (g : xG) (k : Nat) (Q : xM → Prop) : Array Value → State → Outcome → State → Prop := va_Qr Q (fun u a t => a = xad g k ∧ x_B g u t) (x_A g)
def x_Qq (g : xG) (L : List Nat) (Q : Option Nat → xM → Prop) : Array Value → State → Outcome → State → Prop := va_Qq (fun r u => ∃ r' : Option Nat, r = r'.map (xad g) ∧ (∀ a, r' = some a → a ∈ L) ∧ Q r' u) (x_B g) (x_A g)
section XK
variable {p : Program} {l : Launch} {e : Env} {R : Room} {s : State} {m : MethodId} {args : Array Value} {below : List Frame} {meth : Method} {c : Code} {H : Heap} {locs : List Loc} {cells slots : Nat} {Q : State → Prop}
variable {cc : ByteArray} {pc nL : Nat} {ls : Array Slot} {rest : List Value} {g : xG} {u : xM} {own : String} {ret : Option FieldType}
theorem x_iald (C : x_C p s m args meth c g own cc nL ret) (hw : x_W g s.heap H locs u) {k n : Nat} (hk : x_ok g k (0, n)) {i : Int32} (hin : vp_in i n) (hd : decode cc pc = .ok (.iaload, 1))
    (kk : W p l e R s m args below meth c H locs cells slots Q (F0 m (pc + 1) ls (.int (gi u k i.toNatClampNeg) :: rest))) : W p l e R s m args below meth c H locs cells slots Q (F0 m pc ls (.int i :: .ref (xad g k) :: rest)) := by
  obtain ⟨q, -, h2⟩ := x_get (u := u) hk.1
  rw [x_e0 hk.2] at h2
  exact va_iald (tys := x_tys g) C.1 C.2.1 C.2.2.2.2.2.2.2.1 hw.1 q 0 h2 rfl hin hd kk
theorem x_bald (C : x_C p s m args meth c g own cc nL ret) (hw : x_W g s.heap H locs u) {k n : Nat} (hk : x_ok g k (2, n)) {i : Int32} (hin : vp_in i n) (hd : decode cc pc = .ok (.baload, 1))
    (kk : W p l e R s m args below meth c H locs cells slots Q (F0 m (pc + 1) ls (.int (gi u k i.toNatClampNeg) :: rest))) : W p l e R s m args below meth c H locs cells slots Q (F0 m pc ls (.int i :: .ref (xad g k) :: rest)) := by
  obtain ⟨q, -, h2⟩ := x_get (u := u) hk.1
  rw [x_e2 hk.2] at h2
  exact va_bald (tys := x_tys g) C.1 C.2.1 C.2.2.2.2.2.2.2.1 hw.1 q 2 h2 rfl hin hd kk
theorem x_lald (C : x_C p s m args meth c g own cc nL ret) (hw : x_W g s.heap H locs u) {k n : Nat} (hk : x_ok g k (1, n)) {i : Int32} (hin : vp_in i n) (hd : decode cc pc = .ok (.laload, 1))
    (kk : W p l e R s m args below meth c H locs cells slots Q (F0 m (pc + 1) ls (.long (gl u k i.toNatClampNeg) :: rest))) : W p l e R s m args below meth c H locs cells slots Q (F0 m pc ls (.int i :: .ref (xad g k) :: rest)) := by
  obtain ⟨q, -, h2⟩ := x_get (u := u) hk.1
  rw [x_e1 hk.2] at h2
  exact va_lald (tys := x_tys g) C.1 C.2.1 C.2.2.2.2.2.2.2.1 hw.1 q 1 h2 rfl hin hd kk
/-- an array of references: its cells are roles -/
theorem x_aald (C : x_C p s m args meth c g own cc nL ret) (hw : x_W g s.heap H locs u) {k n t : Nat} (hk : x_ok g k (t, n)) (h3 : 3 ≤ t) (h9 : t < 7) {i : Int32} (hin : vp_in i n) {r : Nat} (hr : x_ref k i.toNatClampNeg = r) (hd : decode cc pc = .ok (.aaload, 1))
    (kk : W p l e R s m args below meth c H locs cells slots Q (F0 m (pc + 1) ls (.ref (xad g r) :: rest))) : W p l e R s m args below meth c H locs cells slots Q (F0 m pc ls (.int i :: .ref (xad g k) :: rest)) := by
  obtain ⟨q, -, h2⟩ := x_get (u := u) hk.1
  rw [x_eq hk.2 h3 (by omega)] at h2
  have hlt : i.toNatClampNeg < n := by
    have h := hin
    unfold vp_in at h
    omega
  subst hr
  have hc := hw.1 q _ h2
  obtain ⟨ty, hty, hrf⟩ : ∃ ty : FieldType, (x_tys g)[t]? = some (xtc g t, ty) ∧ ty.isReference = true := by
    rcases (show t = 3 ∨ t = 4 ∨ t = 5 ∨ t = 6 by omega) with rfl | rfl | rfl | rfl <;> exact ⟨_, rfl, rfl⟩
  exact W.aald (v := .ref (xad g (x_ref k i.toNatClampNeg))) (ty := ty) C.1 C.2.1 hc ((C.2.2.2.2.2.2.2.1.2 t _ hty).1 n _) hrf (fun z => by cases z) (by show ¬ (i < 0 ∨ (arrV _ _ _).slots.size ≤ _); rw [arrV_size]; exact hin) (by show (arrV _ _ _).slots[_]? = _; rw [arrV_read _ _ hlt]; simp [hlt, va_rf]) rfl rfl hd kk
theorem x_alen (C : x_C p s m args meth c g own cc nL ret) (hw : x_W g s.heap H locs u) {k n t : Nat} (hk : x_ok g k (t, n)) (h9 : t < 7) (hd : decode cc pc = .ok (.arraylength, 1))
    (kk : W p l e R s m args below meth c H locs cells slots Q (F0 m (pc + 1) ls (.int (nI n) :: rest))) : W p l e R s m args below meth c H locs cells slots Q (F0 m pc ls (.ref (xad g k) :: rest)) := by
  obtain ⟨q, -, h2⟩ := x_get (u := u) hk.1
  obtain ⟨x, hx, hx1⟩ : ∃ x : vp_A, x_e g u k = .inl (xtc g t, x) ∧ x.1 = n := by
    rcases (show t = 0 ∨ t = 1 ∨ t = 2 ∨ (3 ≤ t ∧ t < 10) by omega) with rfl | rfl | rfl | ⟨h3, h10⟩
    · exact ⟨_, x_e0 hk.2, rfl⟩
    · exact ⟨_, x_e1 hk.2, rfl⟩
    · exact ⟨_, x_e2 hk.2, rfl⟩
    · exact ⟨_, x_eq hk.2 h3 h10, rfl⟩
  rw [hx] at h2
  obtain ⟨ty, hty⟩ : ∃ ty : FieldType, (x_tys g)[t]? = some (xtc g t, ty) := by
    rcases (show t = 0 ∨ t = 1 ∨ t = 2 ∨ t = 3 ∨ t = 4 ∨ t = 5 ∨ t = 6 by omega) with rfl | rfl | rfl | rfl | rfl | rfl | rfl <;> exact ⟨_, rfl⟩
  exact va_alen (tys := x_tys g) C.1 C.2.1 C.2.2.2.2.2.2.2.1 hw.1 q t h2 hty (by rw [hx1]; rfl) hd kk
theorem x_iast (C : x_C p s m args meth c g own cc nL ret) (hw : x_W g s.heap H locs u) {k n : Nat} (hk : x_ok g k (0, n)) {i x : Int32} (hin : vp_in i n) (hd : decode cc pc = .ok (.iastore, 1)) {u1 : xM} (hu : u1 = si u k i.toNatClampNeg x)
    (kk : ∀ (H1 : Heap) (locs1 : List Loc), x_W g s.heap H1 locs1 u1 → W p l e R s m args below meth c H1 locs1 cells slots Q (F0 m (pc + 1) ls rest)) : W p l e R s m args below meth c H locs cells slots Q (F0 m pc ls (.int x :: .int i :: .ref (xad g k) :: rest)) := by
  obtain ⟨q, h1, h2⟩ := x_get (u := u) hk.1
  rw [x_e0 hk.2] at h2
  refine va_iast (tys := x_tys g) C.1 C.2.1 C.2.2.2.2.2.2.2.1 hw.1 (x_vaD C.2.2.2.2.2.2.2.2.1 u) hw.2 q 0 h2 rfl hin hd (fun H1 locs1 hP _ hS => kk H1 locs1 ⟨?_, hS⟩)
  rw [x_set (u' := u1) C.2.2.2.2.2.2.2.2.1 h1 (by rw [x_e0 hk.2, hu]; simp [si]) (fun a ha => x_e_of (by rw [hu]; simp [si, ha]) (by rw [hu]; rfl))] at hP
  exact hP
theorem x_bast (C : x_C p s m args meth c g own cc nL ret) (hw : x_W g s.heap H locs u) {k n : Nat} (hk : x_ok g k (2, n)) {i x : Int32} (hin : vp_in i n) (hd : decode cc pc = .ok (.bastore, 1)) {u1 : xM} (hu : u1 = si u k i.toNatClampNeg x.toInt8.toInt32)
    (kk : ∀ (H1 : Heap) (locs1 : List Loc), x_W g s.heap H1 locs1 u1 → W p l e R s m args below meth c H1 locs1 cells slots Q (F0 m (pc + 1) ls rest)) : W p l e R s m args below meth c H locs cells slots Q (F0 m pc ls (.int x :: .int i :: .ref (xad g k) :: rest)) := by
  obtain ⟨q, h1, h2⟩ := x_get (u := u) hk.1
  rw [x_e2 hk.2] at h2
  refine va_bast (tys := x_tys g) C.1 C.2.1 C.2.2.2.2.2.2.2.1 hw.1 (x_vaD C.2.2.2.2.2.2.2.2.1 u) hw.2 q 2 h2 rfl hin hd (fun H1 locs1 hP _ hS => kk H1 locs1 ⟨?_, hS⟩)
  rw [x_set (u' := u1) C.2.2.2.2.2.2.2.2.1 h1 (by rw [x_e2 hk.2, hu]; simp [si, vp_nar_byte]) (fun a ha => x_e_of (by rw [hu]; simp [si, ha]) (by rw [hu]; rfl))] at hP
  exact hP
theorem x_last (C : x_C p s m args meth c g own cc nL ret) (hw : x_W g s.heap H locs u) {k n : Nat} (hk : x_ok g k (1, n)) {i : Int32} {x : Int64} (hin : vp_in i n) (hd : decode cc pc = .ok (.lastore, 1)) {u1 : xM} (hu : u1 = sl u k i.toNatClampNeg x)
    (kk : ∀ (H1 : Heap) (locs1 : List Loc), x_W g s.heap H1 locs1 u1 → W p l e R s m args below meth c H1 locs1 cells slots Q (F0 m (pc + 1) ls rest)) : W p l e R s m args below meth c H locs cells slots Q (F0 m pc ls (.long x :: .int i :: .ref (xad g k) :: rest)) := by
  obtain ⟨q, h1, h2⟩ := x_get (u := u) hk.1
  rw [x_e1 hk.2] at h2
  refine va_last (tys := x_tys g) C.1 C.2.1 C.2.2.2.2.2.2.2.1 hw.1 (x_vaD C.2.2.2.2.2.2.2.2.1 u) hw.2 q 1 h2 rfl hin hd (fun H1 locs1 hP _ hS => kk H1 locs1 ⟨?_, hS⟩)
  rw [x_set (u' := u1) C.2.2.2.2.2.2.2.2.1 h1 (by rw [x_e1 hk.2, hu]; simp [sl]) (fun a ha => x_e_of (by rw [hu]; rfl) (by rw [hu]; simp [sl, ha]))] at hP
  exact hP
/-- fields: of an int, of a long, of a cell -/
theorem x_get_of (C : x_C p s m args meth c g own cc nL ret) (hw : x_W g s.heap H locs u) {k ci N j : Nat} {Cn : String} {T : u_T} (hk : x_ok g k (10 + ci, N)) (hc : vwCl[ci]? = some (Cn, T, N)) (hin : ∀ w ∈ u_ws Cn T N, w ∈ wsL_law) (hj : j < N) (hN : x_fn ci = N) {index : Nat}
    (hl : Cond.fieldLink own index (T j).1 (T j).2.1 (T j).2.2.1 ∈ wsL_law) (hd : decode cc pc = .ok (.getfield index, 3))
    (kk : W p l e R s m args below meth c H locs cells slots Q (F0 m (pc + 3) ls (x_fv g u k (x_fk ci j) j :: rest))) : W p l e R s m args below meth c H locs cells slots Q (F0 m pc ls (.ref (xad g k) :: rest)) := by
  obtain ⟨q, -, h2⟩ := x_get (u := u) hk.1
  rw [x_eo hk.2] at h2
  exact va_get (tys := x_tys g) (C := Cn) (T := T) (N := N) (ref := (T j).1) C.1 C.2.1 (fun w h => C.2.2.2.2.1 w h) hin C.2.2.2.1 C.2.2.2.2.2.2.2.1 hw.1 q h2 hc j hj (C.2.2.2.2.1 _ hl) (fun _ h9 => h9) (x_fs_get (by omega)) hd kk
theorem x_put_of (C : x_C p s m args meth c g own cc nL ret) (hw : x_W g s.heap H locs u) {k ci N j : Nat} {Cn : String} {T : u_T} {ty0 : Nat → FieldType} (hk : x_ok g k (10 + ci, N)) (hc : vwCl[ci]? = some (Cn, T, N)) (hin : ∀ w ∈ u_ws Cn T N, w ∈ wsL_law) (hty : ∀ k, k < N → parseFieldDescriptor (T k).2.2.1 = some (ty0 k)) (hnm : ∀ a, a < N → ∀ b, b < N → a ≠ b → (T a).2.1 ≠ (T b).2.1) (hj : j < N) (hN : x_fn ci = N) {index : Nat}
    (hl : Cond.fieldLink own index (T j).1 (T j).2.1 (T j).2.2.1 ∈ wsL_law) (hfin : (T j).2.2.2 = false) {ty : FieldType} {v : Value} (hd0 : parseFieldDescriptor (T j).2.2.1 = some ty) (hn : narrow ty v = v) (hf : fits ty v = true) (hd : decode cc pc = .ok (.putfield index, 3)) {u1 : xM} (hv : v = x_fv g u1 k (x_fk ci j) j) (ho : ∀ i, i ≠ j → u1.1 k i = u.1 k i ∧ u1.2 k i = u.2 k i) (ho2 : ∀ a, a ≠ k → u1.1 a = u.1 a ∧ u1.2 a = u.2 a)
    (kk : ∀ (H1 : Heap) (locs1 : List Loc), x_W g s.heap H1 locs1 u1 → W p l e R s m args below meth c H1 locs1 cells slots Q (F0 m (pc + 3) ls rest)) : W p l e R s m args below meth c H locs cells slots Q (F0 m pc ls (v :: .ref (xad g k) :: rest)) := by
  obtain ⟨q, h1, h2⟩ := x_get (u := u) hk.1
  rw [x_eo hk.2] at h2
  refine va_put (tys := x_tys g) (C := Cn) (T := T) (N := N) (ref := (T j).1) (v := v) (ty := ty) C.1 C.2.1 (fun w h => C.2.2.2.2.1 w h) hin ty0 hty hnm C.2.2.2.1 C.2.2.2.2.2.2.2.1 hw.1 (x_vaD C.2.2.2.2.2.2.2.2.1 u) hw.2 q h2 hc j hj (C.2.2.2.2.1 _ hl) (fun _ h9 => h9) hfin hd0 hn hf (by rw [x_fs_len]; omega) hd (fun H1 locs1 hP _ hS => kk H1 locs1 ⟨?_, hS⟩)
  rw [x_set (u' := u1) C.2.2.2.2.2.2.2.2.1 h1 (by rw [x_eo hk.2, x_fs_set (u' := u1) (by omega) hv ho]) (fun a ha => x_e_of (ho2 a ha).1 (ho2 a ha).2)] at hP
  exact hP
theorem x_geti (C : x_C p s m args meth c g own cc nL ret) (hw : x_W g s.heap H locs u) {k ci N : Nat} (j : Nat) {Cn : String} {T : u_T} (hk : x_ok g k (10 + ci, N)) (hc : vwCl[ci]? = some (Cn, T, N)) (hin : ∀ w ∈ u_ws Cn T N, w ∈ wsL_law) (hj : j < N) (hN : x_fn ci = N) (hf : x_fk ci j = 0) {index : Nat}
    (hl : Cond.fieldLink own index (T j).1 (T j).2.1 (T j).2.2.1 ∈ wsL_law) (hd : decode cc pc = .ok (.getfield index, 3))
    (kk : W p l e R s m args below meth c H locs cells slots Q (F0 m (pc + 3) ls (.int (gi u k j) :: rest))) : W p l e R s m args below meth c H locs cells slots Q (F0 m pc ls (.ref (xad g k) :: rest)) :=
  x_get_of (j := j) C hw hk hc hin hj hN hl hd (by rw [hf]; exact kk)
theorem x_getl (C : x_C p s m args meth c g own cc nL ret) (hw : x_W g s.heap H locs u) {k ci N : Nat} (j : Nat) {Cn : String} {T : u_T} (hk : x_ok g k (10 + ci, N)) (hc : vwCl[ci]? = some (Cn, T, N)) (hin : ∀ w ∈ u_ws Cn T N, w ∈ wsL_law) (hj : j < N) (hN : x_fn ci = N) (hf : x_fk ci j = 1) {index : Nat}
    (hl : Cond.fieldLink own index (T j).1 (T j).2.1 (T j).2.2.1 ∈ wsL_law) (hd : decode cc pc = .ok (.getfield index, 3))
    (kk : W p l e R s m args below meth c H locs cells slots Q (F0 m (pc + 3) ls (.long (gl u k j) :: rest))) : W p l e R s m args below meth c H locs cells slots Q (F0 m pc ls (.ref (xad g k) :: rest)) :=
  x_get_of (j := j) C hw hk hc hin hj hN hl hd (by rw [hf]; exact kk)
theorem x_getr (C : x_C p s m args meth c g own cc nL ret) (hw : x_W g s.heap H locs u) {k ci N : Nat} (j : Nat) {Cn : String} {T : u_T} (hk : x_ok g k (10 + ci, N)) (hc : vwCl[ci]? = some (Cn, T, N)) (hin : ∀ w ∈ u_ws Cn T N, w ∈ wsL_law) (hj : j < N) (hN : x_fn ci = N) (hf : x_fk ci j = 2) {r : Nat} (hr : x_ref k j = r) {index : Nat}
    (hl : Cond.fieldLink own index (T j).1 (T j).2.1 (T j).2.2.1 ∈ wsL_law) (hd : decode cc pc = .ok (.getfield index, 3))
    (kk : W p l e R s m args below meth c H locs cells slots Q (F0 m (pc + 3) ls (.ref (xad g r) :: rest))) : W p l e R s m args below meth c H locs cells slots Q (F0 m pc ls (.ref (xad g k) :: rest)) :=
  x_get_of (j := j) C hw hk hc hin hj hN hl hd (by rw [hf]; subst hr; exact kk)
theorem x_puti (C : x_C p s m args meth c g own cc nL ret) (hw : x_W g s.heap H locs u) {k ci N : Nat} (j : Nat) {Cn : String} {T : u_T} {ty0 : Nat → FieldType} (hk : x_ok g k (10 + ci, N)) (hc : vwCl[ci]? = some (Cn, T, N)) (hin : ∀ w ∈ u_ws Cn T N, w ∈ wsL_law) (hty : ∀ k, k < N → parseFieldDescriptor (T k).2.2.1 = some (ty0 k)) (hnm : ∀ a, a < N → ∀ b, b < N → a ≠ b → (T a).2.1 ≠ (T b).2.1) (hj : j < N) (hN : x_fn ci = N) (hf : x_fk ci j = 0) {index : Nat}
    (hl : Cond.fieldLink own index (T j).1 (T j).2.1 (T j).2.2.1 ∈ wsL_law) (hfin : (T j).2.2.2 = false) {ty : FieldType} {x : Int32} (hd0 : parseFieldDescriptor (T j).2.2.1 = some ty) (hn : narrow ty (.int x) = .int x) (hft : fits ty (.int x) = true) (hd : decode cc pc = .ok (.putfield index, 3)) {u1 : xM} (hu : u1 = si u k j x)
    (kk : ∀ (H1 : Heap) (locs1 : List Loc), x_W g s.heap H1 locs1 u1 → W p l e R s m args below meth c H1 locs1 cells slots Q (F0 m (pc + 3) ls rest)) : W p l e R s m args below meth c H locs cells slots Q (F0 m pc ls (.int x :: .ref (xad g k) :: rest)) :=
  x_put_of (j := j) C hw hk hc hin hty hnm hj hN hl hfin hd0 hn hft hd (by rw [hf, hu]; simp [x_fv, si, upd]) (fun i hi => by rw [hu]; simp [si, upd, hi]) (fun a ha => by rw [hu]; simp [si, ha]) kk
theorem x_putl (C : x_C p s m args meth c g own cc nL ret) (hw : x_W g s.heap H locs u) {k ci N : Nat} (j : Nat) {Cn : String} {T : u_T} {ty0 : Nat → FieldType} (hk : x_ok g k (10 + ci, N)) (hc : vwCl[ci]? = some (Cn, T, N)) (hin : ∀ w ∈ u_ws Cn T N, w ∈ wsL_law) (hty : ∀ k, k < N → parseFieldDescriptor (T k).2.2.1 = some (ty0 k)) (hnm : ∀ a, a < N → ∀ b, b < N → a ≠ b → (T a).2.1 ≠ (T b).2.1) (hj : j < N) (hN : x_fn ci = N) (hf : x_fk ci j = 1) {index : Nat}
    (hl : Cond.fieldLink own index (T j).1 (T j).2.1 (T j).2.2.1 ∈ wsL_law) (hfin : (T j).2.2.2 = false) {x : Int64} (hd0 : parseFieldDescriptor (T j).2.2.1 = some .long) (hd : decode cc pc = .ok (.putfield index, 3)) {u1 : xM} (hu : u1 = sl u k j x)
    (kk : ∀ (H1 : Heap) (locs1 : List Loc), x_W g s.heap H1 locs1 u1 → W p l e R s m args below meth c H1 locs1 cells slots Q (F0 m (pc + 3) ls rest)) : W p l e R s m args below meth c H locs cells slots Q (F0 m pc ls (.long x :: .ref (xad g k) :: rest)) :=
  x_put_of (j := j) C hw hk hc hin hty hnm hj hN hl hfin hd0 rfl rfl hd (by rw [hf, hu]; simp [x_fv, sl, vp_updL]) (fun i hi => by rw [hu]; simp [sl, vp_updL, hi]) (fun a ha => by rw [hu]; simp [sl, ha]) kk
theorem x_nz (b : Bool) : narrow .boolean (.int (xb b)) = .int (xb b) ∧ fits .boolean (.int (xb b)) = true := by cases b <;> exact ⟨rfl, rfl⟩
end XK
