/-! ===== constructors ===== -/
section CTORS
variable {p : Program} {l : Launch} {e : Env} {s : State} {m : MethodId} {args : Array Value} {below : List Frame} {meth : Method} {c : Code} {g : xG} {A : Nat → Prop} {ad : Nat → Nat}
def KR (o : Nat) : List Nat := (o + 1) :: ([o + 2] ++ [o + 3] ++ [o + 4] ++ [o + 5] ++ [o + 6] ++ [o + 7] ++ [o + 8])
theorem fs_X7_init {o : Nat} (ho : o ∈ xpLL) {g : xG} {ad : Nat → Nat} : x_fs (gK g ad []) (uI) (o + 1) 7 = [.int 0, .int 0, .ref (ad (o + 2)), .ref (ad (o + 3)), .ref (ad (o + 4)), .ref (ad (o + 5)), .ref (ad (o + 6)), .ref (ad (o + 7)), .ref (ad (o + 8))] := by
  simp only [xpLL, List.mem_cons, List.not_mem_nil, or_false] at ho
  rcases ho with rfl | rfl | rfl | rfl | rfl | rfl | rfl <;> rfl
set_option maxHeartbeats 4000000 in
set_option maxRecDepth 100000 in
theorem s_X7_init {o : Nat} (ho : o ∈ xpLL) {h0 : Nat} (C : y_C p s m args meth c g A RX7 cX7_init 1) (hret : meth.sig.returnType = none) (hin : meth.name = "<init>") (hw : y_W g A [(h0, .inr (7, [.int 0, .int 0, .null, .null, .null, .null, .null, .null, .null]))] ad [] (uI) s.heap s.heap []) {ls : Array Slot} (hl : lv_has ls 1 [(0, .ref h0)]) : W p l e ({ frames := 1, cells := 7, slots := 49, locals := 40 } : Room) s m args below meth c s.heap [] 0 0 (MQ below (va_Qv (fun ad => ad (o + 1) = h0) (y_post g A (KR o)) A) args s 7 49 A) (F0 m 0 ls []) := by
  have hx := C.1.1
  have hb := C.1.2.1
  have hown := C.1.2.2.2.1
  have hts := C.1.2.2.2.2.1
  refine lv_aload_n hx hb dX7_init_0 rfl (lv_at hl 0 rfl) ?_
  refine W.objInit hx hb hown (hts _ xw_78) (hts _ xw_11) (hts _ xw_12) rfl (hl.1.trans C.1.2.2.1.symm) rfl dX7_init_1 (Nat.le_of_ble_eq_true rfl) (Nat.le_of_ble_eq_true rfl) ?_
  refine W.eq (g2 := F0 m 4 ls []) rfl ?_
  refine lv_aload_n hx hb dX7_init_4 rfl (lv_at hl 0 rfl) ?_
  refine lv_bipush (v := 7) hx hb dX7_init_5 (by decide) ?_
  refine y_al (Ks' := [o + 2]) (c' := 1) (n' := 7) C hw (o + 2) ((by decide +kernel : ∀ o ∈ xpLL, x_kind (o + 2) = (1, 7)) o ho) (uI_2 ((by decide +kernel : ∀ o ∈ xpLL, spL.contains (o + 2) = false) o ho)) ((by decide +kernel : ∀ o ∈ xpLL, newK (o + 2) ([]) = true) o ho) rfl (by decide +kernel) (by decide) ⟨Nat.le_of_ble_eq_true rfl, Nat.le_of_ble_eq_true rfl⟩ rfl rfl dX7_init_7 (fun q85 H hw => ?_)
  refine y_putF (j := 2) (v := .ref q85) C hw hin rfl inlX7 tyX7_ok nmX7 (by decide) xw_79 rfl rfl rfl rfl (by simp) dX7_init_9 (fun H locs hw => ?_)
  have hw : y_W g A [(h0, .inr (7, [.int 0, .int 0, .ref q85, .null, .null, .null, .null, .null, .null]))] _ ([o + 2]) (uI) s.heap H locs := hw
  refine lv_aload_n hx hb dX7_init_12 rfl (lv_at hl 0 rfl) ?_
  refine lv_bipush (v := 7) hx hb dX7_init_13 (by decide) ?_
  refine y_ai (Ks' := [o + 2] ++ [o + 3]) (c' := 2) (n' := 14) C hw (o + 3) ((by decide +kernel : ∀ o ∈ xpLL, x_kind (o + 3) = (0, 7)) o ho) (uI_1 ((by decide +kernel : ∀ o ∈ xpLL, spI.contains (o + 3) = false) o ho)) ((by decide +kernel : ∀ o ∈ xpLL, newK (o + 3) ([o + 2]) = true) o ho) rfl (by decide +kernel) (by decide) ⟨Nat.le_of_ble_eq_true rfl, Nat.le_of_ble_eq_true rfl⟩ rfl rfl dX7_init_15 (fun q86 H hw => ?_)
  refine y_putF (j := 3) (v := .ref q86) C hw hin rfl inlX7 tyX7_ok nmX7 (by decide) xw_80 rfl rfl rfl rfl (by simp) dX7_init_17 (fun H locs hw => ?_)
  have hw : y_W g A [(h0, .inr (7, [.int 0, .int 0, .ref q85, .ref q86, .null, .null, .null, .null, .null]))] _ ([o + 2] ++ [o + 3]) (uI) s.heap H locs := hw
  refine lv_aload_n hx hb dX7_init_20 rfl (lv_at hl 0 rfl) ?_
  refine lv_bipush (v := 7) hx hb dX7_init_21 (by decide) ?_
  refine y_ai (Ks' := [o + 2] ++ [o + 3] ++ [o + 4]) (c' := 3) (n' := 21) C hw (o + 4) ((by decide +kernel : ∀ o ∈ xpLL, x_kind (o + 4) = (0, 7)) o ho) (uI_1 ((by decide +kernel : ∀ o ∈ xpLL, spI.contains (o + 4) = false) o ho)) ((by decide +kernel : ∀ o ∈ xpLL, newK (o + 4) ([o + 2] ++ [o + 3]) = true) o ho) rfl (by decide +kernel) (by decide) ⟨Nat.le_of_ble_eq_true rfl, Nat.le_of_ble_eq_true rfl⟩ rfl rfl dX7_init_23 (fun q87 H hw => ?_)
  refine y_putF (j := 4) (v := .ref q87) C hw hin rfl inlX7 tyX7_ok nmX7 (by decide) xw_81 rfl rfl rfl rfl (by simp) dX7_init_25 (fun H locs hw => ?_)
  have hw : y_W g A [(h0, .inr (7, [.int 0, .int 0, .ref q85, .ref q86, .ref q87, .null, .null, .null, .null]))] _ ([o + 2] ++ [o + 3] ++ [o + 4]) (uI) s.heap H locs := hw
  refine lv_aload_n hx hb dX7_init_28 rfl (lv_at hl 0 rfl) ?_
  refine lv_bipush (v := 7) hx hb dX7_init_29 (by decide) ?_
  refine y_ai (Ks' := [o + 2] ++ [o + 3] ++ [o + 4] ++ [o + 5]) (c' := 4) (n' := 28) C hw (o + 5) ((by decide +kernel : ∀ o ∈ xpLL, x_kind (o + 5) = (0, 7)) o ho) (uI_1 ((by decide +kernel : ∀ o ∈ xpLL, spI.contains (o + 5) = false) o ho)) ((by decide +kernel : ∀ o ∈ xpLL, newK (o + 5) ([o + 2] ++ [o + 3] ++ [o + 4]) = true) o ho) rfl (by decide +kernel) (by decide) ⟨Nat.le_of_ble_eq_true rfl, Nat.le_of_ble_eq_true rfl⟩ rfl rfl dX7_init_31 (fun q88 H hw => ?_)
  refine y_putF (j := 5) (v := .ref q88) C hw hin rfl inlX7 tyX7_ok nmX7 (by decide) xw_82 rfl rfl rfl rfl (by simp) dX7_init_33 (fun H locs hw => ?_)
  have hw : y_W g A [(h0, .inr (7, [.int 0, .int 0, .ref q85, .ref q86, .ref q87, .ref q88, .null, .null, .null]))] _ ([o + 2] ++ [o + 3] ++ [o + 4] ++ [o + 5]) (uI) s.heap H locs := hw
  refine lv_aload_n hx hb dX7_init_36 rfl (lv_at hl 0 rfl) ?_
  refine lv_bipush (v := 7) hx hb dX7_init_37 (by decide) ?_
  refine y_ai (Ks' := [o + 2] ++ [o + 3] ++ [o + 4] ++ [o + 5] ++ [o + 6]) (c' := 5) (n' := 35) C hw (o + 6) ((by decide +kernel : ∀ o ∈ xpLL, x_kind (o + 6) = (0, 7)) o ho) (uI_1 ((by decide +kernel : ∀ o ∈ xpLL, spI.contains (o + 6) = false) o ho)) ((by decide +kernel : ∀ o ∈ xpLL, newK (o + 6) ([o + 2] ++ [o + 3] ++ [o + 4] ++ [o + 5]) = true) o ho) rfl (by decide +kernel) (by decide) ⟨Nat.le_of_ble_eq_true rfl, Nat.le_of_ble_eq_true rfl⟩ rfl rfl dX7_init_39 (fun q89 H hw => ?_)
  refine y_putF (j := 6) (v := .ref q89) C hw hin rfl inlX7 tyX7_ok nmX7 (by decide) xw_83 rfl rfl rfl rfl (by simp) dX7_init_41 (fun H locs hw => ?_)
  have hw : y_W g A [(h0, .inr (7, [.int 0, .int 0, .ref q85, .ref q86, .ref q87, .ref q88, .ref q89, .null, .null]))] _ ([o + 2] ++ [o + 3] ++ [o + 4] ++ [o + 5] ++ [o + 6]) (uI) s.heap H locs := hw
  refine lv_aload_n hx hb dX7_init_44 rfl (lv_at hl 0 rfl) ?_
  refine lv_bipush (v := 7) hx hb dX7_init_45 (by decide) ?_
  refine y_ai (Ks' := [o + 2] ++ [o + 3] ++ [o + 4] ++ [o + 5] ++ [o + 6] ++ [o + 7]) (c' := 6) (n' := 42) C hw (o + 7) ((by decide +kernel : ∀ o ∈ xpLL, x_kind (o + 7) = (0, 7)) o ho) (uI_1 ((by decide +kernel : ∀ o ∈ xpLL, spI.contains (o + 7) = false) o ho)) ((by decide +kernel : ∀ o ∈ xpLL, newK (o + 7) ([o + 2] ++ [o + 3] ++ [o + 4] ++ [o + 5] ++ [o + 6]) = true) o ho) rfl (by decide +kernel) (by decide) ⟨Nat.le_of_ble_eq_true rfl, Nat.le_of_ble_eq_true rfl⟩ rfl rfl dX7_init_47 (fun q90 H hw => ?_)
  refine y_putF (j := 7) (v := .ref q90) C hw hin rfl inlX7 tyX7_ok nmX7 (by decide) xw_84 rfl rfl rfl rfl (by simp) dX7_init_49 (fun H locs hw => ?_)
  have hw : y_W g A [(h0, .inr (7, [.int 0, .int 0, .ref q85, .ref q86, .ref q87, .ref q88, .ref q89, .ref q90, .null]))] _ ([o + 2] ++ [o + 3] ++ [o + 4] ++ [o + 5] ++ [o + 6] ++ [o + 7]) (uI) s.heap H locs := hw
  refine lv_aload_n hx hb dX7_init_52 rfl (lv_at hl 0 rfl) ?_
  refine lv_bipush (v := 7) hx hb dX7_init_53 (by decide) ?_
  refine y_ai (Ks' := [o + 2] ++ [o + 3] ++ [o + 4] ++ [o + 5] ++ [o + 6] ++ [o + 7] ++ [o + 8]) (c' := 7) (n' := 49) C hw (o + 8) ((by decide +kernel : ∀ o ∈ xpLL, x_kind (o + 8) = (0, 7)) o ho) (uI_1 ((by decide +kernel : ∀ o ∈ xpLL, spI.contains (o + 8) = false) o ho)) ((by decide +kernel : ∀ o ∈ xpLL, newK (o + 8) ([o + 2] ++ [o + 3] ++ [o + 4] ++ [o + 5] ++ [o + 6] ++ [o + 7]) = true) o ho) rfl (by decide +kernel) (by decide) ⟨Nat.le_of_ble_eq_true rfl, Nat.le_of_ble_eq_true rfl⟩ rfl rfl dX7_init_55 (fun q91 H hw => ?_)
  refine y_putF (j := 8) (v := .ref q91) C hw hin rfl inlX7 tyX7_ok nmX7 (by decide) xw_85 rfl rfl rfl rfl (by simp) dX7_init_57 (fun H locs hw => ?_)
  have hw : y_W g A [(h0, .inr (7, [.int 0, .int 0, .ref q85, .ref q86, .ref q87, .ref q88, .ref q89, .ref q90, .ref q91]))] _ ([o + 2] ++ [o + 3] ++ [o + 4] ++ [o + 5] ++ [o + 6] ++ [o + 7] ++ [o + 8]) (uI) s.heap H locs := hw
  obtain ⟨adf, eh0, hw⟩ := y_seal2 (N := 9) (o := o + 1) hw ((by decide +kernel : ∀ o ∈ xpLL, x_kind (o + 1) = (10 + 7, 9)) o ho) ((by decide +kernel : ∀ o ∈ xpLL, newK (o + 1) ([o + 2] ++ [o + 3] ++ [o + 4] ++ [o + 5] ++ [o + 6] ++ [o + 7] ++ [o + 8]) = true) o ho) (by rw [fs_X7_init ho]; simp [ua, um])
  have hw : y_W g A [] adf (KR o) (uI) s.heap H locs := hw
  exact y_vret C hret hw eh0 dX7_init_60
set_option maxHeartbeats 4000000 in
set_option maxRecDepth 100000 in
theorem c_X7_init (l : Launch) (g : xG) {o : Nat} (ho : o ∈ xpLL) : CTRy l g yX7_init cX7_init 1 7 [.int 0, .int 0, .null, .null, .null, .null, .null, .null, .null] (o + 1) (KR o) 7 49 1 40 [] := by
  intro h0 sz
  refine Met.ofW (cc := cX7_init) (maxL := 1) (ret := none) (by decide) rfl ?_
  intro p e s m args below meth c s₁ B hml hv
  obtain ⟨rfl, hpre⟩ := hv
  obtain ⟨C, hw, hret, hin, rfl⟩ := y_start (u := uI) (ad := fun _ => 0) B hml rfl hpre
  have hl := lv_entry [.ref h0] (n := 1) (Nat.le_of_ble_eq_true rfl)
  rw [lg_entry_eq]
  exact s_X7_init ho C hret hin hw hl
def KD (o : Nat) : List Nat := (o + 9) :: ([o + 10] ++ [o + 11] ++ [o + 12] ++ [o + 13] ++ [o + 14] ++ [o + 15] ++ [o + 16])
theorem fs_X0_init {o : Nat} (ho : o ∈ xpLL) {g : xG} {ad : Nat → Nat} : x_fs (gK g ad []) (uI) (o + 9) 0 = [.int 0, .int 0, .int 0, .ref (ad (o + 10)), .ref (ad (o + 11)), .ref (ad (o + 12)), .ref (ad (o + 13)), .ref (ad (o + 14)), .ref (ad (o + 15)), .ref (ad (o + 16))] := by
  simp only [xpLL, List.mem_cons, List.not_mem_nil, or_false] at ho
  rcases ho with rfl | rfl | rfl | rfl | rfl | rfl | rfl <;> rfl
set_option maxHeartbeats 4000000 in
set_option maxRecDepth 100000 in
theorem s_X0_init {o : Nat} (ho : o ∈ xpLL) {h0 : Nat} (C : y_C p s m args meth c g A RX0 cX0_init 1) (hret : meth.sig.returnType = none) (hin : meth.name = "<init>") (hw : y_W g A [(h0, .inr (0, [.int 0, .int 0, .int 0, .null, .null, .null, .null, .null, .null, .null]))] ad [] (uI) s.heap s.heap []) {ls : Array Slot} (hl : lv_has ls 1 [(0, .ref h0)]) : W p l e ({ frames := 1, cells := 7, slots := 72, locals := 40 } : Room) s m args below meth c s.heap [] 0 0 (MQ below (va_Qv (fun ad => ad (o + 9) = h0) (y_post g A (KD o)) A) args s 7 72 A) (F0 m 0 ls []) := by
  have hx := C.1.1
  have hb := C.1.2.1
  have hown := C.1.2.2.2.1
  have hts := C.1.2.2.2.2.1
  refine lv_aload_n hx hb dX0_init_0 rfl (lv_at hl 0 rfl) ?_
  refine W.objInit hx hb hown (hts _ xw_88) (hts _ xw_11) (hts _ xw_12) rfl (hl.1.trans C.1.2.2.1.symm) rfl dX0_init_1 (Nat.le_of_ble_eq_true rfl) (Nat.le_of_ble_eq_true rfl) ?_
  refine W.eq (g2 := F0 m 4 ls []) rfl ?_
  refine lv_aload_n hx hb dX0_init_4 rfl (lv_at hl 0 rfl) ?_
  refine lv_bipush (v := 10) hx hb dX0_init_5 (by decide) ?_
  refine y_al (Ks' := [o + 10]) (c' := 1) (n' := 10) C hw (o + 10) ((by decide +kernel : ∀ o ∈ xpLL, x_kind (o + 10) = (1, 10)) o ho) (uI_2 ((by decide +kernel : ∀ o ∈ xpLL, spL.contains (o + 10) = false) o ho)) ((by decide +kernel : ∀ o ∈ xpLL, newK (o + 10) ([]) = true) o ho) rfl (by decide +kernel) (by decide) ⟨Nat.le_of_ble_eq_true rfl, Nat.le_of_ble_eq_true rfl⟩ rfl rfl dX0_init_7 (fun q93 H hw => ?_)
  refine y_putF (j := 3) (v := .ref q93) C hw hin rfl inlX0 tyX0_ok nmX0 (by decide) xw_89 rfl rfl rfl rfl (by simp) dX0_init_9 (fun H locs hw => ?_)
  have hw : y_W g A [(h0, .inr (0, [.int 0, .int 0, .int 0, .ref q93, .null, .null, .null, .null, .null, .null]))] _ ([o + 10]) (uI) s.heap H locs := hw
  refine lv_aload_n hx hb dX0_init_12 rfl (lv_at hl 0 rfl) ?_
  refine lv_bipush (v := 10) hx hb dX0_init_13 (by decide) ?_
  refine y_ai (Ks' := [o + 10] ++ [o + 11]) (c' := 2) (n' := 20) C hw (o + 11) ((by decide +kernel : ∀ o ∈ xpLL, x_kind (o + 11) = (0, 10)) o ho) (uI_1 ((by decide +kernel : ∀ o ∈ xpLL, spI.contains (o + 11) = false) o ho)) ((by decide +kernel : ∀ o ∈ xpLL, newK (o + 11) ([o + 10]) = true) o ho) rfl (by decide +kernel) (by decide) ⟨Nat.le_of_ble_eq_true rfl, Nat.le_of_ble_eq_true rfl⟩ rfl rfl dX0_init_15 (fun q94 H hw => ?_)
  refine y_putF (j := 4) (v := .ref q94) C hw hin rfl inlX0 tyX0_ok nmX0 (by decide) xw_90 rfl rfl rfl rfl (by simp) dX0_init_17 (fun H locs hw => ?_)
  have hw : y_W g A [(h0, .inr (0, [.int 0, .int 0, .int 0, .ref q93, .ref q94, .null, .null, .null, .null, .null]))] _ ([o + 10] ++ [o + 11]) (uI) s.heap H locs := hw
  refine lv_aload_n hx hb dX0_init_20 rfl (lv_at hl 0 rfl) ?_
  refine lv_bipush (v := 10) hx hb dX0_init_21 (by decide) ?_
  refine y_ai (Ks' := [o + 10] ++ [o + 11] ++ [o + 12]) (c' := 3) (n' := 30) C hw (o + 12) ((by decide +kernel : ∀ o ∈ xpLL, x_kind (o + 12) = (0, 10)) o ho) (uI_1 ((by decide +kernel : ∀ o ∈ xpLL, spI.contains (o + 12) = false) o ho)) ((by decide +kernel : ∀ o ∈ xpLL, newK (o + 12) ([o + 10] ++ [o + 11]) = true) o ho) rfl (by decide +kernel) (by decide) ⟨Nat.le_of_ble_eq_true rfl, Nat.le_of_ble_eq_true rfl⟩ rfl rfl dX0_init_23 (fun q95 H hw => ?_)
  refine y_putF (j := 5) (v := .ref q95) C hw hin rfl inlX0 tyX0_ok nmX0 (by decide) xw_91 rfl rfl rfl rfl (by simp) dX0_init_25 (fun H locs hw => ?_)
  have hw : y_W g A [(h0, .inr (0, [.int 0, .int 0, .int 0, .ref q93, .ref q94, .ref q95, .null, .null, .null, .null]))] _ ([o + 10] ++ [o + 11] ++ [o + 12]) (uI) s.heap H locs := hw
  refine lv_aload_n hx hb dX0_init_28 rfl (lv_at hl 0 rfl) ?_
  refine lv_bipush (v := 10) hx hb dX0_init_29 (by decide) ?_
  refine y_ai (Ks' := [o + 10] ++ [o + 11] ++ [o + 12] ++ [o + 13]) (c' := 4) (n' := 40) C hw (o + 13) ((by decide +kernel : ∀ o ∈ xpLL, x_kind (o + 13) = (0, 10)) o ho) (uI_1 ((by decide +kernel : ∀ o ∈ xpLL, spI.contains (o + 13) = false) o ho)) ((by decide +kernel : ∀ o ∈ xpLL, newK (o + 13) ([o + 10] ++ [o + 11] ++ [o + 12]) = true) o ho) rfl (by decide +kernel) (by decide) ⟨Nat.le_of_ble_eq_true rfl, Nat.le_of_ble_eq_true rfl⟩ rfl rfl dX0_init_31 (fun q96 H hw => ?_)
  refine y_putF (j := 6) (v := .ref q96) C hw hin rfl inlX0 tyX0_ok nmX0 (by decide) xw_92 rfl rfl rfl rfl (by simp) dX0_init_33 (fun H locs hw => ?_)
  have hw : y_W g A [(h0, .inr (0, [.int 0, .int 0, .int 0, .ref q93, .ref q94, .ref q95, .ref q96, .null, .null, .null]))] _ ([o + 10] ++ [o + 11] ++ [o + 12] ++ [o + 13]) (uI) s.heap H locs := hw
  refine lv_aload_n hx hb dX0_init_36 rfl (lv_at hl 0 rfl) ?_
  refine lv_bipush (v := 10) hx hb dX0_init_37 (by decide) ?_
  refine y_ai (Ks' := [o + 10] ++ [o + 11] ++ [o + 12] ++ [o + 13] ++ [o + 14]) (c' := 5) (n' := 50) C hw (o + 14) ((by decide +kernel : ∀ o ∈ xpLL, x_kind (o + 14) = (0, 10)) o ho) (uI_1 ((by decide +kernel : ∀ o ∈ xpLL, spI.contains (o + 14) = false) o ho)) ((by decide +kernel : ∀ o ∈ xpLL, newK (o + 14) ([o + 10] ++ [o + 11] ++ [o + 12] ++ [o + 13]) = true) o ho) rfl (by decide +kernel) (by decide) ⟨Nat.le_of_ble_eq_true rfl, Nat.le_of_ble_eq_true rfl⟩ rfl rfl dX0_init_39 (fun q97 H hw => ?_)
  refine y_putF (j := 7) (v := .ref q97) C hw hin rfl inlX0 tyX0_ok nmX0 (by decide) xw_93 rfl rfl rfl rfl (by simp) dX0_init_41 (fun H locs hw => ?_)
  have hw : y_W g A [(h0, .inr (0, [.int 0, .int 0, .int 0, .ref q93, .ref q94, .ref q95, .ref q96, .ref q97, .null, .null]))] _ ([o + 10] ++ [o + 11] ++ [o + 12] ++ [o + 13] ++ [o + 14]) (uI) s.heap H locs := hw
  refine lv_aload_n hx hb dX0_init_44 rfl (lv_at hl 0 rfl) ?_
  refine lv_bipush (v := 10) hx hb dX0_init_45 (by decide) ?_
  refine y_ai (Ks' := [o + 10] ++ [o + 11] ++ [o + 12] ++ [o + 13] ++ [o + 14] ++ [o + 15]) (c' := 6) (n' := 60) C hw (o + 15) ((by decide +kernel : ∀ o ∈ xpLL, x_kind (o + 15) = (0, 10)) o ho) (uI_1 ((by decide +kernel : ∀ o ∈ xpLL, spI.contains (o + 15) = false) o ho)) ((by decide +kernel : ∀ o ∈ xpLL, newK (o + 15) ([o + 10] ++ [o + 11] ++ [o + 12] ++ [o + 13] ++ [o + 14]) = true) o ho) rfl (by decide +kernel) (by decide) ⟨Nat.le_of_ble_eq_true rfl, Nat.le_of_ble_eq_true rfl⟩ rfl rfl dX0_init_47 (fun q98 H hw => ?_)
  refine y_putF (j := 8) (v := .ref q98) C hw hin rfl inlX0 tyX0_ok nmX0 (by decide) xw_94 rfl rfl rfl rfl (by simp) dX0_init_49 (fun H locs hw => ?_)
  have hw : y_W g A [(h0, .inr (0, [.int 0, .int 0, .int 0, .ref q93, .ref q94, .ref q95, .ref q96, .ref q97, .ref q98, .null]))] _ ([o + 10] ++ [o + 11] ++ [o + 12] ++ [o + 13] ++ [o + 14] ++ [o + 15]) (uI) s.heap H locs := hw
  refine lv_aload_n hx hb dX0_init_52 rfl (lv_at hl 0 rfl) ?_
  refine lv_bipush (v := 12) hx hb dX0_init_53 (by decide) ?_
  refine y_ai (Ks' := [o + 10] ++ [o + 11] ++ [o + 12] ++ [o + 13] ++ [o + 14] ++ [o + 15] ++ [o + 16]) (c' := 7) (n' := 72) C hw (o + 16) ((by decide +kernel : ∀ o ∈ xpLL, x_kind (o + 16) = (0, 12)) o ho) (uI_1 ((by decide +kernel : ∀ o ∈ xpLL, spI.contains (o + 16) = false) o ho)) ((by decide +kernel : ∀ o ∈ xpLL, newK (o + 16) ([o + 10] ++ [o + 11] ++ [o + 12] ++ [o + 13] ++ [o + 14] ++ [o + 15]) = true) o ho) rfl (by decide +kernel) (by decide) ⟨Nat.le_of_ble_eq_true rfl, Nat.le_of_ble_eq_true rfl⟩ rfl rfl dX0_init_55 (fun q99 H hw => ?_)
  refine y_putF (j := 9) (v := .ref q99) C hw hin rfl inlX0 tyX0_ok nmX0 (by decide) xw_95 rfl rfl rfl rfl (by simp) dX0_init_57 (fun H locs hw => ?_)
  have hw : y_W g A [(h0, .inr (0, [.int 0, .int 0, .int 0, .ref q93, .ref q94, .ref q95, .ref q96, .ref q97, .ref q98, .ref q99]))] _ ([o + 10] ++ [o + 11] ++ [o + 12] ++ [o + 13] ++ [o + 14] ++ [o + 15] ++ [o + 16]) (uI) s.heap H locs := hw
  obtain ⟨adf, eh0, hw⟩ := y_seal2 (N := 10) (o := o + 9) hw ((by decide +kernel : ∀ o ∈ xpLL, x_kind (o + 9) = (10 + 0, 10)) o ho) ((by decide +kernel : ∀ o ∈ xpLL, newK (o + 9) ([o + 10] ++ [o + 11] ++ [o + 12] ++ [o + 13] ++ [o + 14] ++ [o + 15] ++ [o + 16]) = true) o ho) (by rw [fs_X0_init ho]; simp [ua, um])
  have hw : y_W g A [] adf (KD o) (uI) s.heap H locs := hw
  exact y_vret C hret hw eh0 dX0_init_60
set_option maxHeartbeats 4000000 in
set_option maxRecDepth 100000 in
theorem c_X0_init (l : Launch) (g : xG) {o : Nat} (ho : o ∈ xpLL) : CTRy l g yX0_init cX0_init 1 0 [.int 0, .int 0, .int 0, .null, .null, .null, .null, .null, .null, .null] (o + 9) (KD o) 7 72 1 40 [] := by
  intro h0 sz
  refine Met.ofW (cc := cX0_init) (maxL := 1) (ret := none) (by decide) rfl ?_
  intro p e s m args below meth c s₁ B hml hv
  obtain ⟨rfl, hpre⟩ := hv
  obtain ⟨C, hw, hret, hin, rfl⟩ := y_start (u := uI) (ad := fun _ => 0) B hml rfl hpre
  have hl := lv_entry [.ref h0] (n := 1) (Nat.le_of_ble_eq_true rfl)
  rw [lg_entry_eq]
  exact s_X0_init ho C hret hin hw hl
def KL (o : Nat) : List Nat := o :: (KR o ++ KD o ++ [o + 17] ++ [o + 18] ++ [o + 19] ++ [o + 20] ++ [o + 21] ++ [o + 22] ++ [o + 23] ++ [o + 24] ++ [o + 25] ++ [o + 26])
theorem fs_X1_init {o : Nat} (ho : o ∈ xpLL) {g : xG} {ad : Nat → Nat} : x_fs (gK g ad []) (uzi (o + 21)) (o) 1 = [.ref (ad (o + 1)), .ref (ad (o + 9)), .int 0, .ref (ad (o + 17)), .ref (ad (o + 18)), .ref (ad (o + 19)), .ref (ad (o + 20)), .ref (ad (o + 21)), .int 0, .int 4095, .ref (ad (o + 22)), .ref (ad (o + 23)), .ref (ad (o + 24)), .ref (ad (o + 25)), .ref (ad (o + 26))] := by
  simp only [xpLL, List.mem_cons, List.not_mem_nil, or_false] at ho
  rcases ho with rfl | rfl | rfl | rfl | rfl | rfl | rfl <;> rfl
set_option maxHeartbeats 4000000 in
set_option maxRecDepth 100000 in
theorem s_X1_init {o : Nat} (ho : o ∈ xpLL) {h0 : Nat} (C : y_C p s m args meth c g A RX1 cX1_init 1) (hret : meth.sig.returnType = none) (hin : meth.name = "<init>") (hw : y_W g A [(h0, .inr (1, [.null, .null, .int 0, .null, .null, .null, .null, .null, .int 0, .int 0, .null, .null, .null, .null, .null]))] ad [] (uzi (o + 21)) s.heap s.heap []) {ls : Array Slot} (hl : lv_has ls 1 [(0, .ref h0)]) : W p l e ({ frames := 2, cells := 26, slots := 216, locals := 60 } : Room) s m args below meth c s.heap [] 0 0 (MQ below (va_Qv (fun ad => ad (o) = h0) (y_post g A (KL o)) A) args s 26 216 A) (F0 m 0 ls []) := by
  have hx := C.1.1
  have hb := C.1.2.1
  have hown := C.1.2.2.2.1
  have hts := C.1.2.2.2.2.1
  refine lv_aload_n hx hb dX1_init_0 rfl (lv_at hl 0 rfl) ?_
  refine W.objInit hx hb hown (hts _ xw_54) (hts _ xw_11) (hts _ xw_12) rfl (hl.1.trans C.1.2.2.1.symm) rfl dX1_init_1 (Nat.le_of_ble_eq_true rfl) (Nat.le_of_ble_eq_true rfl) ?_
  refine W.eq (g2 := F0 m 4 ls []) rfl ?_
  refine lv_aload_n hx hb dX1_init_4 rfl (lv_at hl 0 rfl) ?_
  refine y_newo (ci := 7) (fs := [.int 0, .int 0, .null, .null, .null, .null, .null, .null, .null]) (c' := 1) (n' := 9) C hw rfl inlX7 tyX7_ok xw_55 xw_56 xw_57 rfl ⟨Nat.le_of_ble_eq_true rfl, Nat.le_of_ble_eq_true rfl⟩ rfl rfl dX1_init_5 (fun q84 H hP hD hS => ?_)
  refine lv_dup hx hb dX1_init_8 rfl ?_
  refine y_mkN (As := []) (n := 0) (Ks' := KR o) (c' := 8) (n' := 58) (rest := [.ref q84, .ref h0]) C (c_X7_init l g ho) (List.mem_of_getElem? (i := 0) rfl) xw_76 xw_57 xw_77 rfl ⟨by decide, by decide, by decide +kernel⟩ ⟨Nat.le_of_ble_eq_true rfl, Nat.le_of_ble_eq_true rfl⟩ rfl hl.1 rfl (Nat.le_of_ble_eq_true rfl) dX1_init_9 ⟨Nat.le_of_ble_eq_true rfl, Nat.le_of_ble_eq_true rfl⟩ hP hD hS ((by decide +kernel : ∀ o ∈ xpLL, aprt ([]) (KR o) = true) o ho) (fun b hb => uzi_u (by simp only [KR, List.mem_append, List.mem_cons, List.not_mem_nil, or_false] at hb; omega)) rfl rfl rfl (fun ad84 H locs ea84 hw => ?_)
  refine y_putF (j := 0) (v := .ref q84) C hw hin rfl inlX1 tyX1_ok nmX1 (by decide) xw_58 rfl rfl rfl rfl (by simp) dX1_init_12 (fun H locs hw => ?_)
  have hw : y_W g A [(h0, .inr (1, [.ref q84, .null, .int 0, .null, .null, .null, .null, .null, .int 0, .int 0, .null, .null, .null, .null, .null]))] _ (KR o) (uzi (o + 21)) s.heap H locs := hw
  refine lv_aload_n hx hb dX1_init_15 rfl (lv_at hl 0 rfl) ?_
  refine y_newo (ci := 0) (fs := [.int 0, .int 0, .int 0, .null, .null, .null, .null, .null, .null, .null]) (c' := 9) (n' := 68) C hw rfl inlX0 tyX0_ok xw_59 xw_60 xw_61 rfl ⟨Nat.le_of_ble_eq_true rfl, Nat.le_of_ble_eq_true rfl⟩ rfl rfl dX1_init_16 (fun q92 H hP hD hS => ?_)
  refine lv_dup hx hb dX1_init_19 rfl ?_
  refine y_mkN (As := []) (n := 0) (Ks' := KR o ++ KD o) (c' := 16) (n' := 140) (rest := [.ref q92, .ref h0]) C (c_X0_init l g ho) (List.mem_of_getElem? (i := 1) rfl) xw_86 xw_61 xw_87 rfl ⟨by decide, by decide, by decide +kernel⟩ ⟨Nat.le_of_ble_eq_true rfl, Nat.le_of_ble_eq_true rfl⟩ rfl hl.1 rfl (Nat.le_of_ble_eq_true rfl) dX1_init_20 ⟨Nat.le_of_ble_eq_true rfl, Nat.le_of_ble_eq_true rfl⟩ hP hD hS ((by decide +kernel : ∀ o ∈ xpLL, aprt (KR o) (KD o) = true) o ho) (fun b hb => uzi_u (by simp only [KD, List.mem_append, List.mem_cons, List.not_mem_nil, or_false] at hb; omega)) rfl rfl rfl (fun ad92 H locs ea92 hw => ?_)
  refine y_putF (j := 1) (v := .ref q92) C hw hin rfl inlX1 tyX1_ok nmX1 (by decide) xw_62 rfl rfl rfl rfl (by simp) dX1_init_23 (fun H locs hw => ?_)
  have hw : y_W g A [(h0, .inr (1, [.ref q84, .ref q92, .int 0, .null, .null, .null, .null, .null, .int 0, .int 0, .null, .null, .null, .null, .null]))] _ (KR o ++ KD o) (uzi (o + 21)) s.heap H locs := hw
  refine lv_aload_n hx hb dX1_init_26 rfl (lv_at hl 0 rfl) ?_
  refine lv_iconst (v := 4) hx hb dX1_init_27 (by decide) ?_
  refine y_al (Ks' := KR o ++ KD o ++ [o + 17]) (c' := 17) (n' := 144) C hw (o + 17) ((by decide +kernel : ∀ o ∈ xpLL, x_kind (o + 17) = (1, 4)) o ho) (uI_2 ((by decide +kernel : ∀ o ∈ xpLL, spL.contains (o + 17) = false) o ho)) ((by decide +kernel : ∀ o ∈ xpLL, newK (o + 17) (KR o ++ KD o) = true) o ho) rfl (by decide +kernel) (by decide) ⟨Nat.le_of_ble_eq_true rfl, Nat.le_of_ble_eq_true rfl⟩ rfl rfl dX1_init_28 (fun q100 H hw => ?_)
  refine y_putF (j := 3) (v := .ref q100) C hw hin rfl inlX1 tyX1_ok nmX1 (by decide) xw_64 rfl rfl rfl rfl (by simp) dX1_init_30 (fun H locs hw => ?_)
  have hw : y_W g A [(h0, .inr (1, [.ref q84, .ref q92, .int 0, .ref q100, .null, .null, .null, .null, .int 0, .int 0, .null, .null, .null, .null, .null]))] _ (KR o ++ KD o ++ [o + 17]) (uzi (o + 21)) s.heap H locs := hw
  refine lv_aload_n hx hb dX1_init_33 rfl (lv_at hl 0 rfl) ?_
  refine lv_iconst (v := 4) hx hb dX1_init_34 (by decide) ?_
  refine y_ai (Ks' := KR o ++ KD o ++ [o + 17] ++ [o + 18]) (c' := 18) (n' := 148) C hw (o + 18) ((by decide +kernel : ∀ o ∈ xpLL, x_kind (o + 18) = (0, 4)) o ho) (uzi_1 (Or.inl ((by decide +kernel : ∀ o ∈ xpLL, spI.contains (o + 18) = false) o ho))) ((by decide +kernel : ∀ o ∈ xpLL, newK (o + 18) (KR o ++ KD o ++ [o + 17]) = true) o ho) rfl (by decide +kernel) (by decide) ⟨Nat.le_of_ble_eq_true rfl, Nat.le_of_ble_eq_true rfl⟩ rfl rfl dX1_init_35 (fun q101 H hw => ?_)
  refine y_putF (j := 4) (v := .ref q101) C hw hin rfl inlX1 tyX1_ok nmX1 (by decide) xw_66 rfl rfl rfl rfl (by simp) dX1_init_37 (fun H locs hw => ?_)
  have hw : y_W g A [(h0, .inr (1, [.ref q84, .ref q92, .int 0, .ref q100, .ref q101, .null, .null, .null, .int 0, .int 0, .null, .null, .null, .null, .null]))] _ (KR o ++ KD o ++ [o + 17] ++ [o + 18]) (uzi (o + 21)) s.heap H locs := hw
  refine lv_aload_n hx hb dX1_init_40 rfl (lv_at hl 0 rfl) ?_
  refine lv_iconst (v := 4) hx hb dX1_init_41 (by decide) ?_
  refine y_ai (Ks' := KR o ++ KD o ++ [o + 17] ++ [o + 18] ++ [o + 19]) (c' := 19) (n' := 152) C hw (o + 19) ((by decide +kernel : ∀ o ∈ xpLL, x_kind (o + 19) = (0, 4)) o ho) (uzi_1 (Or.inl ((by decide +kernel : ∀ o ∈ xpLL, spI.contains (o + 19) = false) o ho))) ((by decide +kernel : ∀ o ∈ xpLL, newK (o + 19) (KR o ++ KD o ++ [o + 17] ++ [o + 18]) = true) o ho) rfl (by decide +kernel) (by decide) ⟨Nat.le_of_ble_eq_true rfl, Nat.le_of_ble_eq_true rfl⟩ rfl rfl dX1_init_42 (fun q102 H hw => ?_)
  refine y_putF (j := 5) (v := .ref q102) C hw hin rfl inlX1 tyX1_ok nmX1 (by decide) xw_67 rfl rfl rfl rfl (by simp) dX1_init_44 (fun H locs hw => ?_)
  have hw : y_W g A [(h0, .inr (1, [.ref q84, .ref q92, .int 0, .ref q100, .ref q101, .ref q102, .null, .null, .int 0, .int 0, .null, .null, .null, .null, .null]))] _ (KR o ++ KD o ++ [o + 17] ++ [o + 18] ++ [o + 19]) (uzi (o + 21)) s.heap H locs := hw
  refine lv_aload_n hx hb dX1_init_47 rfl (lv_at hl 0 rfl) ?_
  refine lv_iconst (v := 4) hx hb dX1_init_48 (by decide) ?_
  refine y_ai (Ks' := KR o ++ KD o ++ [o + 17] ++ [o + 18] ++ [o + 19] ++ [o + 20]) (c' := 20) (n' := 156) C hw (o + 20) ((by decide +kernel : ∀ o ∈ xpLL, x_kind (o + 20) = (0, 4)) o ho) (uzi_1 (Or.inl ((by decide +kernel : ∀ o ∈ xpLL, spI.contains (o + 20) = false) o ho))) ((by decide +kernel : ∀ o ∈ xpLL, newK (o + 20) (KR o ++ KD o ++ [o + 17] ++ [o + 18] ++ [o + 19]) = true) o ho) rfl (by decide +kernel) (by decide) ⟨Nat.le_of_ble_eq_true rfl, Nat.le_of_ble_eq_true rfl⟩ rfl rfl dX1_init_49 (fun q103 H hw => ?_)
  refine y_putF (j := 6) (v := .ref q103) C hw hin rfl inlX1 tyX1_ok nmX1 (by decide) xw_68 rfl rfl rfl rfl (by simp) dX1_init_51 (fun H locs hw => ?_)
  have hw : y_W g A [(h0, .inr (1, [.ref q84, .ref q92, .int 0, .ref q100, .ref q101, .ref q102, .ref q103, .null, .int 0, .int 0, .null, .null, .null, .null, .null]))] _ (KR o ++ KD o ++ [o + 17] ++ [o + 18] ++ [o + 19] ++ [o + 20]) (uzi (o + 21)) s.heap H locs := hw
  refine lv_aload_n hx hb dX1_init_54 rfl (lv_at hl 0 rfl) ?_
  refine lv_bipush (v := 12) hx hb dX1_init_55 (by decide) ?_
  refine y_ai (Ks' := KR o ++ KD o ++ [o + 17] ++ [o + 18] ++ [o + 19] ++ [o + 20] ++ [o + 21]) (c' := 21) (n' := 168) C hw (o + 21) ((by decide +kernel : ∀ o ∈ xpLL, x_kind (o + 21) = (0, 12)) o ho) (uzi_1 (Or.inr rfl)) ((by decide +kernel : ∀ o ∈ xpLL, newK (o + 21) (KR o ++ KD o ++ [o + 17] ++ [o + 18] ++ [o + 19] ++ [o + 20]) = true) o ho) rfl (by decide +kernel) (by decide) ⟨Nat.le_of_ble_eq_true rfl, Nat.le_of_ble_eq_true rfl⟩ rfl rfl dX1_init_57 (fun q104 H hw => ?_)
  refine y_putF (j := 7) (v := .ref q104) C hw hin rfl inlX1 tyX1_ok nmX1 (by decide) xw_69 rfl rfl rfl rfl (by simp) dX1_init_59 (fun H locs hw => ?_)
  have hw : y_W g A [(h0, .inr (1, [.ref q84, .ref q92, .int 0, .ref q100, .ref q101, .ref q102, .ref q103, .ref q104, .int 0, .int 0, .null, .null, .null, .null, .null]))] _ (KR o ++ KD o ++ [o + 17] ++ [o + 18] ++ [o + 19] ++ [o + 20] ++ [o + 21]) (uzi (o + 21)) s.heap H locs := hw
  refine lv_aload_n hx hb dX1_init_62 rfl (lv_at hl 0 rfl) ?_
  refine lv_sipush (v := 4095) hx hb dX1_init_63 (by decide) ?_
  refine y_put (j := 9) (v := .int 4095) C hw rfl inlX1 tyX1_ok nmX1 (by decide) xw_70 (by decide +kernel) rfl rfl (by simp) dX1_init_66 (fun H locs hw => ?_)
  have hw : y_W g A [(h0, .inr (1, [.ref q84, .ref q92, .int 0, .ref q100, .ref q101, .ref q102, .ref q103, .ref q104, .int 0, .int 4095, .null, .null, .null, .null, .null]))] _ (KR o ++ KD o ++ [o + 17] ++ [o + 18] ++ [o + 19] ++ [o + 20] ++ [o + 21]) (uzi (o + 21)) s.heap H locs := hw
  refine lv_aload_n hx hb dX1_init_69 rfl (lv_at hl 0 rfl) ?_
  refine lv_bipush (v := 8) hx hb dX1_init_70 (by decide) ?_
  refine y_ai (Ks' := KR o ++ KD o ++ [o + 17] ++ [o + 18] ++ [o + 19] ++ [o + 20] ++ [o + 21] ++ [o + 22]) (c' := 22) (n' := 176) C hw (o + 22) ((by decide +kernel : ∀ o ∈ xpLL, x_kind (o + 22) = (0, 8)) o ho) (uzi_1 (Or.inl ((by decide +kernel : ∀ o ∈ xpLL, spI.contains (o + 22) = false) o ho))) ((by decide +kernel : ∀ o ∈ xpLL, newK (o + 22) (KR o ++ KD o ++ [o + 17] ++ [o + 18] ++ [o + 19] ++ [o + 20] ++ [o + 21]) = true) o ho) rfl (by decide +kernel) (by decide) ⟨Nat.le_of_ble_eq_true rfl, Nat.le_of_ble_eq_true rfl⟩ rfl rfl dX1_init_72 (fun q105 H hw => ?_)
  refine y_putF (j := 10) (v := .ref q105) C hw hin rfl inlX1 tyX1_ok nmX1 (by decide) xw_71 rfl rfl rfl rfl (by simp) dX1_init_74 (fun H locs hw => ?_)
  have hw : y_W g A [(h0, .inr (1, [.ref q84, .ref q92, .int 0, .ref q100, .ref q101, .ref q102, .ref q103, .ref q104, .int 0, .int 4095, .ref q105, .null, .null, .null, .null]))] _ (KR o ++ KD o ++ [o + 17] ++ [o + 18] ++ [o + 19] ++ [o + 20] ++ [o + 21] ++ [o + 22]) (uzi (o + 21)) s.heap H locs := hw
  refine lv_aload_n hx hb dX1_init_77 rfl (lv_at hl 0 rfl) ?_
  refine lv_bipush (v := 10) hx hb dX1_init_78 (by decide) ?_
  refine y_ai (Ks' := KR o ++ KD o ++ [o + 17] ++ [o + 18] ++ [o + 19] ++ [o + 20] ++ [o + 21] ++ [o + 22] ++ [o + 23]) (c' := 23) (n' := 186) C hw (o + 23) ((by decide +kernel : ∀ o ∈ xpLL, x_kind (o + 23) = (0, 10)) o ho) (uzi_1 (Or.inl ((by decide +kernel : ∀ o ∈ xpLL, spI.contains (o + 23) = false) o ho))) ((by decide +kernel : ∀ o ∈ xpLL, newK (o + 23) (KR o ++ KD o ++ [o + 17] ++ [o + 18] ++ [o + 19] ++ [o + 20] ++ [o + 21] ++ [o + 22]) = true) o ho) rfl (by decide +kernel) (by decide) ⟨Nat.le_of_ble_eq_true rfl, Nat.le_of_ble_eq_true rfl⟩ rfl rfl dX1_init_80 (fun q106 H hw => ?_)
  refine y_putF (j := 11) (v := .ref q106) C hw hin rfl inlX1 tyX1_ok nmX1 (by decide) xw_72 rfl rfl rfl rfl (by simp) dX1_init_82 (fun H locs hw => ?_)
  have hw : y_W g A [(h0, .inr (1, [.ref q84, .ref q92, .int 0, .ref q100, .ref q101, .ref q102, .ref q103, .ref q104, .int 0, .int 4095, .ref q105, .ref q106, .null, .null, .null]))] _ (KR o ++ KD o ++ [o + 17] ++ [o + 18] ++ [o + 19] ++ [o + 20] ++ [o + 21] ++ [o + 22] ++ [o + 23]) (uzi (o + 21)) s.heap H locs := hw
  refine lv_aload_n hx hb dX1_init_85 rfl (lv_at hl 0 rfl) ?_
  refine lv_bipush (v := 10) hx hb dX1_init_86 (by decide) ?_
  refine y_ai (Ks' := KR o ++ KD o ++ [o + 17] ++ [o + 18] ++ [o + 19] ++ [o + 20] ++ [o + 21] ++ [o + 22] ++ [o + 23] ++ [o + 24]) (c' := 24) (n' := 196) C hw (o + 24) ((by decide +kernel : ∀ o ∈ xpLL, x_kind (o + 24) = (0, 10)) o ho) (uzi_1 (Or.inl ((by decide +kernel : ∀ o ∈ xpLL, spI.contains (o + 24) = false) o ho))) ((by decide +kernel : ∀ o ∈ xpLL, newK (o + 24) (KR o ++ KD o ++ [o + 17] ++ [o + 18] ++ [o + 19] ++ [o + 20] ++ [o + 21] ++ [o + 22] ++ [o + 23]) = true) o ho) rfl (by decide +kernel) (by decide) ⟨Nat.le_of_ble_eq_true rfl, Nat.le_of_ble_eq_true rfl⟩ rfl rfl dX1_init_88 (fun q107 H hw => ?_)
  refine y_putF (j := 12) (v := .ref q107) C hw hin rfl inlX1 tyX1_ok nmX1 (by decide) xw_73 rfl rfl rfl rfl (by simp) dX1_init_90 (fun H locs hw => ?_)
  have hw : y_W g A [(h0, .inr (1, [.ref q84, .ref q92, .int 0, .ref q100, .ref q101, .ref q102, .ref q103, .ref q104, .int 0, .int 4095, .ref q105, .ref q106, .ref q107, .null, .null]))] _ (KR o ++ KD o ++ [o + 17] ++ [o + 18] ++ [o + 19] ++ [o + 20] ++ [o + 21] ++ [o + 22] ++ [o + 23] ++ [o + 24]) (uzi (o + 21)) s.heap H locs := hw
  refine lv_aload_n hx hb dX1_init_93 rfl (lv_at hl 0 rfl) ?_
  refine lv_bipush (v := 10) hx hb dX1_init_94 (by decide) ?_
  refine y_ai (Ks' := KR o ++ KD o ++ [o + 17] ++ [o + 18] ++ [o + 19] ++ [o + 20] ++ [o + 21] ++ [o + 22] ++ [o + 23] ++ [o + 24] ++ [o + 25]) (c' := 25) (n' := 206) C hw (o + 25) ((by decide +kernel : ∀ o ∈ xpLL, x_kind (o + 25) = (0, 10)) o ho) (uzi_1 (Or.inl ((by decide +kernel : ∀ o ∈ xpLL, spI.contains (o + 25) = false) o ho))) ((by decide +kernel : ∀ o ∈ xpLL, newK (o + 25) (KR o ++ KD o ++ [o + 17] ++ [o + 18] ++ [o + 19] ++ [o + 20] ++ [o + 21] ++ [o + 22] ++ [o + 23] ++ [o + 24]) = true) o ho) rfl (by decide +kernel) (by decide) ⟨Nat.le_of_ble_eq_true rfl, Nat.le_of_ble_eq_true rfl⟩ rfl rfl dX1_init_96 (fun q108 H hw => ?_)
  refine y_putF (j := 13) (v := .ref q108) C hw hin rfl inlX1 tyX1_ok nmX1 (by decide) xw_74 rfl rfl rfl rfl (by simp) dX1_init_98 (fun H locs hw => ?_)
  have hw : y_W g A [(h0, .inr (1, [.ref q84, .ref q92, .int 0, .ref q100, .ref q101, .ref q102, .ref q103, .ref q104, .int 0, .int 4095, .ref q105, .ref q106, .ref q107, .ref q108, .null]))] _ (KR o ++ KD o ++ [o + 17] ++ [o + 18] ++ [o + 19] ++ [o + 20] ++ [o + 21] ++ [o + 22] ++ [o + 23] ++ [o + 24] ++ [o + 25]) (uzi (o + 21)) s.heap H locs := hw
  refine lv_aload_n hx hb dX1_init_101 rfl (lv_at hl 0 rfl) ?_
  refine lv_bipush (v := 10) hx hb dX1_init_102 (by decide) ?_
  refine y_ai (Ks' := KR o ++ KD o ++ [o + 17] ++ [o + 18] ++ [o + 19] ++ [o + 20] ++ [o + 21] ++ [o + 22] ++ [o + 23] ++ [o + 24] ++ [o + 25] ++ [o + 26]) (c' := 26) (n' := 216) C hw (o + 26) ((by decide +kernel : ∀ o ∈ xpLL, x_kind (o + 26) = (0, 10)) o ho) (uzi_1 (Or.inl ((by decide +kernel : ∀ o ∈ xpLL, spI.contains (o + 26) = false) o ho))) ((by decide +kernel : ∀ o ∈ xpLL, newK (o + 26) (KR o ++ KD o ++ [o + 17] ++ [o + 18] ++ [o + 19] ++ [o + 20] ++ [o + 21] ++ [o + 22] ++ [o + 23] ++ [o + 24] ++ [o + 25]) = true) o ho) rfl (by decide +kernel) (by decide) ⟨Nat.le_of_ble_eq_true rfl, Nat.le_of_ble_eq_true rfl⟩ rfl rfl dX1_init_104 (fun q109 H hw => ?_)
  refine y_putF (j := 14) (v := .ref q109) C hw hin rfl inlX1 tyX1_ok nmX1 (by decide) xw_75 rfl rfl rfl rfl (by simp) dX1_init_106 (fun H locs hw => ?_)
  have hw : y_W g A [(h0, .inr (1, [.ref q84, .ref q92, .int 0, .ref q100, .ref q101, .ref q102, .ref q103, .ref q104, .int 0, .int 4095, .ref q105, .ref q106, .ref q107, .ref q108, .ref q109]))] _ (KR o ++ KD o ++ [o + 17] ++ [o + 18] ++ [o + 19] ++ [o + 20] ++ [o + 21] ++ [o + 22] ++ [o + 23] ++ [o + 24] ++ [o + 25] ++ [o + 26]) (uzi (o + 21)) s.heap H locs := hw
  obtain ⟨adf, eh0, hw⟩ := y_seal2 (N := 15) (o := o) hw ((by decide +kernel : ∀ o ∈ xpLL, x_kind (o) = (10 + 1, 15)) o ho) ((by decide +kernel : ∀ o ∈ xpLL, newK (o) (KR o ++ KD o ++ [o + 17] ++ [o + 18] ++ [o + 19] ++ [o + 20] ++ [o + 21] ++ [o + 22] ++ [o + 23] ++ [o + 24] ++ [o + 25] ++ [o + 26]) = true) o ho) (by rw [fs_X1_init ho]; simp [ua, um, KD, KR, ea84, ea92])
  have hw : y_W g A [] adf (KL o) (uzi (o + 21)) s.heap H locs := hw
  refine lv_aload_n hx hb dX1_init_109 rfl (lv_at hl 0 rfl) ?_
  refine lv_bipush (v := 10) hx hb dX1_init_110 (by decide) ?_
  refine y_callv hw (y_runV (ci := 1) C hw (m_X1_setAllTides l (y_xD ((by decide +kernel : ∀ o ∈ xpLL, va_nd (KL o) = true) o ho) hw.2.1) ⟨ho, fun i hi => ((by decide +kernel : ∀ o ∈ xpLL, ∀ i, i < 27 → o + i ∈ KL o) o ho) i hi⟩ (k_tides0 ho)) ((by decide +kernel : ∀ o ∈ xpLL, x_kind o = (11, 15)) o ho) (List.mem_cons_self ..) eh0 rfl (x_gV xw_96 xw_97 xw_98 xw_15 xw_99) rfl rfl qX1_setAllTides ⟨Nat.le_of_ble_eq_true rfl, Nat.le_of_ble_eq_true rfl⟩ rfl hl.1 rfl (Nat.le_of_ble_eq_true rfl) dX1_init_112 ⟨Nat.le_of_ble_eq_true rfl, Nat.le_of_ble_eq_true rfl⟩) (fun u1 H locs hw hu1 => ?_)
  subst hu1
  exact y_vret C hret hw eh0 dX1_init_115
set_option maxHeartbeats 4000000 in
set_option maxRecDepth 100000 in
theorem c_X1_init (l : Launch) (g : xG) {o : Nat} (ho : o ∈ xpLL) : CTRy l g yX1_init cX1_init 1 1 [.null, .null, .int 0, .null, .null, .null, .null, .null, .int 0, .int 0, .null, .null, .null, .null, .null] (o) (KL o) 26 216 2 60 [] := by
  intro h0 sz
  refine Met.ofW (cc := cX1_init) (maxL := 1) (ret := none) (by decide) rfl ?_
  intro p e s m args below meth c s₁ B hml hv
  obtain ⟨rfl, hpre⟩ := hv
  obtain ⟨C, hw, hret, hin, rfl⟩ := y_start (u := uzi (o + 21)) (ad := fun _ => 0) B hml rfl hpre
  have hl := lv_entry [.ref h0] (n := 1) (Nat.le_of_ble_eq_true rfl)
  rw [lg_entry_eq]
  exact s_X1_init ho C hret hin hw hl
def KN (o : Nat) : List Nat := o :: ([o + 1] ++ [o + 2] ++ [o + 3] ++ [o + 4])
theorem fs_X4_init {o : Nat} (ho : o ∈ xpNL) {g : xG} {ad : Nat → Nat} : x_fs (gK g ad []) (uI) (o) 4 = [.int 0, .int 0, .int 0, .ref (ad (o + 1)), .ref (ad (o + 2)), .ref (ad (o + 3)), .ref (ad (o + 4))] := by
  simp only [xpNL, List.mem_cons, List.not_mem_nil, or_false] at ho
  rcases ho with rfl | rfl | rfl | rfl | rfl <;> rfl
set_option maxHeartbeats 4000000 in
set_option maxRecDepth 100000 in
theorem s_X4_init {o : Nat} (ho : o ∈ xpNL) {h0 : Nat} (C : y_C p s m args meth c g A RX4 cX4_init 1) (hret : meth.sig.returnType = none) (hin : meth.name = "<init>") (hw : y_W g A [(h0, .inr (4, [.int 0, .int 0, .int 0, .null, .null, .null, .null]))] ad [] (uI) s.heap s.heap []) {ls : Array Slot} (hl : lv_has ls 1 [(0, .ref h0)]) : W p l e ({ frames := 1, cells := 4, slots := 240, locals := 40 } : Room) s m args below meth c s.heap [] 0 0 (MQ below (va_Qv (fun ad => ad (o) = h0) (y_post g A (KN o)) A) args s 4 240 A) (F0 m 0 ls []) := by
  have hx := C.1.1
  have hb := C.1.2.1
  have hown := C.1.2.2.2.1
  have hts := C.1.2.2.2.2.1
  refine lv_aload_n hx hb dX4_init_0 rfl (lv_at hl 0 rfl) ?_
  refine W.objInit hx hb hown (hts _ xw_102) (hts _ xw_11) (hts _ xw_12) rfl (hl.1.trans C.1.2.2.1.symm) rfl dX4_init_1 (Nat.le_of_ble_eq_true rfl) (Nat.le_of_ble_eq_true rfl) ?_
  refine W.eq (g2 := F0 m 4 ls []) rfl ?_
  refine lv_aload_n hx hb dX4_init_4 rfl (lv_at hl 0 rfl) ?_
  refine lv_bipush (v := 60) hx hb dX4_init_5 (by decide) ?_
  refine y_ai (Ks' := [o + 1]) (c' := 1) (n' := 60) C hw (o + 1) ((by decide +kernel : ∀ o ∈ xpNL, x_kind (o + 1) = (0, 60)) o ho) (uI_1 ((by decide +kernel : ∀ o ∈ xpNL, spI.contains (o + 1) = false) o ho)) ((by decide +kernel : ∀ o ∈ xpNL, newK (o + 1) ([]) = true) o ho) rfl (by decide +kernel) (by decide) ⟨Nat.le_of_ble_eq_true rfl, Nat.le_of_ble_eq_true rfl⟩ rfl rfl dX4_init_7 (fun q59 H hw => ?_)
  refine y_putF (j := 3) (v := .ref q59) C hw hin rfl inlX4 tyX4_ok nmX4 (by decide) xw_103 rfl rfl rfl rfl (by simp) dX4_init_9 (fun H locs hw => ?_)
  have hw : y_W g A [(h0, .inr (4, [.int 0, .int 0, .int 0, .ref q59, .null, .null, .null]))] _ ([o + 1]) (uI) s.heap H locs := hw
  refine lv_aload_n hx hb dX4_init_12 rfl (lv_at hl 0 rfl) ?_
  refine lv_bipush (v := 60) hx hb dX4_init_13 (by decide) ?_
  refine y_ai (Ks' := [o + 1] ++ [o + 2]) (c' := 2) (n' := 120) C hw (o + 2) ((by decide +kernel : ∀ o ∈ xpNL, x_kind (o + 2) = (0, 60)) o ho) (uI_1 ((by decide +kernel : ∀ o ∈ xpNL, spI.contains (o + 2) = false) o ho)) ((by decide +kernel : ∀ o ∈ xpNL, newK (o + 2) ([o + 1]) = true) o ho) rfl (by decide +kernel) (by decide) ⟨Nat.le_of_ble_eq_true rfl, Nat.le_of_ble_eq_true rfl⟩ rfl rfl dX4_init_15 (fun q60 H hw => ?_)
  refine y_putF (j := 4) (v := .ref q60) C hw hin rfl inlX4 tyX4_ok nmX4 (by decide) xw_104 rfl rfl rfl rfl (by simp) dX4_init_17 (fun H locs hw => ?_)
  have hw : y_W g A [(h0, .inr (4, [.int 0, .int 0, .int 0, .ref q59, .ref q60, .null, .null]))] _ ([o + 1] ++ [o + 2]) (uI) s.heap H locs := hw
  refine lv_aload_n hx hb dX4_init_20 rfl (lv_at hl 0 rfl) ?_
  refine lv_bipush (v := 60) hx hb dX4_init_21 (by decide) ?_
  refine y_ai (Ks' := [o + 1] ++ [o + 2] ++ [o + 3]) (c' := 3) (n' := 180) C hw (o + 3) ((by decide +kernel : ∀ o ∈ xpNL, x_kind (o + 3) = (0, 60)) o ho) (uI_1 ((by decide +kernel : ∀ o ∈ xpNL, spI.contains (o + 3) = false) o ho)) ((by decide +kernel : ∀ o ∈ xpNL, newK (o + 3) ([o + 1] ++ [o + 2]) = true) o ho) rfl (by decide +kernel) (by decide) ⟨Nat.le_of_ble_eq_true rfl, Nat.le_of_ble_eq_true rfl⟩ rfl rfl dX4_init_23 (fun q61 H hw => ?_)
  refine y_putF (j := 5) (v := .ref q61) C hw hin rfl inlX4 tyX4_ok nmX4 (by decide) xw_105 rfl rfl rfl rfl (by simp) dX4_init_25 (fun H locs hw => ?_)
  have hw : y_W g A [(h0, .inr (4, [.int 0, .int 0, .int 0, .ref q59, .ref q60, .ref q61, .null]))] _ ([o + 1] ++ [o + 2] ++ [o + 3]) (uI) s.heap H locs := hw
  refine lv_aload_n hx hb dX4_init_28 rfl (lv_at hl 0 rfl) ?_
  refine lv_bipush (v := 60) hx hb dX4_init_29 (by decide) ?_
  refine y_ai (Ks' := [o + 1] ++ [o + 2] ++ [o + 3] ++ [o + 4]) (c' := 4) (n' := 240) C hw (o + 4) ((by decide +kernel : ∀ o ∈ xpNL, x_kind (o + 4) = (0, 60)) o ho) (uI_1 ((by decide +kernel : ∀ o ∈ xpNL, spI.contains (o + 4) = false) o ho)) ((by decide +kernel : ∀ o ∈ xpNL, newK (o + 4) ([o + 1] ++ [o + 2] ++ [o + 3]) = true) o ho) rfl (by decide +kernel) (by decide) ⟨Nat.le_of_ble_eq_true rfl, Nat.le_of_ble_eq_true rfl⟩ rfl rfl dX4_init_31 (fun q62 H hw => ?_)
  refine y_putF (j := 6) (v := .ref q62) C hw hin rfl inlX4 tyX4_ok nmX4 (by decide) xw_106 rfl rfl rfl rfl (by simp) dX4_init_33 (fun H locs hw => ?_)
  have hw : y_W g A [(h0, .inr (4, [.int 0, .int 0, .int 0, .ref q59, .ref q60, .ref q61, .ref q62]))] _ ([o + 1] ++ [o + 2] ++ [o + 3] ++ [o + 4]) (uI) s.heap H locs := hw
  obtain ⟨adf, eh0, hw⟩ := y_seal2 (N := 7) (o := o) hw ((by decide +kernel : ∀ o ∈ xpNL, x_kind (o) = (10 + 4, 7)) o ho) ((by decide +kernel : ∀ o ∈ xpNL, newK (o) ([o + 1] ++ [o + 2] ++ [o + 3] ++ [o + 4]) = true) o ho) (by rw [fs_X4_init ho]; simp [ua, um])
  have hw : y_W g A [] adf (KN o) (uI) s.heap H locs := hw
  exact y_vret C hret hw eh0 dX4_init_36
set_option maxHeartbeats 4000000 in
set_option maxRecDepth 100000 in
theorem c_X4_init (l : Launch) (g : xG) {o : Nat} (ho : o ∈ xpNL) : CTRy l g yX4_init cX4_init 1 4 [.int 0, .int 0, .int 0, .null, .null, .null, .null] (o) (KN o) 4 240 1 40 [] := by
  intro h0 sz
  refine Met.ofW (cc := cX4_init) (maxL := 1) (ret := none) (by decide) rfl ?_
  intro p e s m args below meth c s₁ B hml hv
  obtain ⟨rfl, hpre⟩ := hv
  obtain ⟨C, hw, hret, hin, rfl⟩ := y_start (u := uI) (ad := fun _ => 0) B hml rfl hpre
  have hl := lv_entry [.ref h0] (n := 1) (Nat.le_of_ble_eq_true rfl)
  rw [lg_entry_eq]
  exact s_X4_init ho C hret hin hw hl
def KY (o : Nat) : List Nat := o :: ([o + 1])
theorem fs_X9_init {o : Nat} (ho : o ∈ xpYL) {g : xG} {ad : Nat → Nat} : x_fs (gK g ad []) (uI) (o) 9 = [.ref (ad (o + 1)), .int 0, .int (-1)] := by
  simp only [xpYL, List.mem_cons, List.not_mem_nil, or_false] at ho
  rcases ho with rfl | rfl | rfl | rfl <;> rfl
set_option maxHeartbeats 4000000 in
set_option maxRecDepth 100000 in
theorem s_X9_init {o : Nat} (ho : o ∈ xpYL) {h0 : Nat} (C : y_C p s m args meth c g A RX9 cX9_init 1) (hret : meth.sig.returnType = none) (hin : meth.name = "<init>") (hw : y_W g A [(h0, .inr (9, [.null, .int 0, .int 0]))] ad [] (uI) s.heap s.heap []) {ls : Array Slot} (hl : lv_has ls 1 [(0, .ref h0)]) : W p l e ({ frames := 1, cells := 1, slots := 60, locals := 40 } : Room) s m args below meth c s.heap [] 0 0 (MQ below (va_Qv (fun ad => ad (o) = h0) (y_post g A (KY o)) A) args s 1 60 A) (F0 m 0 ls []) := by
  have hx := C.1.1
  have hb := C.1.2.1
  have hown := C.1.2.2.2.1
  have hts := C.1.2.2.2.2.1
  refine lv_aload_n hx hb dX9_init_0 rfl (lv_at hl 0 rfl) ?_
  refine W.objInit hx hb hown (hts _ xw_212) (hts _ xw_11) (hts _ xw_12) rfl (hl.1.trans C.1.2.2.1.symm) rfl dX9_init_1 (Nat.le_of_ble_eq_true rfl) (Nat.le_of_ble_eq_true rfl) ?_
  refine W.eq (g2 := F0 m 4 ls []) rfl ?_
  refine lv_aload_n hx hb dX9_init_4 rfl (lv_at hl 0 rfl) ?_
  refine lv_bipush (v := 60) hx hb dX9_init_5 (by decide) ?_
  refine y_al (Ks' := [o + 1]) (c' := 1) (n' := 60) C hw (o + 1) ((by decide +kernel : ∀ o ∈ xpYL, x_kind (o + 1) = (1, 60)) o ho) (uI_2 ((by decide +kernel : ∀ o ∈ xpYL, spL.contains (o + 1) = false) o ho)) ((by decide +kernel : ∀ o ∈ xpYL, newK (o + 1) ([]) = true) o ho) rfl (by decide +kernel) (by decide) ⟨Nat.le_of_ble_eq_true rfl, Nat.le_of_ble_eq_true rfl⟩ rfl rfl dX9_init_7 (fun q51 H hw => ?_)
  refine y_putF (j := 0) (v := .ref q51) C hw hin rfl inlX9 tyX9_ok nmX9 (by decide) xw_213 rfl rfl rfl rfl (by simp) dX9_init_9 (fun H locs hw => ?_)
  have hw : y_W g A [(h0, .inr (9, [.ref q51, .int 0, .int 0]))] _ ([o + 1]) (uI) s.heap H locs := hw
  refine lv_aload_n hx hb dX9_init_12 rfl (lv_at hl 0 rfl) ?_
  refine lv_iconst (v := -1) hx hb dX9_init_13 (by decide) ?_
  refine y_put (j := 2) (v := .int (-1)) C hw rfl inlX9 tyX9_ok nmX9 (by decide) xw_214 (by decide +kernel) rfl rfl (by simp) dX9_init_14 (fun H locs hw => ?_)
  have hw : y_W g A [(h0, .inr (9, [.ref q51, .int 0, .int (-1)]))] _ ([o + 1]) (uI) s.heap H locs := hw
  obtain ⟨adf, eh0, hw⟩ := y_seal2 (N := 3) (o := o) hw ((by decide +kernel : ∀ o ∈ xpYL, x_kind (o) = (10 + 9, 3)) o ho) ((by decide +kernel : ∀ o ∈ xpYL, newK (o) ([o + 1]) = true) o ho) (by rw [fs_X9_init ho]; simp [ua, um])
  have hw : y_W g A [] adf (KY o) (uI) s.heap H locs := hw
  exact y_vret C hret hw eh0 dX9_init_17
set_option maxHeartbeats 4000000 in
set_option maxRecDepth 100000 in
theorem c_X9_init (l : Launch) (g : xG) {o : Nat} (ho : o ∈ xpYL) : CTRy l g yX9_init cX9_init 1 9 [.null, .int 0, .int 0] (o) (KY o) 1 60 1 40 [] := by
  intro h0 sz
  refine Met.ofW (cc := cX9_init) (maxL := 1) (ret := none) (by decide) rfl ?_
  intro p e s m args below meth c s₁ B hml hv
  obtain ⟨rfl, hpre⟩ := hv
  obtain ⟨C, hw, hret, hin, rfl⟩ := y_start (u := uI) (ad := fun _ => 0) B hml rfl hpre
  have hl := lv_entry [.ref h0] (n := 1) (Nat.le_of_ble_eq_true rfl)
  rw [lg_entry_eq]
  exact s_X9_init ho C hret hin hw hl
def KF (o : Nat) : List Nat := o :: ([o + 1])
theorem fs_X3_init {o : Nat} (ho : o ∈ xpFL) {g : xG} {ad : Nat → Nat} : x_fs (gK g ad []) (uI) (o) 3 = [.int 0, .int 0, .int 0, .int 0, .int 0, .int 0, .int 0, .int 0, .ref (ad (o + 1))] := by
  simp only [xpFL, List.mem_cons, List.not_mem_nil, or_false] at ho
  rcases ho with rfl | rfl <;> rfl
set_option maxHeartbeats 4000000 in
set_option maxRecDepth 100000 in
theorem s_X3_init {o : Nat} (ho : o ∈ xpFL) {h0 : Nat} (C : y_C p s m args meth c g A RX3 cX3_init 1) (hret : meth.sig.returnType = none) (hin : meth.name = "<init>") (hw : y_W g A [(h0, .inr (3, [.int 0, .int 0, .int 0, .int 0, .int 0, .int 0, .int 0, .int 0, .null]))] ad [] (uI) s.heap s.heap []) {ls : Array Slot} (hl : lv_has ls 1 [(0, .ref h0)]) : W p l e ({ frames := 1, cells := 1, slots := 60, locals := 40 } : Room) s m args below meth c s.heap [] 0 0 (MQ below (va_Qv (fun ad => ad (o) = h0) (y_post g A (KF o)) A) args s 1 60 A) (F0 m 0 ls []) := by
  have hx := C.1.1
  have hb := C.1.2.1
  have hown := C.1.2.2.2.1
  have hts := C.1.2.2.2.2.1
  refine lv_aload_n hx hb dX3_init_0 rfl (lv_at hl 0 rfl) ?_
  refine W.objInit hx hb hown (hts _ xw_208) (hts _ xw_11) (hts _ xw_12) rfl (hl.1.trans C.1.2.2.1.symm) rfl dX3_init_1 (Nat.le_of_ble_eq_true rfl) (Nat.le_of_ble_eq_true rfl) ?_
  refine W.eq (g2 := F0 m 4 ls []) rfl ?_
  refine lv_aload_n hx hb dX3_init_4 rfl (lv_at hl 0 rfl) ?_
  refine lv_bipush (v := 60) hx hb dX3_init_5 (by decide) ?_
  refine y_ai (Ks' := [o + 1]) (c' := 1) (n' := 60) C hw (o + 1) ((by decide +kernel : ∀ o ∈ xpFL, x_kind (o + 1) = (0, 60)) o ho) (uI_1 ((by decide +kernel : ∀ o ∈ xpFL, spI.contains (o + 1) = false) o ho)) ((by decide +kernel : ∀ o ∈ xpFL, newK (o + 1) ([]) = true) o ho) rfl (by decide +kernel) (by decide) ⟨Nat.le_of_ble_eq_true rfl, Nat.le_of_ble_eq_true rfl⟩ rfl rfl dX3_init_7 (fun q47 H hw => ?_)
  refine y_putF (j := 8) (v := .ref q47) C hw hin rfl inlX3 tyX3_ok nmX3 (by decide) xw_209 rfl rfl rfl rfl (by simp) dX3_init_9 (fun H locs hw => ?_)
  have hw : y_W g A [(h0, .inr (3, [.int 0, .int 0, .int 0, .int 0, .int 0, .int 0, .int 0, .int 0, .ref q47]))] _ ([o + 1]) (uI) s.heap H locs := hw
  obtain ⟨adf, eh0, hw⟩ := y_seal2 (N := 9) (o := o) hw ((by decide +kernel : ∀ o ∈ xpFL, x_kind (o) = (10 + 3, 9)) o ho) ((by decide +kernel : ∀ o ∈ xpFL, newK (o) ([o + 1]) = true) o ho) (by rw [fs_X3_init ho]; simp [ua, um])
  have hw : y_W g A [] adf (KF o) (uI) s.heap H locs := hw
  exact y_vret C hret hw eh0 dX3_init_12
set_option maxHeartbeats 4000000 in
set_option maxRecDepth 100000 in
theorem c_X3_init (l : Launch) (g : xG) {o : Nat} (ho : o ∈ xpFL) : CTRy l g yX3_init cX3_init 1 3 [.int 0, .int 0, .int 0, .int 0, .int 0, .int 0, .int 0, .int 0, .null] (o) (KF o) 1 60 1 40 [] := by
  intro h0 sz
  refine Met.ofW (cc := cX3_init) (maxL := 1) (ret := none) (by decide) rfl ?_
  intro p e s m args below meth c s₁ B hml hv
  obtain ⟨rfl, hpre⟩ := hv
  obtain ⟨C, hw, hret, hin, rfl⟩ := y_start (u := uI) (ad := fun _ => 0) B hml rfl hpre
  have hl := lv_entry [.ref h0] (n := 1) (Nat.le_of_ble_eq_true rfl)
  rw [lg_entry_eq]
  exact s_X3_init ho C hret hin hw hl
def KTx (o : Nat) : List Nat := [o, o + 1, o + 2, o + 3, o + 4, o + 5]
theorem fs_X8_init34 {g : xG} {ad : Nat → Nat} : x_fs (gK g ad []) (uzl 35) 34 8 = [.ref (ad (35)), .int 901, .ref (ad (36)), .ref (ad (37)), .ref (ad (38)), .ref (ad (39)), .int 0, .int 0, .int 0, .int 0, .long 0, .int 0, .int 0, .int 0, .int 0, .int 0] := rfl
set_option maxHeartbeats 4000000 in
set_option maxRecDepth 100000 in
theorem s_X8_init34 {h0 : Nat} (C : y_C p s m args meth c g A RX8 cX8_init 2) (hret : meth.sig.returnType = none) (hin : meth.name = "<init>") (hw : y_W g A [(h0, .inr (8, [.null, .int 0, .null, .null, .null, .null, .int 0, .int 0, .int 0, .int 0, .long 0, .int 0, .int 0, .int 0, .int 0, .int 0]))] ad [] (uzl 35) s.heap s.heap []) {ls : Array Slot} (hl : lv_has ls 2 [(0, .ref h0), (1, .int 900)]) : W p l e ({ frames := 7, cells := 5, slots := 3632, locals := 208 } : Room) s m args below meth c s.heap [] 0 0 (MQ below (va_Qv (fun ad => ad (34) = h0) (y_post g A (KTx 34)) A) args s 5 3632 A) (F0 m 0 ls []) := by
  have hx := C.1.1
  have hb := C.1.2.1
  have hown := C.1.2.2.2.1
  have hts := C.1.2.2.2.2.1
  refine lv_aload_n hx hb dX8_init_0 rfl (lv_at hl 0 rfl) ?_
  refine W.objInit hx hb hown (hts _ xw_129) (hts _ xw_11) (hts _ xw_12) rfl (hl.1.trans C.1.2.2.1.symm) rfl dX8_init_1 (Nat.le_of_ble_eq_true rfl) (Nat.le_of_ble_eq_true rfl) ?_
  refine W.eq (g2 := F0 m 4 ls []) rfl ?_
  refine lv_aload_n hx hb dX8_init_4 rfl (lv_at hl 0 rfl) ?_
  refine lv_bipush (v := 28) hx hb dX8_init_5 (by decide) ?_
  refine y_al (Ks' := [35]) (c' := 1) (n' := 28) C hw (35) (by decide +kernel : x_kind (35) = (1, 28)) (uzl_2 (Or.inr rfl)) (by decide +kernel : newK (35) ([]) = true) rfl (by decide +kernel) (by decide) ⟨Nat.le_of_ble_eq_true rfl, Nat.le_of_ble_eq_true rfl⟩ rfl rfl dX8_init_7 (fun q35 H hw => ?_)
  refine y_putF (j := 0) (v := .ref q35) C hw hin rfl inlX8 tyX8_ok nmX8 (by decide) xw_130 rfl rfl rfl rfl (by simp) dX8_init_9 (fun H locs hw => ?_)
  have hw : y_W g A [(h0, .inr (8, [.ref q35, .int 0, .null, .null, .null, .null, .int 0, .int 0, .int 0, .int 0, .long 0, .int 0, .int 0, .int 0, .int 0, .int 0]))] _ ([35]) (uzl 35) s.heap H locs := hw
  refine lv_aload_n hx hb dX8_init_12 rfl (lv_at hl 0 rfl) ?_
  refine lv_iconst (v := 0) hx hb dX8_init_13 (by decide) ?_
  refine lv_iload_n hx hb dX8_init_14 rfl (lv_at hl 1 rfl) ?_
  refine va_mmax hx hb (C.1.2.2.1.trans hl.1.symm) hown (hts _ xw_131) (hts _ xw_mathMaxStatic) (hts _ xw_mathInit) (hts _ xw_mathMaxCode) (Nat.le_of_ble_eq_true rfl) (Nat.le_of_ble_eq_true rfl) (Nat.le_of_ble_eq_true rfl) (Nat.le_of_ble_eq_true rfl) dX8_init_15 ?_
  refine lv_iconst (v := 1) hx hb dX8_init_18 (by decide) ?_
  refine lv_iadd hx hb dX8_init_19 ?_
  refine lv_topi (fun v19 ev19 => ?_)
  have ev19 : v19 = 901 := by rw [ev19]; decide
  subst ev19
  refine y_putF (j := 1) (v := .int 901) C hw hin rfl inlX8 tyX8_ok nmX8 (by decide) xw_135 rfl rfl rfl rfl (by simp) dX8_init_20 (fun H locs hw => ?_)
  have hw : y_W g A [(h0, .inr (8, [.ref q35, .int 901, .null, .null, .null, .null, .int 0, .int 0, .int 0, .int 0, .long 0, .int 0, .int 0, .int 0, .int 0, .int 0]))] _ ([35]) (uzl 35) s.heap H locs := hw
  refine lv_aload_n hx hb dX8_init_23 rfl (lv_at hl 0 rfl) ?_
  refine lv_aload_n hx hb dX8_init_24 rfl (lv_at hl 0 rfl) ?_
  refine y_get (j := 1) (v := .int 901) C hw rfl inlX8 (by decide) xw_135 rfl dX8_init_25 ?_
  refine y_ai (Ks' := [35] ++ [36]) (c' := 2) (n' := 929) C hw (36) (by decide +kernel : x_kind (36) = (0, 901)) (uI_1 (by decide +kernel : spI.contains (36) = false)) (by decide +kernel : newK (36) ([35]) = true) rfl (by decide +kernel) (by decide) ⟨Nat.le_of_ble_eq_true rfl, Nat.le_of_ble_eq_true rfl⟩ rfl rfl dX8_init_28 (fun q36 H hw => ?_)
  refine y_putF (j := 2) (v := .ref q36) C hw hin rfl inlX8 tyX8_ok nmX8 (by decide) xw_136 rfl rfl rfl rfl (by simp) dX8_init_30 (fun H locs hw => ?_)
  have hw : y_W g A [(h0, .inr (8, [.ref q35, .int 901, .ref q36, .null, .null, .null, .int 0, .int 0, .int 0, .int 0, .long 0, .int 0, .int 0, .int 0, .int 0, .int 0]))] _ ([35] ++ [36]) (uzl 35) s.heap H locs := hw
  refine lv_aload_n hx hb dX8_init_33 rfl (lv_at hl 0 rfl) ?_
  refine lv_aload_n hx hb dX8_init_34 rfl (lv_at hl 0 rfl) ?_
  refine y_get (j := 1) (v := .int 901) C hw rfl inlX8 (by decide) xw_135 rfl dX8_init_35 ?_
  refine y_ai (Ks' := [35] ++ [36] ++ [37]) (c' := 3) (n' := 1830) C hw (37) (by decide +kernel : x_kind (37) = (0, 901)) (uI_1 (by decide +kernel : spI.contains (37) = false)) (by decide +kernel : newK (37) ([35] ++ [36]) = true) rfl (by decide +kernel) (by decide) ⟨Nat.le_of_ble_eq_true rfl, Nat.le_of_ble_eq_true rfl⟩ rfl rfl dX8_init_38 (fun q37 H hw => ?_)
  refine y_putF (j := 3) (v := .ref q37) C hw hin rfl inlX8 tyX8_ok nmX8 (by decide) xw_137 rfl rfl rfl rfl (by simp) dX8_init_40 (fun H locs hw => ?_)
  have hw : y_W g A [(h0, .inr (8, [.ref q35, .int 901, .ref q36, .ref q37, .null, .null, .int 0, .int 0, .int 0, .int 0, .long 0, .int 0, .int 0, .int 0, .int 0, .int 0]))] _ ([35] ++ [36] ++ [37]) (uzl 35) s.heap H locs := hw
  refine lv_aload_n hx hb dX8_init_43 rfl (lv_at hl 0 rfl) ?_
  refine lv_aload_n hx hb dX8_init_44 rfl (lv_at hl 0 rfl) ?_
  refine y_get (j := 1) (v := .int 901) C hw rfl inlX8 (by decide) xw_135 rfl dX8_init_45 ?_
  refine y_al (Ks' := [35] ++ [36] ++ [37] ++ [38]) (c' := 4) (n' := 2731) C hw (38) (by decide +kernel : x_kind (38) = (1, 901)) (uzl_2 (Or.inl (by decide +kernel : spL.contains (38) = false))) (by decide +kernel : newK (38) ([35] ++ [36] ++ [37]) = true) rfl (by decide +kernel) (by decide) ⟨Nat.le_of_ble_eq_true rfl, Nat.le_of_ble_eq_true rfl⟩ rfl rfl dX8_init_48 (fun q38 H hw => ?_)
  refine y_putF (j := 4) (v := .ref q38) C hw hin rfl inlX8 tyX8_ok nmX8 (by decide) xw_138 rfl rfl rfl rfl (by simp) dX8_init_50 (fun H locs hw => ?_)
  have hw : y_W g A [(h0, .inr (8, [.ref q35, .int 901, .ref q36, .ref q37, .ref q38, .null, .int 0, .int 0, .int 0, .int 0, .long 0, .int 0, .int 0, .int 0, .int 0, .int 0]))] _ ([35] ++ [36] ++ [37] ++ [38]) (uzl 35) s.heap H locs := hw
  refine lv_aload_n hx hb dX8_init_53 rfl (lv_at hl 0 rfl) ?_
  refine lv_aload_n hx hb dX8_init_54 rfl (lv_at hl 0 rfl) ?_
  refine y_get (j := 1) (v := .int 901) C hw rfl inlX8 (by decide) xw_135 rfl dX8_init_55 ?_
  refine y_ai (Ks' := [35] ++ [36] ++ [37] ++ [38] ++ [39]) (c' := 5) (n' := 3632) C hw (39) (by decide +kernel : x_kind (39) = (0, 901)) (uI_1 (by decide +kernel : spI.contains (39) = false)) (by decide +kernel : newK (39) ([35] ++ [36] ++ [37] ++ [38]) = true) rfl (by decide +kernel) (by decide) ⟨Nat.le_of_ble_eq_true rfl, Nat.le_of_ble_eq_true rfl⟩ rfl rfl dX8_init_58 (fun q39 H hw => ?_)
  refine y_putF (j := 5) (v := .ref q39) C hw hin rfl inlX8 tyX8_ok nmX8 (by decide) xw_139 rfl rfl rfl rfl (by simp) dX8_init_60 (fun H locs hw => ?_)
  have hw : y_W g A [(h0, .inr (8, [.ref q35, .int 901, .ref q36, .ref q37, .ref q38, .ref q39, .int 0, .int 0, .int 0, .int 0, .long 0, .int 0, .int 0, .int 0, .int 0, .int 0]))] _ ([35] ++ [36] ++ [37] ++ [38] ++ [39]) (uzl 35) s.heap H locs := hw
  obtain ⟨adf, eh0, hw⟩ := y_seal2 (N := 16) (o := 34) hw (by decide +kernel : x_kind (34) = (10 + 8, 16)) (by decide +kernel : newK (34) ([35] ++ [36] ++ [37] ++ [38] ++ [39]) = true) (by rw [fs_X8_init34]; simp [ua, um])
  have hw : y_W g A [] adf (KTx 34) (uzl 35) s.heap H locs := hw
  refine lv_aload_n hx hb dX8_init_63 rfl (lv_at hl 0 rfl) ?_
  refine va_ldcS hx hb hown C.2.2.1.2.2.2.1 dX8_init_64 ?_
  refine lv_aload_n hx hb dX8_init_66 rfl (lv_at hl 0 rfl) ?_
  refine va_ldcS hx hb hown C.2.2.1.2.2.2.2 dX8_init_67 ?_
  refine lv_iconst (v := 0) hx hb dX8_init_69 (by decide) ?_
  refine y_calli hw (y_runV (ci := 8) C hw (m_X8_reserve l (y_xD (by decide +kernel : va_nd (KTx 34) = true) hw.2.1) (s1 := 0) ⟨by decide +kernel, (by decide +kernel : ∀ i, i < 6 → 34 + i ∈ KTx 34)⟩ (by decide) (k_reserve0)) (by decide +kernel : x_kind 34 = (18, 16)) (by decide +kernel : 34 ∈ KTx 34) eh0 rfl (x_gV xw_140 xw_141 xw_142 xw_122 xw_143) rfl rfl qX8_reserve ⟨Nat.le_of_ble_eq_true rfl, Nat.le_of_ble_eq_true rfl⟩ rfl hl.1 rfl (Nat.le_of_ble_eq_true rfl) dX8_init_70 ⟨Nat.le_of_ble_eq_true rfl, Nat.le_of_ble_eq_true rfl⟩) (fun r70 u70 H locs hw hu70 => ?_)
  obtain ⟨rfl, rfl⟩ := hu70
  refine y_calli hw (y_runV (ci := 8) C hw (m_X8_reserve l (y_xD (by decide +kernel : va_nd (KTx 34) = true) hw.2.1) (s1 := 1) ⟨by decide +kernel, (by decide +kernel : ∀ i, i < 6 → 34 + i ∈ KTx 34)⟩ (by decide) (k_reserve1 (by decide))) (by decide +kernel : x_kind 34 = (18, 16)) (by decide +kernel : 34 ∈ KTx 34) eh0 rfl (x_gV xw_140 xw_141 xw_142 xw_122 xw_143) rfl rfl qX8_reserve ⟨Nat.le_of_ble_eq_true rfl, Nat.le_of_ble_eq_true rfl⟩ rfl hl.1 rfl (Nat.le_of_ble_eq_true rfl) dX8_init_73 ⟨Nat.le_of_ble_eq_true rfl, Nat.le_of_ble_eq_true rfl⟩) (fun r73 u73 H locs hw hu73 => ?_)
  subst hu73
  refine lv_pop hx hb dX8_init_76 rfl ?_
  exact y_vret C hret hw eh0 dX8_init_77
set_option maxHeartbeats 4000000 in
set_option maxRecDepth 100000 in
theorem c_X8_init34 (l : Launch) (g : xG) : CTRy l g yX8_init cX8_init 2 8 [.null, .int 0, .null, .null, .null, .null, .int 0, .int 0, .int 0, .int 0, .long 0, .int 0, .int 0, .int 0, .int 0, .int 0] (34) (KTx 34) 5 3632 7 208 [.int 900] := by
  intro h0 sz
  refine Met.ofW (cc := cX8_init) (maxL := 2) (ret := none) (by decide) rfl ?_
  intro p e s m args below meth c s₁ B hml hv
  obtain ⟨rfl, hpre⟩ := hv
  obtain ⟨C, hw, hret, hin, rfl⟩ := y_start (u := uzl 35) (ad := fun _ => 0) B hml rfl hpre
  have hl := lv_entry [.ref h0, .int 900] (n := 2) (Nat.le_of_ble_eq_true rfl)
  rw [lg_entry_eq]
  exact s_X8_init34 C hret hin hw hl
theorem fs_X8_init40 {g : xG} {ad : Nat → Nat} : x_fs (gK g ad []) (uzl 41) 40 8 = [.ref (ad (41)), .int 301, .ref (ad (42)), .ref (ad (43)), .ref (ad (44)), .ref (ad (45)), .int 0, .int 0, .int 0, .int 0, .long 0, .int 0, .int 0, .int 0, .int 0, .int 0] := rfl
set_option maxHeartbeats 4000000 in
set_option maxRecDepth 100000 in
theorem s_X8_init40 {h0 : Nat} (C : y_C p s m args meth c g A RX8 cX8_init 2) (hret : meth.sig.returnType = none) (hin : meth.name = "<init>") (hw : y_W g A [(h0, .inr (8, [.null, .int 0, .null, .null, .null, .null, .int 0, .int 0, .int 0, .int 0, .long 0, .int 0, .int 0, .int 0, .int 0, .int 0]))] ad [] (uzl 41) s.heap s.heap []) {ls : Array Slot} (hl : lv_has ls 2 [(0, .ref h0), (1, .int 300)]) : W p l e ({ frames := 7, cells := 5, slots := 1232, locals := 208 } : Room) s m args below meth c s.heap [] 0 0 (MQ below (va_Qv (fun ad => ad (40) = h0) (y_post g A (KTx 40)) A) args s 5 1232 A) (F0 m 0 ls []) := by
  have hx := C.1.1
  have hb := C.1.2.1
  have hown := C.1.2.2.2.1
  have hts := C.1.2.2.2.2.1
  refine lv_aload_n hx hb dX8_init_0 rfl (lv_at hl 0 rfl) ?_
  refine W.objInit hx hb hown (hts _ xw_129) (hts _ xw_11) (hts _ xw_12) rfl (hl.1.trans C.1.2.2.1.symm) rfl dX8_init_1 (Nat.le_of_ble_eq_true rfl) (Nat.le_of_ble_eq_true rfl) ?_
  refine W.eq (g2 := F0 m 4 ls []) rfl ?_
  refine lv_aload_n hx hb dX8_init_4 rfl (lv_at hl 0 rfl) ?_
  refine lv_bipush (v := 28) hx hb dX8_init_5 (by decide) ?_
  refine y_al (Ks' := [41]) (c' := 1) (n' := 28) C hw (41) (by decide +kernel : x_kind (41) = (1, 28)) (uzl_2 (Or.inr rfl)) (by decide +kernel : newK (41) ([]) = true) rfl (by decide +kernel) (by decide) ⟨Nat.le_of_ble_eq_true rfl, Nat.le_of_ble_eq_true rfl⟩ rfl rfl dX8_init_7 (fun q41 H hw => ?_)
  refine y_putF (j := 0) (v := .ref q41) C hw hin rfl inlX8 tyX8_ok nmX8 (by decide) xw_130 rfl rfl rfl rfl (by simp) dX8_init_9 (fun H locs hw => ?_)
  have hw : y_W g A [(h0, .inr (8, [.ref q41, .int 0, .null, .null, .null, .null, .int 0, .int 0, .int 0, .int 0, .long 0, .int 0, .int 0, .int 0, .int 0, .int 0]))] _ ([41]) (uzl 41) s.heap H locs := hw
  refine lv_aload_n hx hb dX8_init_12 rfl (lv_at hl 0 rfl) ?_
  refine lv_iconst (v := 0) hx hb dX8_init_13 (by decide) ?_
  refine lv_iload_n hx hb dX8_init_14 rfl (lv_at hl 1 rfl) ?_
  refine va_mmax hx hb (C.1.2.2.1.trans hl.1.symm) hown (hts _ xw_131) (hts _ xw_mathMaxStatic) (hts _ xw_mathInit) (hts _ xw_mathMaxCode) (Nat.le_of_ble_eq_true rfl) (Nat.le_of_ble_eq_true rfl) (Nat.le_of_ble_eq_true rfl) (Nat.le_of_ble_eq_true rfl) dX8_init_15 ?_
  refine lv_iconst (v := 1) hx hb dX8_init_18 (by decide) ?_
  refine lv_iadd hx hb dX8_init_19 ?_
  refine lv_topi (fun v19 ev19 => ?_)
  have ev19 : v19 = 301 := by rw [ev19]; decide
  subst ev19
  refine y_putF (j := 1) (v := .int 301) C hw hin rfl inlX8 tyX8_ok nmX8 (by decide) xw_135 rfl rfl rfl rfl (by simp) dX8_init_20 (fun H locs hw => ?_)
  have hw : y_W g A [(h0, .inr (8, [.ref q41, .int 301, .null, .null, .null, .null, .int 0, .int 0, .int 0, .int 0, .long 0, .int 0, .int 0, .int 0, .int 0, .int 0]))] _ ([41]) (uzl 41) s.heap H locs := hw
  refine lv_aload_n hx hb dX8_init_23 rfl (lv_at hl 0 rfl) ?_
  refine lv_aload_n hx hb dX8_init_24 rfl (lv_at hl 0 rfl) ?_
  refine y_get (j := 1) (v := .int 301) C hw rfl inlX8 (by decide) xw_135 rfl dX8_init_25 ?_
  refine y_ai (Ks' := [41] ++ [42]) (c' := 2) (n' := 329) C hw (42) (by decide +kernel : x_kind (42) = (0, 301)) (uI_1 (by decide +kernel : spI.contains (42) = false)) (by decide +kernel : newK (42) ([41]) = true) rfl (by decide +kernel) (by decide) ⟨Nat.le_of_ble_eq_true rfl, Nat.le_of_ble_eq_true rfl⟩ rfl rfl dX8_init_28 (fun q42 H hw => ?_)
  refine y_putF (j := 2) (v := .ref q42) C hw hin rfl inlX8 tyX8_ok nmX8 (by decide) xw_136 rfl rfl rfl rfl (by simp) dX8_init_30 (fun H locs hw => ?_)
  have hw : y_W g A [(h0, .inr (8, [.ref q41, .int 301, .ref q42, .null, .null, .null, .int 0, .int 0, .int 0, .int 0, .long 0, .int 0, .int 0, .int 0, .int 0, .int 0]))] _ ([41] ++ [42]) (uzl 41) s.heap H locs := hw
  refine lv_aload_n hx hb dX8_init_33 rfl (lv_at hl 0 rfl) ?_
  refine lv_aload_n hx hb dX8_init_34 rfl (lv_at hl 0 rfl) ?_
  refine y_get (j := 1) (v := .int 301) C hw rfl inlX8 (by decide) xw_135 rfl dX8_init_35 ?_
  refine y_ai (Ks' := [41] ++ [42] ++ [43]) (c' := 3) (n' := 630) C hw (43) (by decide +kernel : x_kind (43) = (0, 301)) (uI_1 (by decide +kernel : spI.contains (43) = false)) (by decide +kernel : newK (43) ([41] ++ [42]) = true) rfl (by decide +kernel) (by decide) ⟨Nat.le_of_ble_eq_true rfl, Nat.le_of_ble_eq_true rfl⟩ rfl rfl dX8_init_38 (fun q43 H hw => ?_)
  refine y_putF (j := 3) (v := .ref q43) C hw hin rfl inlX8 tyX8_ok nmX8 (by decide) xw_137 rfl rfl rfl rfl (by simp) dX8_init_40 (fun H locs hw => ?_)
  have hw : y_W g A [(h0, .inr (8, [.ref q41, .int 301, .ref q42, .ref q43, .null, .null, .int 0, .int 0, .int 0, .int 0, .long 0, .int 0, .int 0, .int 0, .int 0, .int 0]))] _ ([41] ++ [42] ++ [43]) (uzl 41) s.heap H locs := hw
  refine lv_aload_n hx hb dX8_init_43 rfl (lv_at hl 0 rfl) ?_
  refine lv_aload_n hx hb dX8_init_44 rfl (lv_at hl 0 rfl) ?_
  refine y_get (j := 1) (v := .int 301) C hw rfl inlX8 (by decide) xw_135 rfl dX8_init_45 ?_
  refine y_al (Ks' := [41] ++ [42] ++ [43] ++ [44]) (c' := 4) (n' := 931) C hw (44) (by decide +kernel : x_kind (44) = (1, 301)) (uzl_2 (Or.inl (by decide +kernel : spL.contains (44) = false))) (by decide +kernel : newK (44) ([41] ++ [42] ++ [43]) = true) rfl (by decide +kernel) (by decide) ⟨Nat.le_of_ble_eq_true rfl, Nat.le_of_ble_eq_true rfl⟩ rfl rfl dX8_init_48 (fun q44 H hw => ?_)
  refine y_putF (j := 4) (v := .ref q44) C hw hin rfl inlX8 tyX8_ok nmX8 (by decide) xw_138 rfl rfl rfl rfl (by simp) dX8_init_50 (fun H locs hw => ?_)
  have hw : y_W g A [(h0, .inr (8, [.ref q41, .int 301, .ref q42, .ref q43, .ref q44, .null, .int 0, .int 0, .int 0, .int 0, .long 0, .int 0, .int 0, .int 0, .int 0, .int 0]))] _ ([41] ++ [42] ++ [43] ++ [44]) (uzl 41) s.heap H locs := hw
  refine lv_aload_n hx hb dX8_init_53 rfl (lv_at hl 0 rfl) ?_
  refine lv_aload_n hx hb dX8_init_54 rfl (lv_at hl 0 rfl) ?_
  refine y_get (j := 1) (v := .int 301) C hw rfl inlX8 (by decide) xw_135 rfl dX8_init_55 ?_
  refine y_ai (Ks' := [41] ++ [42] ++ [43] ++ [44] ++ [45]) (c' := 5) (n' := 1232) C hw (45) (by decide +kernel : x_kind (45) = (0, 301)) (uI_1 (by decide +kernel : spI.contains (45) = false)) (by decide +kernel : newK (45) ([41] ++ [42] ++ [43] ++ [44]) = true) rfl (by decide +kernel) (by decide) ⟨Nat.le_of_ble_eq_true rfl, Nat.le_of_ble_eq_true rfl⟩ rfl rfl dX8_init_58 (fun q45 H hw => ?_)
  refine y_putF (j := 5) (v := .ref q45) C hw hin rfl inlX8 tyX8_ok nmX8 (by decide) xw_139 rfl rfl rfl rfl (by simp) dX8_init_60 (fun H locs hw => ?_)
  have hw : y_W g A [(h0, .inr (8, [.ref q41, .int 301, .ref q42, .ref q43, .ref q44, .ref q45, .int 0, .int 0, .int 0, .int 0, .long 0, .int 0, .int 0, .int 0, .int 0, .int 0]))] _ ([41] ++ [42] ++ [43] ++ [44] ++ [45]) (uzl 41) s.heap H locs := hw
  obtain ⟨adf, eh0, hw⟩ := y_seal2 (N := 16) (o := 40) hw (by decide +kernel : x_kind (40) = (10 + 8, 16)) (by decide +kernel : newK (40) ([41] ++ [42] ++ [43] ++ [44] ++ [45]) = true) (by rw [fs_X8_init40]; simp [ua, um])
  have hw : y_W g A [] adf (KTx 40) (uzl 41) s.heap H locs := hw
  refine lv_aload_n hx hb dX8_init_63 rfl (lv_at hl 0 rfl) ?_
  refine va_ldcS hx hb hown C.2.2.1.2.2.2.1 dX8_init_64 ?_
  refine lv_aload_n hx hb dX8_init_66 rfl (lv_at hl 0 rfl) ?_
  refine va_ldcS hx hb hown C.2.2.1.2.2.2.2 dX8_init_67 ?_
  refine lv_iconst (v := 0) hx hb dX8_init_69 (by decide) ?_
  refine y_calli hw (y_runV (ci := 8) C hw (m_X8_reserve l (y_xD (by decide +kernel : va_nd (KTx 40) = true) hw.2.1) (s1 := 0) ⟨by decide +kernel, (by decide +kernel : ∀ i, i < 6 → 40 + i ∈ KTx 40)⟩ (by decide) (k_reserve0)) (by decide +kernel : x_kind 40 = (18, 16)) (by decide +kernel : 40 ∈ KTx 40) eh0 rfl (x_gV xw_140 xw_141 xw_142 xw_122 xw_143) rfl rfl qX8_reserve ⟨Nat.le_of_ble_eq_true rfl, Nat.le_of_ble_eq_true rfl⟩ rfl hl.1 rfl (Nat.le_of_ble_eq_true rfl) dX8_init_70 ⟨Nat.le_of_ble_eq_true rfl, Nat.le_of_ble_eq_true rfl⟩) (fun r70 u70 H locs hw hu70 => ?_)
  obtain ⟨rfl, rfl⟩ := hu70
  refine y_calli hw (y_runV (ci := 8) C hw (m_X8_reserve l (y_xD (by decide +kernel : va_nd (KTx 40) = true) hw.2.1) (s1 := 1) ⟨by decide +kernel, (by decide +kernel : ∀ i, i < 6 → 40 + i ∈ KTx 40)⟩ (by decide) (k_reserve1 (by decide))) (by decide +kernel : x_kind 40 = (18, 16)) (by decide +kernel : 40 ∈ KTx 40) eh0 rfl (x_gV xw_140 xw_141 xw_142 xw_122 xw_143) rfl rfl qX8_reserve ⟨Nat.le_of_ble_eq_true rfl, Nat.le_of_ble_eq_true rfl⟩ rfl hl.1 rfl (Nat.le_of_ble_eq_true rfl) dX8_init_73 ⟨Nat.le_of_ble_eq_true rfl, Nat.le_of_ble_eq_true rfl⟩) (fun r73 u73 H locs hw hu73 => ?_)
  subst hu73
  refine lv_pop hx hb dX8_init_76 rfl ?_
  exact y_vret C hret hw eh0 dX8_init_77
set_option maxHeartbeats 4000000 in
set_option maxRecDepth 100000 in
theorem c_X8_init40 (l : Launch) (g : xG) : CTRy l g yX8_init cX8_init 2 8 [.null, .int 0, .null, .null, .null, .null, .int 0, .int 0, .int 0, .int 0, .long 0, .int 0, .int 0, .int 0, .int 0, .int 0] (40) (KTx 40) 5 1232 7 208 [.int 300] := by
  intro h0 sz
  refine Met.ofW (cc := cX8_init) (maxL := 2) (ret := none) (by decide) rfl ?_
  intro p e s m args below meth c s₁ B hml hv
  obtain ⟨rfl, hpre⟩ := hv
  obtain ⟨C, hw, hret, hin, rfl⟩ := y_start (u := uzl 41) (ad := fun _ => 0) B hml rfl hpre
  have hl := lv_entry [.ref h0, .int 300] (n := 2) (Nat.le_of_ble_eq_true rfl)
  rw [lg_entry_eq]
  exact s_X8_init40 C hret hin hw hl
end CTORS
