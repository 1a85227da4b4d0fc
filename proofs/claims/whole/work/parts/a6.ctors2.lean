/-! ===== constructors that make the others ===== -/
section CTORS2
variable {p : Program} {l : Launch} {e : Env} {s : State} {m : MethodId} {args : Array Value} {below : List Frame} {meth : Method} {c : Code} {g : xG} {A : Nat → Prop} {ad : Nat → Nat}
def K2 : List Nat := 31 :: (KTx 34 ++ KL 164)
theorem fs_X2_init {g : xG} {ad : Nat → Nat} : x_fs (gK g ad []) (uI) 31 2 = [.ref (ad (34)), .ref (ad (164))] := rfl
set_option maxHeartbeats 4000000 in
set_option maxRecDepth 100000 in
theorem s_X2_init {h0 : Nat} (C : y_C p s m args meth c g A RX2 cX2_init 1) (hret : meth.sig.returnType = none) (hin : meth.name = "<init>") (hw : y_W g A [(h0, .inr (2, [.null, .null]))] ad [] (uI) s.heap s.heap []) {ls : Array Slot} (hl : lv_has ls 1 [(0, .ref h0)]) : W p l e ({ frames := 8, cells := 33, slots := 3879, locals := 229 } : Room) s m args below meth c s.heap [] 0 0 (MQ below (va_Qv (fun ad => ad (31) = h0) (y_post g A (K2)) A) args s 33 3879 A) (F0 m 0 ls []) := by
  have hx := C.1.1
  have hb := C.1.2.1
  have hown := C.1.2.2.2.1
  have hts := C.1.2.2.2.2.1
  refine lv_aload_n hx hb dX2_init_0 rfl (lv_at hl 0 rfl) ?_
  refine W.objInit hx hb hown (hts _ xw_119) (hts _ xw_11) (hts _ xw_12) rfl (hl.1.trans C.1.2.2.1.symm) rfl dX2_init_1 (Nat.le_of_ble_eq_true rfl) (Nat.le_of_ble_eq_true rfl) ?_
  refine W.eq (g2 := F0 m 4 ls []) rfl ?_
  refine lv_aload_n hx hb dX2_init_4 rfl (lv_at hl 0 rfl) ?_
  refine y_newo (ci := 8) (fs := [.null, .int 0, .null, .null, .null, .null, .int 0, .int 0, .int 0, .int 0, .long 0, .int 0, .int 0, .int 0, .int 0, .int 0]) (c' := 1) (n' := 16) C hw rfl inlX8 tyX8_ok xw_120 xw_121 xw_122 rfl ⟨Nat.le_of_ble_eq_true rfl, Nat.le_of_ble_eq_true rfl⟩ rfl rfl dX2_init_5 (fun q34 H hP hD hS => ?_)
  refine lv_dup hx hb dX2_init_8 rfl ?_
  refine lv_sipush (v := 900) hx hb dX2_init_9 (by decide) ?_
  refine y_mkI (As := [.int 900]) (n := 1) (Ks' := KTx 34) (c' := 6) (n' := 3648) (rest := [.ref q34, .ref h0]) C (c_X8_init34 l g) xw_126 xw_127 xw_122 xw_128 rfl ⟨by decide, by decide, by decide +kernel⟩ ⟨Nat.le_of_ble_eq_true rfl, Nat.le_of_ble_eq_true rfl⟩ rfl hl.1 rfl (Nat.le_of_ble_eq_true rfl) dX2_init_12 ⟨Nat.le_of_ble_eq_true rfl, Nat.le_of_ble_eq_true rfl⟩ hP hD hS (by decide +kernel : aprt ([]) (KTx 34) = true) (fun _ _ => ⟨rfl, rfl⟩) rfl rfl rfl (fun ad34 H locs ea34 hw => ?_)
  refine y_putF (j := 0) (v := .ref q34) C hw hin rfl inlX2 tyX2_ok nmX2 (by decide) xw_123 rfl rfl rfl rfl (by simp) dX2_init_15 (fun H locs hw => ?_)
  have hw : y_W g A [(h0, .inr (2, [.ref q34, .null]))] _ (KTx 34) (uI) s.heap H locs := hw
  refine lv_aload_n hx hb dX2_init_18 rfl (lv_at hl 0 rfl) ?_
  refine y_newo (ci := 1) (fs := [.null, .null, .int 0, .null, .null, .null, .null, .null, .int 0, .int 0, .null, .null, .null, .null, .null]) (c' := 7) (n' := 3663) C hw rfl inlX1 tyX1_ok xw_124 xw_14 xw_15 rfl ⟨Nat.le_of_ble_eq_true rfl, Nat.le_of_ble_eq_true rfl⟩ rfl rfl dX2_init_19 (fun q164 H hP hD hS => ?_)
  refine lv_dup hx hb dX2_init_22 rfl ?_
  refine y_mkI (As := []) (n := 0) (Ks' := KTx 34 ++ KL 164) (c' := 33) (n' := 3879) (rest := [.ref q164, .ref h0]) C (c_X1_init l g (by decide +kernel : (164 : Nat) ∈ xpLL)) xw_196 xw_52 xw_15 xw_53 rfl ⟨by decide, by decide, by decide +kernel⟩ ⟨Nat.le_of_ble_eq_true rfl, Nat.le_of_ble_eq_true rfl⟩ rfl hl.1 rfl (Nat.le_of_ble_eq_true rfl) dX2_init_23 ⟨Nat.le_of_ble_eq_true rfl, Nat.le_of_ble_eq_true rfl⟩ hP hD hS (by decide +kernel : aprt (KTx 34) (KL 164) = true) (fun _ _ => ⟨rfl, rfl⟩) rfl rfl rfl (fun ad164 H locs ea164 hw => ?_)
  refine y_putF (j := 1) (v := .ref q164) C hw hin rfl inlX2 tyX2_ok nmX2 (by decide) xw_125 rfl rfl rfl rfl (by simp) dX2_init_26 (fun H locs hw => ?_)
  have hw : y_W g A [(h0, .inr (2, [.ref q34, .ref q164]))] _ (KTx 34 ++ KL 164) (uI) s.heap H locs := hw
  obtain ⟨adf, eh0, hw⟩ := y_seal2 (N := 2) (o := 31) hw (by decide +kernel : x_kind (31) = (10 + 2, 2)) (by decide +kernel : newK (31) (KTx 34 ++ KL 164) = true) (by rw [fs_X2_init]; simp [ua, um, KD, KL, KR, KTx, ea34, ea164])
  have hw : y_W g A [] adf (K2) (uI) s.heap H locs := hw
  exact y_vret C hret hw eh0 dX2_init_29
set_option maxHeartbeats 4000000 in
set_option maxRecDepth 100000 in
theorem c_X2_init (l : Launch) (g : xG) : CTRy l g yX2_init cX2_init 1 2 [.null, .null] (31) (K2) 33 3879 8 229 [] := by
  intro h0 sz
  refine Met.ofW (cc := cX2_init) (maxL := 1) (ret := none) (by decide) rfl ?_
  intro p e s m args below meth c s₁ B hml hv
  obtain ⟨rfl, hpre⟩ := hv
  obtain ⟨C, hw, hret, hin, rfl⟩ := y_start (u := uI) (ad := fun _ => 0) B hml rfl hpre
  have hl := lv_entry [.ref h0] (n := 1) (Nat.le_of_ble_eq_true rfl)
  rw [lg_entry_eq]
  exact s_X2_init C hret hin hw hl
def K5 : List Nat := 32 :: (KTx 40 ++ KN 63 ++ [33])
theorem fs_X5_init {g : xG} {ad : Nat → Nat} : x_fs (gK g ad []) (uI) 32 5 = [.ref (ad (40)), .ref (ad (63)), .ref (ad (33)), .int 0] := rfl
set_option maxHeartbeats 4000000 in
set_option maxRecDepth 100000 in
theorem s_X5_init {h0 : Nat} (C : y_C p s m args meth c g A RX5 cX5_init 1) (hret : meth.sig.returnType = none) (hin : meth.name = "<init>") (hw : y_W g A [(h0, .inr (5, [.null, .null, .null, .int 0]))] ad [] (uI) s.heap s.heap []) {ls : Array Slot} (hl : lv_has ls 1 [(0, .ref h0)]) : W p l e ({ frames := 8, cells := 12, slots := 1498, locals := 229 } : Room) s m args below meth c s.heap [] 0 0 (MQ below (va_Qv (fun ad => ad (32) = h0) (y_post g A (K5)) A) args s 12 1498 A) (F0 m 0 ls []) := by
  have hx := C.1.1
  have hb := C.1.2.1
  have hown := C.1.2.2.2.1
  have hts := C.1.2.2.2.2.1
  refine lv_aload_n hx hb dX5_init_0 rfl (lv_at hl 0 rfl) ?_
  refine W.objInit hx hb hown (hts _ xw_199) (hts _ xw_11) (hts _ xw_12) rfl (hl.1.trans C.1.2.2.1.symm) rfl dX5_init_1 (Nat.le_of_ble_eq_true rfl) (Nat.le_of_ble_eq_true rfl) ?_
  refine W.eq (g2 := F0 m 4 ls []) rfl ?_
  refine lv_aload_n hx hb dX5_init_4 rfl (lv_at hl 0 rfl) ?_
  refine y_newo (ci := 8) (fs := [.null, .int 0, .null, .null, .null, .null, .int 0, .int 0, .int 0, .int 0, .long 0, .int 0, .int 0, .int 0, .int 0, .int 0]) (c' := 1) (n' := 16) C hw rfl inlX8 tyX8_ok xw_200 xw_121 xw_122 rfl ⟨Nat.le_of_ble_eq_true rfl, Nat.le_of_ble_eq_true rfl⟩ rfl rfl dX5_init_5 (fun q40 H hP hD hS => ?_)
  refine lv_dup hx hb dX5_init_8 rfl ?_
  refine lv_sipush (v := 300) hx hb dX5_init_9 (by decide) ?_
  refine y_mkI (As := [.int 300]) (n := 1) (Ks' := KTx 40) (c' := 6) (n' := 1248) (rest := [.ref q40, .ref h0]) C (c_X8_init40 l g) xw_205 xw_127 xw_122 xw_128 rfl ⟨by decide, by decide, by decide +kernel⟩ ⟨Nat.le_of_ble_eq_true rfl, Nat.le_of_ble_eq_true rfl⟩ rfl hl.1 rfl (Nat.le_of_ble_eq_true rfl) dX5_init_12 ⟨Nat.le_of_ble_eq_true rfl, Nat.le_of_ble_eq_true rfl⟩ hP hD hS (by decide +kernel : aprt ([]) (KTx 40) = true) (fun _ _ => ⟨rfl, rfl⟩) rfl rfl rfl (fun ad40 H locs ea40 hw => ?_)
  refine y_putF (j := 0) (v := .ref q40) C hw hin rfl inlX5 tyX5_ok nmX5 (by decide) xw_201 rfl rfl rfl rfl (by simp) dX5_init_15 (fun H locs hw => ?_)
  have hw : y_W g A [(h0, .inr (5, [.ref q40, .null, .null, .int 0]))] _ (KTx 40) (uI) s.heap H locs := hw
  refine lv_aload_n hx hb dX5_init_18 rfl (lv_at hl 0 rfl) ?_
  refine y_newo (ci := 4) (fs := [.int 0, .int 0, .int 0, .null, .null, .null, .null]) (c' := 7) (n' := 1255) C hw rfl inlX4 tyX4_ok xw_202 xw_18 xw_19 rfl ⟨Nat.le_of_ble_eq_true rfl, Nat.le_of_ble_eq_true rfl⟩ rfl rfl dX5_init_19 (fun q63 H hP hD hS => ?_)
  refine lv_dup hx hb dX5_init_22 rfl ?_
  refine y_mkN (As := []) (n := 0) (Ks' := KTx 40 ++ KN 63) (c' := 11) (n' := 1495) (rest := [.ref q63, .ref h0]) C (c_X4_init l g (by decide +kernel : (63 : Nat) ∈ xpNL)) (List.mem_of_getElem? (i := 6) rfl) xw_100 xw_19 xw_101 rfl ⟨by decide, by decide, by decide +kernel⟩ ⟨Nat.le_of_ble_eq_true rfl, Nat.le_of_ble_eq_true rfl⟩ rfl hl.1 rfl (Nat.le_of_ble_eq_true rfl) dX5_init_23 ⟨Nat.le_of_ble_eq_true rfl, Nat.le_of_ble_eq_true rfl⟩ hP hD hS (by decide +kernel : aprt (KTx 40) (KN 63) = true) (fun _ _ => ⟨rfl, rfl⟩) rfl rfl rfl (fun ad63 H locs ea63 hw => ?_)
  refine y_putF (j := 1) (v := .ref q63) C hw hin rfl inlX5 tyX5_ok nmX5 (by decide) xw_203 rfl rfl rfl rfl (by simp) dX5_init_26 (fun H locs hw => ?_)
  have hw : y_W g A [(h0, .inr (5, [.ref q40, .ref q63, .null, .int 0]))] _ (KTx 40 ++ KN 63) (uI) s.heap H locs := hw
  refine lv_aload_n hx hb dX5_init_29 rfl (lv_at hl 0 rfl) ?_
  refine lv_iconst (v := 3) hx hb dX5_init_30 (by decide) ?_
  refine y_ai (Ks' := KTx 40 ++ KN 63 ++ [33]) (c' := 12) (n' := 1498) C hw (33) (by decide +kernel : x_kind (33) = (0, 3)) (uI_1 (by decide +kernel : spI.contains (33) = false)) (by decide +kernel : newK (33) (KTx 40 ++ KN 63) = true) rfl (by decide +kernel) (by decide) ⟨Nat.le_of_ble_eq_true rfl, Nat.le_of_ble_eq_true rfl⟩ rfl rfl dX5_init_31 (fun q33 H hw => ?_)
  refine y_putF (j := 2) (v := .ref q33) C hw hin rfl inlX5 tyX5_ok nmX5 (by decide) xw_204 rfl rfl rfl rfl (by simp) dX5_init_33 (fun H locs hw => ?_)
  have hw : y_W g A [(h0, .inr (5, [.ref q40, .ref q63, .ref q33, .int 0]))] _ (KTx 40 ++ KN 63 ++ [33]) (uI) s.heap H locs := hw
  obtain ⟨adf, eh0, hw⟩ := y_seal2 (N := 4) (o := 32) hw (by decide +kernel : x_kind (32) = (10 + 5, 4)) (by decide +kernel : newK (32) (KTx 40 ++ KN 63 ++ [33]) = true) (by rw [fs_X5_init]; simp [ua, um, KN, KTx, ea40, ea63])
  have hw : y_W g A [] adf (K5) (uI) s.heap H locs := hw
  exact y_vret C hret hw eh0 dX5_init_36
set_option maxHeartbeats 4000000 in
set_option maxRecDepth 100000 in
theorem c_X5_init (l : Launch) (g : xG) : CTRy l g yX5_init cX5_init 1 5 [.null, .null, .null, .int 0] (32) (K5) 12 1498 8 229 [] := by
  intro h0 sz
  refine Met.ofW (cc := cX5_init) (maxL := 1) (ret := none) (by decide) rfl ?_
  intro p e s m args below meth c s₁ B hml hv
  obtain ⟨rfl, hpre⟩ := hv
  obtain ⟨C, hw, hret, hin, rfl⟩ := y_start (u := uI) (ad := fun _ => 0) B hml rfl hpre
  have hl := lv_entry [.ref h0] (n := 1) (Nat.le_of_ble_eq_true rfl)
  rw [lg_entry_eq]
  exact s_X5_init C hret hin hw hl
def K6 : List Nat := 5 :: (KL 137 ++ [6, 7, 8, 9, 10, 11, 12, 13, 14, 15, 16] ++ [17, 18, 19, 20, 21, 22, 23, 24, 25, 26, 27, 28, 29] ++ [30])
theorem fs_X6_init {g : xG} {ad : Nat → Nat} : x_fs (gK g ad []) (uI) 5 6 = [.ref (ad (137)), .ref (ad (6)), .ref (ad (17)), .ref (ad (30)), .int 0, .int 0, .int 0] := rfl
set_option maxHeartbeats 4000000 in
set_option maxRecDepth 100000 in
theorem s_X6_init {h0 : Nat} (C : y_C p s m args meth c g A RX6 cX6_init 1) (hret : meth.sig.returnType = none) (hin : meth.name = "<init>") (hw : y_W g A [(h0, .inr (6, [.null, .null, .null, .null, .int 0, .int 0, .int 0]))] ad [] (uI) s.heap s.heap []) {ls : Array Slot} (hl : lv_has ls 1 [(0, .ref h0)]) : W p l e ({ frames := 3, cells := 52, slots := 419, locals := 80 } : Room) s m args below meth c s.heap [] 0 0 (MQ below (va_Qv (fun ad => ad (5) = h0) (y_post g A (K6)) A) args s 52 419 A) (F0 m 0 ls []) := by
  have hx := C.1.1
  have hb := C.1.2.1
  have hown := C.1.2.2.2.1
  have hts := C.1.2.2.2.2.1
  refine lv_aload_n hx hb dX6_init_0 rfl (lv_at hl 0 rfl) ?_
  refine W.objInit hx hb hown (hts _ xw_109) (hts _ xw_11) (hts _ xw_12) rfl (hl.1.trans C.1.2.2.1.symm) rfl dX6_init_1 (Nat.le_of_ble_eq_true rfl) (Nat.le_of_ble_eq_true rfl) ?_
  refine W.eq (g2 := F0 m 4 ls []) rfl ?_
  refine lv_aload_n hx hb dX6_init_4 rfl (lv_at hl 0 rfl) ?_
  refine y_newo (ci := 1) (fs := [.null, .null, .int 0, .null, .null, .null, .null, .null, .int 0, .int 0, .null, .null, .null, .null, .null]) (c' := 1) (n' := 15) C hw rfl inlX1 tyX1_ok xw_110 xw_14 xw_15 rfl ⟨Nat.le_of_ble_eq_true rfl, Nat.le_of_ble_eq_true rfl⟩ rfl rfl dX6_init_5 (fun q137 H hP hD hS => ?_)
  refine lv_dup hx hb dX6_init_8 rfl ?_
  refine y_mkI (As := []) (n := 0) (Ks' := KL 137) (c' := 27) (n' := 231) (rest := [.ref q137, .ref h0]) C (c_X1_init l g (by decide +kernel : (137 : Nat) ∈ xpLL)) xw_116 xw_52 xw_15 xw_53 rfl ⟨by decide, by decide, by decide +kernel⟩ ⟨Nat.le_of_ble_eq_true rfl, Nat.le_of_ble_eq_true rfl⟩ rfl hl.1 rfl (Nat.le_of_ble_eq_true rfl) dX6_init_9 ⟨Nat.le_of_ble_eq_true rfl, Nat.le_of_ble_eq_true rfl⟩ hP hD hS (by decide +kernel : aprt ([]) (KL 137) = true) (fun _ _ => ⟨rfl, rfl⟩) rfl rfl rfl (fun ad137 H locs ea137 hw => ?_)
  refine y_putF (j := 0) (v := .ref q137) C hw hin rfl inlX6 tyX6_ok nmX6 (by decide) xw_111 rfl rfl rfl rfl (by simp) dX6_init_12 (fun H locs hw => ?_)
  have hw : y_W g A [(h0, .inr (6, [.ref q137, .null, .null, .null, .int 0, .int 0, .int 0]))] _ (KL 137) (uI) s.heap H locs := hw
  refine lv_aload_n hx hb dX6_init_15 rfl (lv_at hl 0 rfl) ?_
  refine lv_bipush (v := 10) hx hb dX6_init_16 (by decide) ?_
  refine lv_bipush (v := 7) hx hb dX6_init_18 (by decide) ?_
  refine y_mna (k := 6) (N := 10) (Ks1 := [6, 7, 8, 9, 10, 11, 12, 13, 14, 15, 16]) (Ks' := KL 137 ++ [6, 7, 8, 9, 10, 11, 12, 13, 14, 15, 16]) (c' := 38) (n' := 311) C hw xw_112 (by decide +kernel) (by decide +kernel) (by decide +kernel) (by decide +kernel) (fun i hi => uI_1 ((by decide +kernel : ∀ i, i < 10 → spI.contains (6 + 1 + i) = false) i hi)) (by decide +kernel) rfl (by decide +kernel) (by decide +kernel) (by decide) rfl rfl ⟨Nat.le_of_ble_eq_true rfl, Nat.le_of_ble_eq_true rfl⟩ dX6_init_20 (fun ad6 q6 H ea6 hw => ?_)
  refine y_putF (j := 1) (v := .ref q6) C hw hin rfl inlX6 tyX6_ok nmX6 (by decide) xw_113 rfl rfl rfl rfl (by simp) dX6_init_24 (fun H locs hw => ?_)
  have hw : y_W g A [(h0, .inr (6, [.ref q137, .ref q6, .null, .null, .int 0, .int 0, .int 0]))] _ (KL 137 ++ [6, 7, 8, 9, 10, 11, 12, 13, 14, 15, 16]) (uI) s.heap H locs := hw
  refine lv_aload_n hx hb dX6_init_27 rfl (lv_at hl 0 rfl) ?_
  refine lv_bipush (v := 12) hx hb dX6_init_28 (by decide) ?_
  refine lv_bipush (v := 7) hx hb dX6_init_30 (by decide) ?_
  refine y_mna (k := 17) (N := 12) (Ks1 := [17, 18, 19, 20, 21, 22, 23, 24, 25, 26, 27, 28, 29]) (Ks' := KL 137 ++ [6, 7, 8, 9, 10, 11, 12, 13, 14, 15, 16] ++ [17, 18, 19, 20, 21, 22, 23, 24, 25, 26, 27, 28, 29]) (c' := 51) (n' := 407) C hw xw_112 (by decide +kernel) (by decide +kernel) (by decide +kernel) (by decide +kernel) (fun i hi => uI_1 ((by decide +kernel : ∀ i, i < 12 → spI.contains (17 + 1 + i) = false) i hi)) (by decide +kernel) rfl (by decide +kernel) (by decide +kernel) (by decide) rfl rfl ⟨Nat.le_of_ble_eq_true rfl, Nat.le_of_ble_eq_true rfl⟩ dX6_init_32 (fun ad17 q17 H ea17 hw => ?_)
  refine y_putF (j := 2) (v := .ref q17) C hw hin rfl inlX6 tyX6_ok nmX6 (by decide) xw_114 rfl rfl rfl rfl (by simp) dX6_init_36 (fun H locs hw => ?_)
  have hw : y_W g A [(h0, .inr (6, [.ref q137, .ref q6, .ref q17, .null, .int 0, .int 0, .int 0]))] _ (KL 137 ++ [6, 7, 8, 9, 10, 11, 12, 13, 14, 15, 16] ++ [17, 18, 19, 20, 21, 22, 23, 24, 25, 26, 27, 28, 29]) (uI) s.heap H locs := hw
  refine lv_aload_n hx hb dX6_init_39 rfl (lv_at hl 0 rfl) ?_
  refine lv_bipush (v := 12) hx hb dX6_init_40 (by decide) ?_
  refine y_ai (Ks' := KL 137 ++ [6, 7, 8, 9, 10, 11, 12, 13, 14, 15, 16] ++ [17, 18, 19, 20, 21, 22, 23, 24, 25, 26, 27, 28, 29] ++ [30]) (c' := 52) (n' := 419) C hw (30) (by decide +kernel : x_kind (30) = (0, 12)) (uI_1 (by decide +kernel : spI.contains (30) = false)) (by decide +kernel : newK (30) (KL 137 ++ [6, 7, 8, 9, 10, 11, 12, 13, 14, 15, 16] ++ [17, 18, 19, 20, 21, 22, 23, 24, 25, 26, 27, 28, 29]) = true) rfl (by decide +kernel) (by decide) ⟨Nat.le_of_ble_eq_true rfl, Nat.le_of_ble_eq_true rfl⟩ rfl rfl dX6_init_42 (fun q30 H hw => ?_)
  refine y_putF (j := 3) (v := .ref q30) C hw hin rfl inlX6 tyX6_ok nmX6 (by decide) xw_115 rfl rfl rfl rfl (by simp) dX6_init_44 (fun H locs hw => ?_)
  have hw : y_W g A [(h0, .inr (6, [.ref q137, .ref q6, .ref q17, .ref q30, .int 0, .int 0, .int 0]))] _ (KL 137 ++ [6, 7, 8, 9, 10, 11, 12, 13, 14, 15, 16] ++ [17, 18, 19, 20, 21, 22, 23, 24, 25, 26, 27, 28, 29] ++ [30]) (uI) s.heap H locs := hw
  obtain ⟨adf, eh0, hw⟩ := y_seal2 (N := 7) (o := 5) hw (by decide +kernel : x_kind (5) = (10 + 6, 7)) (by decide +kernel : newK (5) (KL 137 ++ [6, 7, 8, 9, 10, 11, 12, 13, 14, 15, 16] ++ [17, 18, 19, 20, 21, 22, 23, 24, 25, 26, 27, 28, 29] ++ [30]) = true) (by rw [fs_X6_init]; simp [ua, um, KD, KL, KR, ea137, ea6, ea17])
  have hw : y_W g A [] adf (K6) (uI) s.heap H locs := hw
  exact y_vret C hret hw eh0 dX6_init_47
set_option maxHeartbeats 4000000 in
set_option maxRecDepth 100000 in
theorem c_X6_init (l : Launch) (g : xG) : CTRy l g yX6_init cX6_init 1 6 [.null, .null, .null, .null, .int 0, .int 0, .int 0] (5) (K6) 52 419 3 80 [] := by
  intro h0 sz
  refine Met.ofW (cc := cX6_init) (maxL := 1) (ret := none) (by decide) rfl ?_
  intro p e s m args below meth c s₁ B hml hv
  obtain ⟨rfl, hpre⟩ := hv
  obtain ⟨C, hw, hret, hin, rfl⟩ := y_start (u := uI) (ad := fun _ => 0) B hml rfl hpre
  have hl := lv_entry [.ref h0] (n := 1) (Nat.le_of_ble_eq_true rfl)
  rw [lg_entry_eq]
  exact s_X6_init C hret hin hw hl
def KM : List Nat := 272 :: ([273] ++ [274] ++ [275] ++ [276] ++ [277] ++ [278] ++ [279] ++ [280] ++ [281] ++ [282] ++ [283] ++ [284] ++ [285] ++ [286] ++ [287] ++ [288] ++ [289])
theorem fs_X11_init {g : xG} {ad : Nat → Nat} : x_fs (gK g ad []) (uzi 273) 272 11 = [.ref (ad (273)), .ref (ad (274)), .int 0, .long 0, .long 1, .ref (ad (275)), .ref (ad (276)), .ref (ad (277)), .ref (ad (278)), .ref (ad (279)), .int 0, .int 0, .int 0, .int 0, .int 0, .int 0, .int (-1), .int (-1), .int 0, .int 0, .ref (ad (280)), .int 0, .int 0, .int (-1), .int (-1), .int 0, .ref (ad (281)), .ref (ad (282)), .int 0, .int 0, .ref (ad (283)), .ref (ad (284)), .int 0, .int 0, .int 0, .ref (ad (285)), .ref (ad (286)), .int 0, .int 0, .ref (ad (287)), .ref (ad (288)), .ref (ad (289)), .int 0, .int 0] := rfl
set_option maxHeartbeats 4000000 in
set_option maxRecDepth 100000 in
theorem s_X11_init {h0 : Nat} (C : y_C p s m args meth c g A RX11 cX11_init 1) (hret : meth.sig.returnType = none) (hin : meth.name = "<init>") (hw : y_W g A [(h0, .inr (11, [.null, .null, .int 0, .long 0, .long 0, .null, .null, .null, .null, .null, .int 0, .int 0, .int 0, .int 0, .int 0, .int 0, .int 0, .int 0, .int 0, .int 0, .null, .int 0, .int 0, .int 0, .int 0, .int 0, .null, .null, .int 0, .int 0, .null, .null, .int 0, .int 0, .int 0, .null, .null, .int 0, .int 0, .null, .null, .null, .int 0, .int 0]))] ad [] (mz 0) s.heap s.heap []) {ls : Array Slot} (hl : lv_has ls 1 [(0, .ref h0)]) : W p l e ({ frames := 2, cells := 17, slots := 5980, locals := 60 } : Room) s m args below meth c s.heap [] 0 0 (MQ below (va_Qv (fun ad => ad (272) = h0) (y_post g A (KM)) A) args s 17 5980 A) (F0 m 0 ls []) := by
  have hx := C.1.1
  have hb := C.1.2.1
  have hown := C.1.2.2.2.1
  have hts := C.1.2.2.2.2.1
  refine lv_aload_n hx hb dX11_init_0 rfl (lv_at hl 0 rfl) ?_
  refine W.objInit hx hb hown (hts _ xw_218) (hts _ xw_11) (hts _ xw_12) rfl (hl.1.trans C.1.2.2.1.symm) rfl dX11_init_1 (Nat.le_of_ble_eq_true rfl) (Nat.le_of_ble_eq_true rfl) ?_
  refine W.eq (g2 := F0 m 4 ls []) rfl ?_
  refine lv_aload_n hx hb dX11_init_4 rfl (lv_at hl 0 rfl) ?_
  refine lv_sipush (v := 3668) hx hb dX11_init_5 (by decide) ?_
  refine y_ai (Ks' := [273]) (c' := 1) (n' := 3668) C hw (273) (by decide +kernel : x_kind (273) = (0, 3668)) (mz_273 _) (by decide +kernel : newK (273) ([]) = true) rfl (by decide +kernel) (by decide) ⟨Nat.le_of_ble_eq_true rfl, Nat.le_of_ble_eq_true rfl⟩ rfl rfl dX11_init_8 (fun q273 H hw => ?_)
  refine y_putF (j := 0) (v := .ref q273) C hw hin rfl inlX11 tyX11_ok nmX11 (by decide) xw_219 rfl rfl rfl rfl (by simp) dX11_init_10 (fun H locs hw => ?_)
  have hw : y_W g A [(h0, .inr (11, [.ref q273, .null, .int 0, .long 0, .long 0, .null, .null, .null, .null, .null, .int 0, .int 0, .int 0, .int 0, .int 0, .int 0, .int 0, .int 0, .int 0, .int 0, .null, .int 0, .int 0, .int 0, .int 0, .int 0, .null, .null, .int 0, .int 0, .null, .null, .int 0, .int 0, .int 0, .null, .null, .int 0, .int 0, .null, .null, .null, .int 0, .int 0]))] _ ([273]) (mz 0) s.heap H locs := hw
  refine lv_aload_n hx hb dX11_init_13 rfl (lv_at hl 0 rfl) ?_
  refine lv_bipush (v := 126) hx hb dX11_init_14 (by decide) ?_
  refine y_al (Ks' := [273] ++ [274]) (c' := 2) (n' := 3794) C hw (274) (by decide +kernel : x_kind (274) = (1, 126)) (uI_2 (by decide +kernel : spL.contains (274) = false)) (by decide +kernel : newK (274) ([273]) = true) rfl (by decide +kernel) (by decide) ⟨Nat.le_of_ble_eq_true rfl, Nat.le_of_ble_eq_true rfl⟩ rfl rfl dX11_init_16 (fun q274 H hw => ?_)
  refine y_putF (j := 1) (v := .ref q274) C hw hin rfl inlX11 tyX11_ok nmX11 (by decide) xw_220 rfl rfl rfl rfl (by simp) dX11_init_18 (fun H locs hw => ?_)
  have hw : y_W g A [(h0, .inr (11, [.ref q273, .ref q274, .int 0, .long 0, .long 0, .null, .null, .null, .null, .null, .int 0, .int 0, .int 0, .int 0, .int 0, .int 0, .int 0, .int 0, .int 0, .int 0, .null, .int 0, .int 0, .int 0, .int 0, .int 0, .null, .null, .int 0, .int 0, .null, .null, .int 0, .int 0, .int 0, .null, .null, .int 0, .int 0, .null, .null, .null, .int 0, .int 0]))] _ ([273] ++ [274]) (mz 0) s.heap H locs := hw
  refine lv_aload_n hx hb dX11_init_21 rfl (lv_at hl 0 rfl) ?_
  refine lv_lconst (v := 1) hx hb dX11_init_22 (by decide) ?_
  refine y_put (j := 4) (v := .long 1) C hw rfl inlX11 tyX11_ok nmX11 (by decide) xw_221 (by decide +kernel) rfl rfl (by simp) dX11_init_23 (fun H locs hw => ?_)
  have hw : y_W g A [(h0, .inr (11, [.ref q273, .ref q274, .int 0, .long 0, .long 1, .null, .null, .null, .null, .null, .int 0, .int 0, .int 0, .int 0, .int 0, .int 0, .int 0, .int 0, .int 0, .int 0, .null, .int 0, .int 0, .int 0, .int 0, .int 0, .null, .null, .int 0, .int 0, .null, .null, .int 0, .int 0, .int 0, .null, .null, .int 0, .int 0, .null, .null, .null, .int 0, .int 0]))] _ ([273] ++ [274]) (mz 0) s.heap H locs := hw
  refine lv_aload_n hx hb dX11_init_26 rfl (lv_at hl 0 rfl) ?_
  refine lv_iconst (v := 4) hx hb dX11_init_27 (by decide) ?_
  refine y_ai (Ks' := [273] ++ [274] ++ [275]) (c' := 3) (n' := 3798) C hw (275) (by decide +kernel : x_kind (275) = (0, 4)) (mz_z (by decide +kernel : spI.contains (275) = false)) (by decide +kernel : newK (275) ([273] ++ [274]) = true) rfl (by decide +kernel) (by decide) ⟨Nat.le_of_ble_eq_true rfl, Nat.le_of_ble_eq_true rfl⟩ rfl rfl dX11_init_28 (fun q275 H hw => ?_)
  refine y_putF (j := 5) (v := .ref q275) C hw hin rfl inlX11 tyX11_ok nmX11 (by decide) xw_222 rfl rfl rfl rfl (by simp) dX11_init_30 (fun H locs hw => ?_)
  have hw : y_W g A [(h0, .inr (11, [.ref q273, .ref q274, .int 0, .long 0, .long 1, .ref q275, .null, .null, .null, .null, .int 0, .int 0, .int 0, .int 0, .int 0, .int 0, .int 0, .int 0, .int 0, .int 0, .null, .int 0, .int 0, .int 0, .int 0, .int 0, .null, .null, .int 0, .int 0, .null, .null, .int 0, .int 0, .int 0, .null, .null, .int 0, .int 0, .null, .null, .null, .int 0, .int 0]))] _ ([273] ++ [274] ++ [275]) (mz 0) s.heap H locs := hw
  refine lv_aload_n hx hb dX11_init_33 rfl (lv_at hl 0 rfl) ?_
  refine lv_iconst (v := 4) hx hb dX11_init_34 (by decide) ?_
  refine y_ai (Ks' := [273] ++ [274] ++ [275] ++ [276]) (c' := 4) (n' := 3802) C hw (276) (by decide +kernel : x_kind (276) = (0, 4)) mz_276 (by decide +kernel : newK (276) ([273] ++ [274] ++ [275]) = true) rfl (by decide +kernel) (by decide) ⟨Nat.le_of_ble_eq_true rfl, Nat.le_of_ble_eq_true rfl⟩ rfl rfl dX11_init_35 (fun q276 H hw => ?_)
  refine lv_dup hx hb dX11_init_37 rfl ?_
  refine lv_iconst (v := 0) hx hb dX11_init_38 (by decide) ?_
  refine lv_iconst (v := -1) hx hb dX11_init_39 (by decide) ?_
  obtain ⟨u0, eu0⟩ : ∃ z : xM, z = si (mz 0) 276 (0 : Int32).toNatClampNeg (-1) := ⟨_, rfl⟩
  refine y_ia (u1 := u0) C hw (k := 276) (n := 4) (by decide +kernel) (by decide +kernel) (by decide +kernel) (by simp [ua]) (cIN (a := 0) (by decide) (by decide)) eu0 dX11_init_40 (fun H locs hw => ?_)
  rw [mz_s (j := 0) eu0] at hw
  refine lv_dup hx hb dX11_init_41 rfl ?_
  refine lv_iconst (v := 1) hx hb dX11_init_42 (by decide) ?_
  refine lv_iconst (v := -1) hx hb dX11_init_43 (by decide) ?_
  obtain ⟨u1, eu1⟩ : ∃ z : xM, z = si (mz 1) 276 (1 : Int32).toNatClampNeg (-1) := ⟨_, rfl⟩
  refine y_ia (u1 := u1) C hw (k := 276) (n := 4) (by decide +kernel) (by decide +kernel) (by decide +kernel) (by simp [ua]) (cIN (a := 1) (by decide) (by decide)) eu1 dX11_init_44 (fun H locs hw => ?_)
  rw [mz_s (j := 1) eu1] at hw
  refine lv_dup hx hb dX11_init_45 rfl ?_
  refine lv_iconst (v := 2) hx hb dX11_init_46 (by decide) ?_
  refine lv_iconst (v := -1) hx hb dX11_init_47 (by decide) ?_
  obtain ⟨u2, eu2⟩ : ∃ z : xM, z = si (mz 2) 276 (2 : Int32).toNatClampNeg (-1) := ⟨_, rfl⟩
  refine y_ia (u1 := u2) C hw (k := 276) (n := 4) (by decide +kernel) (by decide +kernel) (by decide +kernel) (by simp [ua]) (cIN (a := 2) (by decide) (by decide)) eu2 dX11_init_48 (fun H locs hw => ?_)
  rw [mz_s (j := 2) eu2] at hw
  refine lv_dup hx hb dX11_init_49 rfl ?_
  refine lv_iconst (v := 3) hx hb dX11_init_50 (by decide) ?_
  refine lv_iconst (v := -1) hx hb dX11_init_51 (by decide) ?_
  obtain ⟨u3, eu3⟩ : ∃ z : xM, z = si (mz 3) 276 (3 : Int32).toNatClampNeg (-1) := ⟨_, rfl⟩
  refine y_ia (u1 := u3) C hw (k := 276) (n := 4) (by decide +kernel) (by decide +kernel) (by decide +kernel) (by simp [ua]) (cIN (a := 3) (by decide) (by decide)) eu3 dX11_init_52 (fun H locs hw => ?_)
  rw [mz_s (j := 3) eu3] at hw
  refine y_putF (j := 6) (v := .ref q276) C hw hin rfl inlX11 tyX11_ok nmX11 (by decide) xw_223 rfl rfl rfl rfl (by simp) dX11_init_53 (fun H locs hw => ?_)
  have hw : y_W g A [(h0, .inr (11, [.ref q273, .ref q274, .int 0, .long 0, .long 1, .ref q275, .ref q276, .null, .null, .null, .int 0, .int 0, .int 0, .int 0, .int 0, .int 0, .int 0, .int 0, .int 0, .int 0, .null, .int 0, .int 0, .int 0, .int 0, .int 0, .null, .null, .int 0, .int 0, .null, .null, .int 0, .int 0, .int 0, .null, .null, .int 0, .int 0, .null, .null, .null, .int 0, .int 0]))] _ ([273] ++ [274] ++ [275] ++ [276]) (mz 4) s.heap H locs := hw
  refine lv_aload_n hx hb dX11_init_56 rfl (lv_at hl 0 rfl) ?_
  refine lv_sipush (v := 240) hx hb dX11_init_57 (by decide) ?_
  refine y_al (Ks' := [273] ++ [274] ++ [275] ++ [276] ++ [277]) (c' := 5) (n' := 4042) C hw (277) (by decide +kernel : x_kind (277) = (1, 240)) (uI_2 (by decide +kernel : spL.contains (277) = false)) (by decide +kernel : newK (277) ([273] ++ [274] ++ [275] ++ [276]) = true) rfl (by decide +kernel) (by decide) ⟨Nat.le_of_ble_eq_true rfl, Nat.le_of_ble_eq_true rfl⟩ rfl rfl dX11_init_60 (fun q277 H hw => ?_)
  refine y_putF (j := 7) (v := .ref q277) C hw hin rfl inlX11 tyX11_ok nmX11 (by decide) xw_224 rfl rfl rfl rfl (by simp) dX11_init_62 (fun H locs hw => ?_)
  have hw : y_W g A [(h0, .inr (11, [.ref q273, .ref q274, .int 0, .long 0, .long 1, .ref q275, .ref q276, .ref q277, .null, .null, .int 0, .int 0, .int 0, .int 0, .int 0, .int 0, .int 0, .int 0, .int 0, .int 0, .null, .int 0, .int 0, .int 0, .int 0, .int 0, .null, .null, .int 0, .int 0, .null, .null, .int 0, .int 0, .int 0, .null, .null, .int 0, .int 0, .null, .null, .null, .int 0, .int 0]))] _ ([273] ++ [274] ++ [275] ++ [276] ++ [277]) (mz 4) s.heap H locs := hw
  refine lv_aload_n hx hb dX11_init_65 rfl (lv_at hl 0 rfl) ?_
  refine lv_sipush (v := 900) hx hb dX11_init_66 (by decide) ?_
  refine y_ab (Ks' := [273] ++ [274] ++ [275] ++ [276] ++ [277] ++ [278]) (c' := 6) (n' := 4942) C hw (278) (by decide +kernel : x_kind (278) = (2, 900)) (mz_z (by decide +kernel : spI.contains (278) = false)) (by decide +kernel : newK (278) ([273] ++ [274] ++ [275] ++ [276] ++ [277]) = true) rfl (by decide +kernel) (by decide) ⟨Nat.le_of_ble_eq_true rfl, Nat.le_of_ble_eq_true rfl⟩ rfl rfl dX11_init_69 (fun q278 H hw => ?_)
  refine y_putF (j := 8) (v := .ref q278) C hw hin rfl inlX11 tyX11_ok nmX11 (by decide) xw_225 rfl rfl rfl rfl (by simp) dX11_init_71 (fun H locs hw => ?_)
  have hw : y_W g A [(h0, .inr (11, [.ref q273, .ref q274, .int 0, .long 0, .long 1, .ref q275, .ref q276, .ref q277, .ref q278, .null, .int 0, .int 0, .int 0, .int 0, .int 0, .int 0, .int 0, .int 0, .int 0, .int 0, .null, .int 0, .int 0, .int 0, .int 0, .int 0, .null, .null, .int 0, .int 0, .null, .null, .int 0, .int 0, .int 0, .null, .null, .int 0, .int 0, .null, .null, .null, .int 0, .int 0]))] _ ([273] ++ [274] ++ [275] ++ [276] ++ [277] ++ [278]) (mz 4) s.heap H locs := hw
  refine lv_aload_n hx hb dX11_init_74 rfl (lv_at hl 0 rfl) ?_
  refine lv_sipush (v := 900) hx hb dX11_init_75 (by decide) ?_
  refine y_ab (Ks' := [273] ++ [274] ++ [275] ++ [276] ++ [277] ++ [278] ++ [279]) (c' := 7) (n' := 5842) C hw (279) (by decide +kernel : x_kind (279) = (2, 900)) (mz_z (by decide +kernel : spI.contains (279) = false)) (by decide +kernel : newK (279) ([273] ++ [274] ++ [275] ++ [276] ++ [277] ++ [278]) = true) rfl (by decide +kernel) (by decide) ⟨Nat.le_of_ble_eq_true rfl, Nat.le_of_ble_eq_true rfl⟩ rfl rfl dX11_init_78 (fun q279 H hw => ?_)
  refine y_putF (j := 9) (v := .ref q279) C hw hin rfl inlX11 tyX11_ok nmX11 (by decide) xw_226 rfl rfl rfl rfl (by simp) dX11_init_80 (fun H locs hw => ?_)
  have hw : y_W g A [(h0, .inr (11, [.ref q273, .ref q274, .int 0, .long 0, .long 1, .ref q275, .ref q276, .ref q277, .ref q278, .ref q279, .int 0, .int 0, .int 0, .int 0, .int 0, .int 0, .int 0, .int 0, .int 0, .int 0, .null, .int 0, .int 0, .int 0, .int 0, .int 0, .null, .null, .int 0, .int 0, .null, .null, .int 0, .int 0, .int 0, .null, .null, .int 0, .int 0, .null, .null, .null, .int 0, .int 0]))] _ ([273] ++ [274] ++ [275] ++ [276] ++ [277] ++ [278] ++ [279]) (mz 4) s.heap H locs := hw
  refine lv_aload_n hx hb dX11_init_83 rfl (lv_at hl 0 rfl) ?_
  refine lv_iconst (v := -1) hx hb dX11_init_84 (by decide) ?_
  refine y_put (j := 16) (v := .int (-1)) C hw rfl inlX11 tyX11_ok nmX11 (by decide) xw_227 (by decide +kernel) rfl rfl (by simp) dX11_init_85 (fun H locs hw => ?_)
  have hw : y_W g A [(h0, .inr (11, [.ref q273, .ref q274, .int 0, .long 0, .long 1, .ref q275, .ref q276, .ref q277, .ref q278, .ref q279, .int 0, .int 0, .int 0, .int 0, .int 0, .int 0, .int (-1), .int 0, .int 0, .int 0, .null, .int 0, .int 0, .int 0, .int 0, .int 0, .null, .null, .int 0, .int 0, .null, .null, .int 0, .int 0, .int 0, .null, .null, .int 0, .int 0, .null, .null, .null, .int 0, .int 0]))] _ ([273] ++ [274] ++ [275] ++ [276] ++ [277] ++ [278] ++ [279]) (mz 4) s.heap H locs := hw
  refine lv_aload_n hx hb dX11_init_88 rfl (lv_at hl 0 rfl) ?_
  refine lv_iconst (v := -1) hx hb dX11_init_89 (by decide) ?_
  refine y_put (j := 17) (v := .int (-1)) C hw rfl inlX11 tyX11_ok nmX11 (by decide) xw_228 (by decide +kernel) rfl rfl (by simp) dX11_init_90 (fun H locs hw => ?_)
  have hw : y_W g A [(h0, .inr (11, [.ref q273, .ref q274, .int 0, .long 0, .long 1, .ref q275, .ref q276, .ref q277, .ref q278, .ref q279, .int 0, .int 0, .int 0, .int 0, .int 0, .int 0, .int (-1), .int (-1), .int 0, .int 0, .null, .int 0, .int 0, .int 0, .int 0, .int 0, .null, .null, .int 0, .int 0, .null, .null, .int 0, .int 0, .int 0, .null, .null, .int 0, .int 0, .null, .null, .null, .int 0, .int 0]))] _ ([273] ++ [274] ++ [275] ++ [276] ++ [277] ++ [278] ++ [279]) (mz 4) s.heap H locs := hw
  refine lv_aload_n hx hb dX11_init_93 rfl (lv_at hl 0 rfl) ?_
  refine lv_iconst (v := 3) hx hb dX11_init_94 (by decide) ?_
  refine y_ai (Ks' := [273] ++ [274] ++ [275] ++ [276] ++ [277] ++ [278] ++ [279] ++ [280]) (c' := 8) (n' := 5845) C hw (280) (by decide +kernel : x_kind (280) = (0, 3)) (mz_z (by decide +kernel : spI.contains (280) = false)) (by decide +kernel : newK (280) ([273] ++ [274] ++ [275] ++ [276] ++ [277] ++ [278] ++ [279]) = true) rfl (by decide +kernel) (by decide) ⟨Nat.le_of_ble_eq_true rfl, Nat.le_of_ble_eq_true rfl⟩ rfl rfl dX11_init_95 (fun q280 H hw => ?_)
  refine y_putF (j := 20) (v := .ref q280) C hw hin rfl inlX11 tyX11_ok nmX11 (by decide) xw_229 rfl rfl rfl rfl (by simp) dX11_init_97 (fun H locs hw => ?_)
  have hw : y_W g A [(h0, .inr (11, [.ref q273, .ref q274, .int 0, .long 0, .long 1, .ref q275, .ref q276, .ref q277, .ref q278, .ref q279, .int 0, .int 0, .int 0, .int 0, .int 0, .int 0, .int (-1), .int (-1), .int 0, .int 0, .ref q280, .int 0, .int 0, .int 0, .int 0, .int 0, .null, .null, .int 0, .int 0, .null, .null, .int 0, .int 0, .int 0, .null, .null, .int 0, .int 0, .null, .null, .null, .int 0, .int 0]))] _ ([273] ++ [274] ++ [275] ++ [276] ++ [277] ++ [278] ++ [279] ++ [280]) (mz 4) s.heap H locs := hw
  refine lv_aload_n hx hb dX11_init_100 rfl (lv_at hl 0 rfl) ?_
  refine lv_iconst (v := -1) hx hb dX11_init_101 (by decide) ?_
  refine y_put (j := 23) (v := .int (-1)) C hw rfl inlX11 tyX11_ok nmX11 (by decide) xw_230 (by decide +kernel) rfl rfl (by simp) dX11_init_102 (fun H locs hw => ?_)
  have hw : y_W g A [(h0, .inr (11, [.ref q273, .ref q274, .int 0, .long 0, .long 1, .ref q275, .ref q276, .ref q277, .ref q278, .ref q279, .int 0, .int 0, .int 0, .int 0, .int 0, .int 0, .int (-1), .int (-1), .int 0, .int 0, .ref q280, .int 0, .int 0, .int (-1), .int 0, .int 0, .null, .null, .int 0, .int 0, .null, .null, .int 0, .int 0, .int 0, .null, .null, .int 0, .int 0, .null, .null, .null, .int 0, .int 0]))] _ ([273] ++ [274] ++ [275] ++ [276] ++ [277] ++ [278] ++ [279] ++ [280]) (mz 4) s.heap H locs := hw
  refine lv_aload_n hx hb dX11_init_105 rfl (lv_at hl 0 rfl) ?_
  refine lv_iconst (v := -1) hx hb dX11_init_106 (by decide) ?_
  refine y_put (j := 24) (v := .int (-1)) C hw rfl inlX11 tyX11_ok nmX11 (by decide) xw_231 (by decide +kernel) rfl rfl (by simp) dX11_init_107 (fun H locs hw => ?_)
  have hw : y_W g A [(h0, .inr (11, [.ref q273, .ref q274, .int 0, .long 0, .long 1, .ref q275, .ref q276, .ref q277, .ref q278, .ref q279, .int 0, .int 0, .int 0, .int 0, .int 0, .int 0, .int (-1), .int (-1), .int 0, .int 0, .ref q280, .int 0, .int 0, .int (-1), .int (-1), .int 0, .null, .null, .int 0, .int 0, .null, .null, .int 0, .int 0, .int 0, .null, .null, .int 0, .int 0, .null, .null, .null, .int 0, .int 0]))] _ ([273] ++ [274] ++ [275] ++ [276] ++ [277] ++ [278] ++ [279] ++ [280]) (mz 4) s.heap H locs := hw
  refine lv_aload_n hx hb dX11_init_110 rfl (lv_at hl 0 rfl) ?_
  refine lv_bipush (v := 10) hx hb dX11_init_111 (by decide) ?_
  refine y_ai (Ks' := [273] ++ [274] ++ [275] ++ [276] ++ [277] ++ [278] ++ [279] ++ [280] ++ [281]) (c' := 9) (n' := 5855) C hw (281) (by decide +kernel : x_kind (281) = (0, 10)) (mz_z (by decide +kernel : spI.contains (281) = false)) (by decide +kernel : newK (281) ([273] ++ [274] ++ [275] ++ [276] ++ [277] ++ [278] ++ [279] ++ [280]) = true) rfl (by decide +kernel) (by decide) ⟨Nat.le_of_ble_eq_true rfl, Nat.le_of_ble_eq_true rfl⟩ rfl rfl dX11_init_113 (fun q281 H hw => ?_)
  refine y_putF (j := 26) (v := .ref q281) C hw hin rfl inlX11 tyX11_ok nmX11 (by decide) xw_232 rfl rfl rfl rfl (by simp) dX11_init_115 (fun H locs hw => ?_)
  have hw : y_W g A [(h0, .inr (11, [.ref q273, .ref q274, .int 0, .long 0, .long 1, .ref q275, .ref q276, .ref q277, .ref q278, .ref q279, .int 0, .int 0, .int 0, .int 0, .int 0, .int 0, .int (-1), .int (-1), .int 0, .int 0, .ref q280, .int 0, .int 0, .int (-1), .int (-1), .int 0, .ref q281, .null, .int 0, .int 0, .null, .null, .int 0, .int 0, .int 0, .null, .null, .int 0, .int 0, .null, .null, .null, .int 0, .int 0]))] _ ([273] ++ [274] ++ [275] ++ [276] ++ [277] ++ [278] ++ [279] ++ [280] ++ [281]) (mz 4) s.heap H locs := hw
  refine lv_aload_n hx hb dX11_init_118 rfl (lv_at hl 0 rfl) ?_
  refine lv_bipush (v := 10) hx hb dX11_init_119 (by decide) ?_
  refine y_ai (Ks' := [273] ++ [274] ++ [275] ++ [276] ++ [277] ++ [278] ++ [279] ++ [280] ++ [281] ++ [282]) (c' := 10) (n' := 5865) C hw (282) (by decide +kernel : x_kind (282) = (0, 10)) (mz_z (by decide +kernel : spI.contains (282) = false)) (by decide +kernel : newK (282) ([273] ++ [274] ++ [275] ++ [276] ++ [277] ++ [278] ++ [279] ++ [280] ++ [281]) = true) rfl (by decide +kernel) (by decide) ⟨Nat.le_of_ble_eq_true rfl, Nat.le_of_ble_eq_true rfl⟩ rfl rfl dX11_init_121 (fun q282 H hw => ?_)
  refine y_putF (j := 27) (v := .ref q282) C hw hin rfl inlX11 tyX11_ok nmX11 (by decide) xw_233 rfl rfl rfl rfl (by simp) dX11_init_123 (fun H locs hw => ?_)
  have hw : y_W g A [(h0, .inr (11, [.ref q273, .ref q274, .int 0, .long 0, .long 1, .ref q275, .ref q276, .ref q277, .ref q278, .ref q279, .int 0, .int 0, .int 0, .int 0, .int 0, .int 0, .int (-1), .int (-1), .int 0, .int 0, .ref q280, .int 0, .int 0, .int (-1), .int (-1), .int 0, .ref q281, .ref q282, .int 0, .int 0, .null, .null, .int 0, .int 0, .int 0, .null, .null, .int 0, .int 0, .null, .null, .null, .int 0, .int 0]))] _ ([273] ++ [274] ++ [275] ++ [276] ++ [277] ++ [278] ++ [279] ++ [280] ++ [281] ++ [282]) (mz 4) s.heap H locs := hw
  refine lv_aload_n hx hb dX11_init_126 rfl (lv_at hl 0 rfl) ?_
  refine lv_iconst (v := 4) hx hb dX11_init_127 (by decide) ?_
  refine y_ai (Ks' := [273] ++ [274] ++ [275] ++ [276] ++ [277] ++ [278] ++ [279] ++ [280] ++ [281] ++ [282] ++ [283]) (c' := 11) (n' := 5869) C hw (283) (by decide +kernel : x_kind (283) = (0, 4)) (mz_z (by decide +kernel : spI.contains (283) = false)) (by decide +kernel : newK (283) ([273] ++ [274] ++ [275] ++ [276] ++ [277] ++ [278] ++ [279] ++ [280] ++ [281] ++ [282]) = true) rfl (by decide +kernel) (by decide) ⟨Nat.le_of_ble_eq_true rfl, Nat.le_of_ble_eq_true rfl⟩ rfl rfl dX11_init_128 (fun q283 H hw => ?_)
  refine y_putF (j := 30) (v := .ref q283) C hw hin rfl inlX11 tyX11_ok nmX11 (by decide) xw_234 rfl rfl rfl rfl (by simp) dX11_init_130 (fun H locs hw => ?_)
  have hw : y_W g A [(h0, .inr (11, [.ref q273, .ref q274, .int 0, .long 0, .long 1, .ref q275, .ref q276, .ref q277, .ref q278, .ref q279, .int 0, .int 0, .int 0, .int 0, .int 0, .int 0, .int (-1), .int (-1), .int 0, .int 0, .ref q280, .int 0, .int 0, .int (-1), .int (-1), .int 0, .ref q281, .ref q282, .int 0, .int 0, .ref q283, .null, .int 0, .int 0, .int 0, .null, .null, .int 0, .int 0, .null, .null, .null, .int 0, .int 0]))] _ ([273] ++ [274] ++ [275] ++ [276] ++ [277] ++ [278] ++ [279] ++ [280] ++ [281] ++ [282] ++ [283]) (mz 4) s.heap H locs := hw
  refine lv_aload_n hx hb dX11_init_133 rfl (lv_at hl 0 rfl) ?_
  refine lv_iconst (v := 4) hx hb dX11_init_134 (by decide) ?_
  refine y_ai (Ks' := [273] ++ [274] ++ [275] ++ [276] ++ [277] ++ [278] ++ [279] ++ [280] ++ [281] ++ [282] ++ [283] ++ [284]) (c' := 12) (n' := 5873) C hw (284) (by decide +kernel : x_kind (284) = (0, 4)) (mz_z (by decide +kernel : spI.contains (284) = false)) (by decide +kernel : newK (284) ([273] ++ [274] ++ [275] ++ [276] ++ [277] ++ [278] ++ [279] ++ [280] ++ [281] ++ [282] ++ [283]) = true) rfl (by decide +kernel) (by decide) ⟨Nat.le_of_ble_eq_true rfl, Nat.le_of_ble_eq_true rfl⟩ rfl rfl dX11_init_135 (fun q284 H hw => ?_)
  refine y_putF (j := 31) (v := .ref q284) C hw hin rfl inlX11 tyX11_ok nmX11 (by decide) xw_235 rfl rfl rfl rfl (by simp) dX11_init_137 (fun H locs hw => ?_)
  have hw : y_W g A [(h0, .inr (11, [.ref q273, .ref q274, .int 0, .long 0, .long 1, .ref q275, .ref q276, .ref q277, .ref q278, .ref q279, .int 0, .int 0, .int 0, .int 0, .int 0, .int 0, .int (-1), .int (-1), .int 0, .int 0, .ref q280, .int 0, .int 0, .int (-1), .int (-1), .int 0, .ref q281, .ref q282, .int 0, .int 0, .ref q283, .ref q284, .int 0, .int 0, .int 0, .null, .null, .int 0, .int 0, .null, .null, .null, .int 0, .int 0]))] _ ([273] ++ [274] ++ [275] ++ [276] ++ [277] ++ [278] ++ [279] ++ [280] ++ [281] ++ [282] ++ [283] ++ [284]) (mz 4) s.heap H locs := hw
  refine lv_aload_n hx hb dX11_init_140 rfl (lv_at hl 0 rfl) ?_
  refine lv_bipush (v := 7) hx hb dX11_init_141 (by decide) ?_
  refine y_ai (Ks' := [273] ++ [274] ++ [275] ++ [276] ++ [277] ++ [278] ++ [279] ++ [280] ++ [281] ++ [282] ++ [283] ++ [284] ++ [285]) (c' := 13) (n' := 5880) C hw (285) (by decide +kernel : x_kind (285) = (0, 7)) (mz_z (by decide +kernel : spI.contains (285) = false)) (by decide +kernel : newK (285) ([273] ++ [274] ++ [275] ++ [276] ++ [277] ++ [278] ++ [279] ++ [280] ++ [281] ++ [282] ++ [283] ++ [284]) = true) rfl (by decide +kernel) (by decide) ⟨Nat.le_of_ble_eq_true rfl, Nat.le_of_ble_eq_true rfl⟩ rfl rfl dX11_init_143 (fun q285 H hw => ?_)
  refine y_putF (j := 35) (v := .ref q285) C hw hin rfl inlX11 tyX11_ok nmX11 (by decide) xw_236 rfl rfl rfl rfl (by simp) dX11_init_145 (fun H locs hw => ?_)
  have hw : y_W g A [(h0, .inr (11, [.ref q273, .ref q274, .int 0, .long 0, .long 1, .ref q275, .ref q276, .ref q277, .ref q278, .ref q279, .int 0, .int 0, .int 0, .int 0, .int 0, .int 0, .int (-1), .int (-1), .int 0, .int 0, .ref q280, .int 0, .int 0, .int (-1), .int (-1), .int 0, .ref q281, .ref q282, .int 0, .int 0, .ref q283, .ref q284, .int 0, .int 0, .int 0, .ref q285, .null, .int 0, .int 0, .null, .null, .null, .int 0, .int 0]))] _ ([273] ++ [274] ++ [275] ++ [276] ++ [277] ++ [278] ++ [279] ++ [280] ++ [281] ++ [282] ++ [283] ++ [284] ++ [285]) (mz 4) s.heap H locs := hw
  refine lv_aload_n hx hb dX11_init_148 rfl (lv_at hl 0 rfl) ?_
  refine lv_bipush (v := 10) hx hb dX11_init_149 (by decide) ?_
  refine y_ai (Ks' := [273] ++ [274] ++ [275] ++ [276] ++ [277] ++ [278] ++ [279] ++ [280] ++ [281] ++ [282] ++ [283] ++ [284] ++ [285] ++ [286]) (c' := 14) (n' := 5890) C hw (286) (by decide +kernel : x_kind (286) = (0, 10)) (mz_z (by decide +kernel : spI.contains (286) = false)) (by decide +kernel : newK (286) ([273] ++ [274] ++ [275] ++ [276] ++ [277] ++ [278] ++ [279] ++ [280] ++ [281] ++ [282] ++ [283] ++ [284] ++ [285]) = true) rfl (by decide +kernel) (by decide) ⟨Nat.le_of_ble_eq_true rfl, Nat.le_of_ble_eq_true rfl⟩ rfl rfl dX11_init_151 (fun q286 H hw => ?_)
  refine y_putF (j := 36) (v := .ref q286) C hw hin rfl inlX11 tyX11_ok nmX11 (by decide) xw_237 rfl rfl rfl rfl (by simp) dX11_init_153 (fun H locs hw => ?_)
  have hw : y_W g A [(h0, .inr (11, [.ref q273, .ref q274, .int 0, .long 0, .long 1, .ref q275, .ref q276, .ref q277, .ref q278, .ref q279, .int 0, .int 0, .int 0, .int 0, .int 0, .int 0, .int (-1), .int (-1), .int 0, .int 0, .ref q280, .int 0, .int 0, .int (-1), .int (-1), .int 0, .ref q281, .ref q282, .int 0, .int 0, .ref q283, .ref q284, .int 0, .int 0, .int 0, .ref q285, .ref q286, .int 0, .int 0, .null, .null, .null, .int 0, .int 0]))] _ ([273] ++ [274] ++ [275] ++ [276] ++ [277] ++ [278] ++ [279] ++ [280] ++ [281] ++ [282] ++ [283] ++ [284] ++ [285] ++ [286]) (mz 4) s.heap H locs := hw
  refine lv_aload_n hx hb dX11_init_156 rfl (lv_at hl 0 rfl) ?_
  refine lv_bipush (v := 80) hx hb dX11_init_157 (by decide) ?_
  refine y_ai (Ks' := [273] ++ [274] ++ [275] ++ [276] ++ [277] ++ [278] ++ [279] ++ [280] ++ [281] ++ [282] ++ [283] ++ [284] ++ [285] ++ [286] ++ [287]) (c' := 15) (n' := 5970) C hw (287) (by decide +kernel : x_kind (287) = (0, 80)) (mz_z (by decide +kernel : spI.contains (287) = false)) (by decide +kernel : newK (287) ([273] ++ [274] ++ [275] ++ [276] ++ [277] ++ [278] ++ [279] ++ [280] ++ [281] ++ [282] ++ [283] ++ [284] ++ [285] ++ [286]) = true) rfl (by decide +kernel) (by decide) ⟨Nat.le_of_ble_eq_true rfl, Nat.le_of_ble_eq_true rfl⟩ rfl rfl dX11_init_159 (fun q287 H hw => ?_)
  refine y_putF (j := 39) (v := .ref q287) C hw hin rfl inlX11 tyX11_ok nmX11 (by decide) xw_238 rfl rfl rfl rfl (by simp) dX11_init_161 (fun H locs hw => ?_)
  have hw : y_W g A [(h0, .inr (11, [.ref q273, .ref q274, .int 0, .long 0, .long 1, .ref q275, .ref q276, .ref q277, .ref q278, .ref q279, .int 0, .int 0, .int 0, .int 0, .int 0, .int 0, .int (-1), .int (-1), .int 0, .int 0, .ref q280, .int 0, .int 0, .int (-1), .int (-1), .int 0, .ref q281, .ref q282, .int 0, .int 0, .ref q283, .ref q284, .int 0, .int 0, .int 0, .ref q285, .ref q286, .int 0, .int 0, .ref q287, .null, .null, .int 0, .int 0]))] _ ([273] ++ [274] ++ [275] ++ [276] ++ [277] ++ [278] ++ [279] ++ [280] ++ [281] ++ [282] ++ [283] ++ [284] ++ [285] ++ [286] ++ [287]) (mz 4) s.heap H locs := hw
  refine lv_aload_n hx hb dX11_init_164 rfl (lv_at hl 0 rfl) ?_
  refine lv_iconst (v := 5) hx hb dX11_init_165 (by decide) ?_
  refine y_ai (Ks' := [273] ++ [274] ++ [275] ++ [276] ++ [277] ++ [278] ++ [279] ++ [280] ++ [281] ++ [282] ++ [283] ++ [284] ++ [285] ++ [286] ++ [287] ++ [288]) (c' := 16) (n' := 5975) C hw (288) (by decide +kernel : x_kind (288) = (0, 5)) (mz_z (by decide +kernel : spI.contains (288) = false)) (by decide +kernel : newK (288) ([273] ++ [274] ++ [275] ++ [276] ++ [277] ++ [278] ++ [279] ++ [280] ++ [281] ++ [282] ++ [283] ++ [284] ++ [285] ++ [286] ++ [287]) = true) rfl (by decide +kernel) (by decide) ⟨Nat.le_of_ble_eq_true rfl, Nat.le_of_ble_eq_true rfl⟩ rfl rfl dX11_init_166 (fun q288 H hw => ?_)
  refine y_putF (j := 40) (v := .ref q288) C hw hin rfl inlX11 tyX11_ok nmX11 (by decide) xw_239 rfl rfl rfl rfl (by simp) dX11_init_168 (fun H locs hw => ?_)
  have hw : y_W g A [(h0, .inr (11, [.ref q273, .ref q274, .int 0, .long 0, .long 1, .ref q275, .ref q276, .ref q277, .ref q278, .ref q279, .int 0, .int 0, .int 0, .int 0, .int 0, .int 0, .int (-1), .int (-1), .int 0, .int 0, .ref q280, .int 0, .int 0, .int (-1), .int (-1), .int 0, .ref q281, .ref q282, .int 0, .int 0, .ref q283, .ref q284, .int 0, .int 0, .int 0, .ref q285, .ref q286, .int 0, .int 0, .ref q287, .ref q288, .null, .int 0, .int 0]))] _ ([273] ++ [274] ++ [275] ++ [276] ++ [277] ++ [278] ++ [279] ++ [280] ++ [281] ++ [282] ++ [283] ++ [284] ++ [285] ++ [286] ++ [287] ++ [288]) (mz 4) s.heap H locs := hw
  refine lv_aload_n hx hb dX11_init_171 rfl (lv_at hl 0 rfl) ?_
  refine lv_iconst (v := 5) hx hb dX11_init_172 (by decide) ?_
  refine y_ai (Ks' := [273] ++ [274] ++ [275] ++ [276] ++ [277] ++ [278] ++ [279] ++ [280] ++ [281] ++ [282] ++ [283] ++ [284] ++ [285] ++ [286] ++ [287] ++ [288] ++ [289]) (c' := 17) (n' := 5980) C hw (289) (by decide +kernel : x_kind (289) = (0, 5)) (mz_z (by decide +kernel : spI.contains (289) = false)) (by decide +kernel : newK (289) ([273] ++ [274] ++ [275] ++ [276] ++ [277] ++ [278] ++ [279] ++ [280] ++ [281] ++ [282] ++ [283] ++ [284] ++ [285] ++ [286] ++ [287] ++ [288]) = true) rfl (by decide +kernel) (by decide) ⟨Nat.le_of_ble_eq_true rfl, Nat.le_of_ble_eq_true rfl⟩ rfl rfl dX11_init_173 (fun q289 H hw => ?_)
  refine y_putF (j := 41) (v := .ref q289) C hw hin rfl inlX11 tyX11_ok nmX11 (by decide) xw_240 rfl rfl rfl rfl (by simp) dX11_init_175 (fun H locs hw => ?_)
  have hw : y_W g A [(h0, .inr (11, [.ref q273, .ref q274, .int 0, .long 0, .long 1, .ref q275, .ref q276, .ref q277, .ref q278, .ref q279, .int 0, .int 0, .int 0, .int 0, .int 0, .int 0, .int (-1), .int (-1), .int 0, .int 0, .ref q280, .int 0, .int 0, .int (-1), .int (-1), .int 0, .ref q281, .ref q282, .int 0, .int 0, .ref q283, .ref q284, .int 0, .int 0, .int 0, .ref q285, .ref q286, .int 0, .int 0, .ref q287, .ref q288, .ref q289, .int 0, .int 0]))] _ ([273] ++ [274] ++ [275] ++ [276] ++ [277] ++ [278] ++ [279] ++ [280] ++ [281] ++ [282] ++ [283] ++ [284] ++ [285] ++ [286] ++ [287] ++ [288] ++ [289]) (mz 4) s.heap H locs := hw
  rw [mz_4] at hw
  obtain ⟨adf, eh0, hw⟩ := y_seal2 (N := 44) (o := 272) hw (by decide +kernel : x_kind (272) = (10 + 11, 44)) (by decide +kernel : newK (272) ([273] ++ [274] ++ [275] ++ [276] ++ [277] ++ [278] ++ [279] ++ [280] ++ [281] ++ [282] ++ [283] ++ [284] ++ [285] ++ [286] ++ [287] ++ [288] ++ [289]) = true) (by rw [fs_X11_init]; simp [ua, um])
  have hw : y_W g A [] adf (KM) (uzi 273) s.heap H locs := hw
  refine lv_aload_n hx hb dX11_init_178 rfl (lv_at hl 0 rfl) ?_
  refine lv_iconst (v := 0) hx hb dX11_init_179 (by decide) ?_
  refine y_callv hw (y_runV (ci := 11) C hw (m_X11_plain l (y_xD (by decide +kernel : va_nd KM = true) hw.2.1) (fun k h1 h2 => (by decide +kernel : ∀ k, k < 290 → 272 ≤ k → k ∈ KM) k h2 h1) k_plain0) (by decide +kernel : x_kind 272 = (21, 44)) (by decide +kernel : (272 : Nat) ∈ KM) eh0 rfl (x_gV xw_241 xw_242 xw_243 xw_5 xw_244) rfl rfl qX11_plain ⟨Nat.le_of_ble_eq_true rfl, Nat.le_of_ble_eq_true rfl⟩ rfl hl.1 rfl (Nat.le_of_ble_eq_true rfl) dX11_init_180 ⟨Nat.le_of_ble_eq_true rfl, Nat.le_of_ble_eq_true rfl⟩) (fun u1 H locs hw hu1 => ?_)
  subst hu1
  exact y_vret C hret hw eh0 dX11_init_183
set_option maxHeartbeats 4000000 in
set_option maxRecDepth 100000 in
theorem c_X11_init (l : Launch) (g : xG) : CTRy l g yX11_init cX11_init 1 11 [.null, .null, .int 0, .long 0, .long 0, .null, .null, .null, .null, .null, .int 0, .int 0, .int 0, .int 0, .int 0, .int 0, .int 0, .int 0, .int 0, .int 0, .null, .int 0, .int 0, .int 0, .int 0, .int 0, .null, .null, .int 0, .int 0, .null, .null, .int 0, .int 0, .int 0, .null, .null, .int 0, .int 0, .null, .null, .null, .int 0, .int 0] (272) (KM) 17 5980 2 60 [] := by
  intro h0 sz
  refine Met.ofW (cc := cX11_init) (maxL := 1) (ret := none) (by decide) rfl ?_
  intro p e s m args below meth c s₁ B hml hv
  obtain ⟨rfl, hpre⟩ := hv
  obtain ⟨C, hw, hret, hin, rfl⟩ := y_start (u := mz 0) (ad := fun _ => 0) B hml rfl hpre
  have hl := lv_entry [.ref h0] (n := 1) (Nat.le_of_ble_eq_true rfl)
  rw [lg_entry_eq]
  exact s_X11_init C hret hin hw hl
end CTORS2
