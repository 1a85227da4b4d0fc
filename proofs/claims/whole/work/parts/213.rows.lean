section
variable {p : Program} {l : Launch} {e : Env} {s : State} {m : MethodId} {args : Array Value} {below : List Frame} {meth : Method} {c : Code} {g : xG}
set_option maxHeartbeats 4000000 in
set_option maxRecDepth 100000 in
theorem s_X11_laysPrint_L28 {Qf : xM → Prop} (C : x_C p s m args meth c g RX11 cX11_laysPrint 3 none) (hM : xpM g) : ∀ (nn : Nat) {v2 : Int32} {u : xM} {H : Heap} {locs : List Loc} {ls : Array Slot} (hw : x_W g s.heap H locs u) (hl : lv_has ls 3 [(0, .ref (xad g 272)), (2, .int v2)]) (h : p_X11_laysPrint_L28 Qf nn v2 u), W p l e (x_rm 9 199) s m args below meth c H locs 0 0 (MQ below (x_Qv g Qf) args s 0 0 (x_A g)) (F0 m 28 ls []) := by
  intro nn
  induction nn with
  | zero => intro v2 u H locs ls hw hl h; exact h.elim
  | succ nn ih =>
    intro v2 u H locs ls hw hl h
    unfold p_X11_laysPrint_L28 at h
    have hx := C.1
    have hb := C.2.1
    refine lv_iload_n hx hb dX11_laysPrint_28 rfl (lv_at hl 1 rfl) ?_
    refine lv_aload_n hx hb dX11_laysPrint_29 rfl (lv_at hl 0 rfl) ?_
    refine x_getr (ci := 11) C hw 0 (xoM_272 hM) rfl inlX11 (by decide) rfl rfl xrM_272_0 xw_219 dX11_laysPrint_30 ?_
    refine lv_iconst (v := 0) hx hb dX11_laysPrint_33 (by decide) ?_
    have c1 := h.1
    have h := h.2
    refine x_iald C hw (xoM_273 hM) c1 dX11_laysPrint_34 ?_
    refine lv_icmp_ge (tgt := 57) hx hb dX11_laysPrint_35 (by decide) (fun c2 => ?_) (fun c2 => ?_)
    · have h := h.1 c2
      refine lv_aload_n hx hb dX11_laysPrint_57 rfl (lv_at hl 0 rfl) ?_
      refine lv_iconst (v := -1) hx hb dX11_laysPrint_58 (by decide) ?_
      obtain ⟨u3, eu3⟩ : ∃ q : xM, q = si u 272 23 (-1 : Int32) := ⟨_, rfl⟩
      have h := h u3 eu3
      refine x_puti (ci := 11) (ty := .int) C hw 23 (xoM_272 hM) rfl inlX11 tyX11_ok nmX11 (by decide) rfl rfl xw_230 rfl (by decide +kernel) rfl rfl dX11_laysPrint_59 eu3 (fun H locs hw => ?_)
      refine lv_aload_n hx hb dX11_laysPrint_62 rfl (lv_at hl 0 rfl) ?_
      refine lv_sipush (v := 3144) hx hb dX11_laysPrint_63 (by decide) ?_
      refine x_callv hw (x_runV (ci := 11) C hw (m_X11_restores l C.2.2.2.2.2.2.2.2.1 hM h) (xoM_272 hM) rfl (x_gV xw_1346 xw_1347 xw_1348 xw_5 xw_1349) rfl rfl qX11_restores ⟨(Nat.le_of_ble_eq_true rfl), (Nat.le_of_ble_eq_true rfl)⟩ rfl hl.1 rfl (Nat.le_of_ble_eq_true rfl) dX11_laysPrint_66) (fun u4 H locs hw h => ?_)
      exact x_vret C hw h dX11_laysPrint_69
    · have h := h.2 c2
      refine lv_aload_n hx hb dX11_laysPrint_38 rfl (lv_at hl 0 rfl) ?_
      refine x_getr (ci := 11) C hw 35 (xoM_272 hM) rfl inlX11 (by decide) rfl rfl xrM_272_35 xw_236 dX11_laysPrint_39 ?_
      refine lv_iload_n hx hb dX11_laysPrint_42 rfl (lv_at hl 1 rfl) ?_
      refine lv_aload_n hx hb dX11_laysPrint_43 rfl (lv_at hl 0 rfl) ?_
      refine lv_iload_n hx hb dX11_laysPrint_44 rfl (lv_at hl 1 rfl) ?_
      refine lv_bipush (v := 6) hx hb dX11_laysPrint_45 (by decide) ?_
      refine x_calli hw (x_runV (ci := 11) C hw (m_X11_roomOf l C.2.2.2.2.2.2.2.2.1 hM h) (xoM_272 hM) rfl (x_gV xw_892 xw_893 xw_894 xw_5 xw_895) rfl rfl qX11_roomOf ⟨(Nat.le_of_ble_eq_true rfl), (Nat.le_of_ble_eq_true rfl)⟩ rfl hl.1 rfl (Nat.le_of_ble_eq_true rfl) dX11_laysPrint_47) (fun r6 u5 H locs hw h => ?_)
      have c7 := h.1
      have h := h.2
      obtain ⟨u8, eu8⟩ : ∃ q : xM, q = si u5 285 v2.toNatClampNeg r6 := ⟨_, rfl⟩
      have h := h u8 eu8
      refine x_iast C hw (xoM_285 hM) c7 dX11_laysPrint_50 eu8 (fun H locs hw => ?_)
      obtain ⟨x9, ex9⟩ : ∃ y : Int32, y = v2 + 1 := ⟨_, rfl⟩
      have h := h x9 ex9
      refine lv_iinc (v := x9) (lv' := [(2, .int x9), (0, .ref (xad g 272))]) hx hb dX11_laysPrint_51 hl (k := 1) rfl (by rw [ex9]; rfl) (by decide) rfl (fun ls hl => ?_)
      refine lv_goto (tgt := 28) hx hb dX11_laysPrint_54 (by decide) ?_
      exact ih hw (lv_sub hl [1, 0] rfl) h
set_option maxHeartbeats 4000000 in
set_option maxRecDepth 100000 in
theorem s_X11_laysPrint {Qf : xM → Prop} {a1 : Int32} (C : x_C p s m args meth c g RX11 cX11_laysPrint 3 none) (hM : xpM g) {u : xM} {H : Heap} {locs : List Loc} {ls : Array Slot} (hw : x_W g s.heap H locs u) (hl : lv_has ls 3 [(0, .ref (xad g 272)), (1, .int a1)]) (h : p_X11_laysPrint a1 u Qf) : W p l e (x_rm 9 199) s m args below meth c H locs 0 0 (MQ below (x_Qv g Qf) args s 0 0 (x_A g)) (F0 m 0 ls []) := by
  unfold p_X11_laysPrint at h
  have hx := C.1
  have hb := C.2.1
  refine lv_aload_n hx hb dX11_laysPrint_0 rfl (lv_at hl 0 rfl) ?_
  refine lv_sipush (v := 3144) hx hb dX11_laysPrint_1 (by decide) ?_
  refine x_callv hw (x_runV (ci := 11) C hw (m_X11_keeps l C.2.2.2.2.2.2.2.2.1 hM h) (xoM_272 hM) rfl (x_gV xw_1342 xw_1343 xw_1344 xw_5 xw_1345) rfl rfl qX11_keeps ⟨(Nat.le_of_ble_eq_true rfl), (Nat.le_of_ble_eq_true rfl)⟩ rfl hl.1 rfl (Nat.le_of_ble_eq_true rfl) dX11_laysPrint_4) (fun u1 H locs hw h => ?_)
  refine lv_aload_n hx hb dX11_laysPrint_7 rfl (lv_at hl 0 rfl) ?_
  refine lv_iconst (v := 1) hx hb dX11_laysPrint_8 (by decide) ?_
  refine lv_iload_n hx hb dX11_laysPrint_9 rfl (lv_at hl 1 rfl) ?_
  refine lv_ishl hx hb dX11_laysPrint_10 ?_
  obtain ⟨u2, eu2⟩ : ∃ q : xM, q = si u1 272 23 ((1 : Int32) <<< (a1 &&& 31)) := ⟨_, rfl⟩
  have h := h u2 eu2
  refine x_puti (ci := 11) (ty := .int) C hw 23 (xoM_272 hM) rfl inlX11 tyX11_ok nmX11 (by decide) rfl rfl xw_230 rfl (by decide +kernel) rfl rfl dX11_laysPrint_11 eu2 (fun H locs hw => ?_)
  refine lv_aload_n hx hb dX11_laysPrint_14 rfl (lv_at hl 0 rfl) ?_
  refine x_calli hw (x_runV (ci := 11) C hw (m_X11_wipes l C.2.2.2.2.2.2.2.2.1 hM h) (xoM_272 hM) rfl (x_gV xw_1263 xw_1264 xw_1265 xw_5 xw_1266) rfl rfl qX11_wipes ⟨(Nat.le_of_ble_eq_true rfl), (Nat.le_of_ble_eq_true rfl)⟩ rfl hl.1 rfl (Nat.le_of_ble_eq_true rfl) dX11_laysPrint_15) (fun r4 u3 H locs hw h => ?_)
  refine lv_pop hx hb dX11_laysPrint_18 rfl ?_
  refine lv_aload_n hx hb dX11_laysPrint_19 rfl (lv_at hl 0 rfl) ?_
  refine lv_bipush (v := 12) hx hb dX11_laysPrint_20 (by decide) ?_
  refine x_calli hw (x_runV (ci := 11) C hw (m_X11_goes l C.2.2.2.2.2.2.2.2.1 hM h) (xoM_272 hM) rfl (x_gV xw_1200 xw_1201 xw_1202 xw_5 xw_1203) rfl rfl qX11_goes ⟨(Nat.le_of_ble_eq_true rfl), (Nat.le_of_ble_eq_true rfl)⟩ rfl hl.1 rfl (Nat.le_of_ble_eq_true rfl) dX11_laysPrint_22) (fun r6 u5 H locs hw h => ?_)
  refine lv_pop hx hb dX11_laysPrint_25 rfl ?_
  refine lv_iconst (v := 0) hx hb dX11_laysPrint_26 (by decide) ?_
  refine lv_istore_n (lv' := [(2, .int 0), (0, .ref (xad g 272)), (1, .int a1)]) hx hb dX11_laysPrint_27 rfl hl (by decide) rfl (fun ls hl => ?_)
  obtain ⟨n9, h⟩ := h
  exact s_X11_laysPrint_L28 C hM n9 hw (lv_sub hl [1, 0] rfl) h
set_option maxHeartbeats 4000000 in
set_option maxRecDepth 100000 in
theorem m_X11_laysPrint (l : Launch) {g : xG} (hD : x_D g) (hM : xpM g) {a1 : Int32} {u : xM} {Qf : xM → Prop} (h : p_X11_laysPrint a1 u Qf) : Met l yX11_laysPrint (Cond.code yX11_laysPrint cX11_laysPrint 3 none :: wsL_law) (x_rm 9 199) (va_Pc [.ref (xad g 272), .int a1] (x_B g u)) (x_Qv g Qf) 0 0 (x_A g) := by
  refine Met.ofW (cc := cX11_laysPrint) (maxL := 3) (ret := none) (by decide) rfl ?_
  intro p e s m args below meth c s₁ B hml hv
  obtain ⟨rfl, hB⟩ := hv
  obtain ⟨C, hw⟩ := x_start B hml hD hB
  have hl := lv_entry [.ref (xad g 272), .int a1] (n := 3) (Nat.le_of_ble_eq_true rfl)
  rw [lg_entry_eq]
  exact s_X11_laysPrint C hM hw hl h
set_option maxHeartbeats 4000000 in
set_option maxRecDepth 100000 in
theorem s_X11_wrongPrint {Qf : Int32 → xM → Prop} {a1 : Int32} (C : x_C p s m args meth c g RX11 cX11_wrongPrint 2 (some .int)) (hM : xpM g) {u : xM} {H : Heap} {locs : List Loc} {ls : Array Slot} (hw : x_W g s.heap H locs u) (hl : lv_has ls 2 [(0, .ref (xad g 272)), (1, .int a1)]) (h : p_X11_wrongPrint a1 u Qf) : W p l e (x_rm 1 20) s m args below meth c H locs 0 0 (MQ below (x_Qi g Qf) args s 0 0 (x_A g)) (F0 m 0 ls []) := by
  unfold p_X11_wrongPrint at h
  have hx := C.1
  have hb := C.2.1
  refine lv_iload_n hx hb dX11_wrongPrint_0 rfl (lv_at hl 1 rfl) ?_
  refine x_callz hw (x_runS C hw (m_X11_isTray l C.2.2.2.2.2.2.2.2.1  h) (x_gS xw_300 xw_301 xw_5 xw_302) rfl rfl qX11_isTray ⟨(Nat.le_of_ble_eq_true rfl), (Nat.le_of_ble_eq_true rfl)⟩ rfl hl.1 rfl (Nat.le_of_ble_eq_true rfl) dX11_wrongPrint_1) (fun r2 u1 H locs hw h => ?_)
  refine lv_if_ne (tgt := 11) hx hb dX11_wrongPrint_4 (by decide) (fun c3 => ?_) (fun c3 => ?_)
  · have h := h.1 (xb_t c3)
    refine lv_aload_n hx hb dX11_wrongPrint_11 rfl (lv_at hl 0 rfl) ?_
    refine x_getr (ci := 11) C hw 6 (xoM_272 hM) rfl inlX11 (by decide) rfl rfl xrM_272_6 xw_223 dX11_wrongPrint_12 ?_
    refine lv_iload_n hx hb dX11_wrongPrint_15 rfl (lv_at hl 1 rfl) ?_
    have c4 := h.1
    have h := h.2
    refine x_iald C hw (xoM_276 hM) c4 dX11_wrongPrint_16 ?_
    refine lv_iconst (v := -1) hx hb dX11_wrongPrint_17 (by decide) ?_
    refine lv_icmp_ne (tgt := 25) hx hb dX11_wrongPrint_18 (by decide) (fun c5 => ?_) (fun c5 => ?_)
    · have h := h.1 c5
      refine lv_aload_n hx hb dX11_wrongPrint_25 rfl (lv_at hl 0 rfl) ?_
      refine x_getr (ci := 11) C hw 6 (xoM_272 hM) rfl inlX11 (by decide) rfl rfl xrM_272_6 xw_223 dX11_wrongPrint_26 ?_
      refine lv_iload_n hx hb dX11_wrongPrint_29 rfl (lv_at hl 1 rfl) ?_
      have c6 := h.1
      have h := h.2
      refine x_iald C hw (xoM_276 hM) c6 dX11_wrongPrint_30 ?_
      refine lv_aload_n hx hb dX11_wrongPrint_31 rfl (lv_at hl 0 rfl) ?_
      refine x_getr (ci := 11) C hw 0 (xoM_272 hM) rfl inlX11 (by decide) rfl rfl xrM_272_0 xw_219 dX11_wrongPrint_32 ?_
      refine lv_iconst (v := 0) hx hb dX11_wrongPrint_35 (by decide) ?_
      have c7 := h.1
      have h := h.2
      refine x_iald C hw (xoM_273 hM) c7 dX11_wrongPrint_36 ?_
      refine lv_icmp_ge (tgt := 44) hx hb dX11_wrongPrint_37 (by decide) (fun c8 => ?_) (fun c8 => ?_)
      · have h := h.1 c8
        refine lv_iconst (v := 0) hx hb dX11_wrongPrint_44 (by decide) ?_
        exact x_iret C hw h dX11_wrongPrint_45
      · have h := h.2 c8
        refine lv_iconst (v := 3) hx hb dX11_wrongPrint_40 (by decide) ?_
        refine lv_goto (tgt := 45) hx hb dX11_wrongPrint_41 (by decide) ?_
        exact x_iret C hw h dX11_wrongPrint_45
    · have h := h.2 c5
      refine lv_iconst (v := 2) hx hb dX11_wrongPrint_21 (by decide) ?_
      refine lv_goto (tgt := 45) hx hb dX11_wrongPrint_22 (by decide) ?_
      exact x_iret C hw h dX11_wrongPrint_45
  · have h := h.2 (xb_f c3)
    refine lv_iconst (v := 1) hx hb dX11_wrongPrint_7 (by decide) ?_
    refine lv_goto (tgt := 45) hx hb dX11_wrongPrint_8 (by decide) ?_
    exact x_iret C hw h dX11_wrongPrint_45
set_option maxHeartbeats 4000000 in
set_option maxRecDepth 100000 in
theorem m_X11_wrongPrint (l : Launch) {g : xG} (hD : x_D g) (hM : xpM g) {a1 : Int32} {u : xM} {Qf : Int32 → xM → Prop} (h : p_X11_wrongPrint a1 u Qf) : Met l yX11_wrongPrint (Cond.code yX11_wrongPrint cX11_wrongPrint 2 (some .int) :: wsL_law) (x_rm 1 20) (va_Pc [.ref (xad g 272), .int a1] (x_B g u)) (x_Qi g Qf) 0 0 (x_A g) := by
  refine Met.ofW (cc := cX11_wrongPrint) (maxL := 2) (ret := (some .int)) (by decide) rfl ?_
  intro p e s m args below meth c s₁ B hml hv
  obtain ⟨rfl, hB⟩ := hv
  obtain ⟨C, hw⟩ := x_start B hml hD hB
  have hl := lv_entry [.ref (xad g 272), .int a1] (n := 2) (Nat.le_of_ble_eq_true rfl)
  rw [lg_entry_eq]
  exact s_X11_wrongPrint C hM hw hl h
set_option maxHeartbeats 4000000 in
set_option maxRecDepth 100000 in
theorem s_X11_print_L36 {Qf : Int32 → xM → Prop} (C : x_C p s m args meth c g RX11 cX11_print 5 (some .int)) (hM : xpM g) : ∀ (nn : Nat) {v2 : Int32} {v4 : Int32} {u : xM} {H : Heap} {locs : List Loc} {ls : Array Slot} (hw : x_W g s.heap H locs u) (hl : lv_has ls 5 [(0, .ref (xad g 272)), (2, .int v2), (4, .int v4)]) (h : p_X11_print_L36 Qf nn v2 v4 u), W p l e (x_rm 10 221) s m args below meth c H locs 0 0 (MQ below (x_Qi g Qf) args s 0 0 (x_A g)) (F0 m 36 ls []) := by
  intro nn
  induction nn with
  | zero => intro v2 v4 u H locs ls hw hl h; exact h.elim
  | succ nn ih =>
    intro v2 v4 u H locs ls hw hl h
    unfold p_X11_print_L36 at h
    have hx := C.1
    have hb := C.2.1
    refine lv_iload hx hb dX11_print_36 (lv_at hl 2 rfl) ?_
    refine lv_aload_n hx hb dX11_print_38 rfl (lv_at hl 0 rfl) ?_
    refine x_getr (ci := 11) C hw 0 (xoM_272 hM) rfl inlX11 (by decide) rfl rfl xrM_272_0 xw_219 dX11_print_39 ?_
    refine lv_iconst (v := 0) hx hb dX11_print_42 (by decide) ?_
    have c1 := h.1
    have h := h.2
    refine x_iald C hw (xoM_273 hM) c1 dX11_print_43 ?_
    refine lv_icmp_ge (tgt := 82) hx hb dX11_print_44 (by decide) (fun c2 => ?_) (fun c2 => ?_)
    · have h := h.1 c2
      refine lv_aload_n hx hb dX11_print_82 rfl (lv_at hl 0 rfl) ?_
      refine lv_aload_n hx hb dX11_print_83 rfl (lv_at hl 0 rfl) ?_
      refine x_getr (ci := 11) C hw 0 (xoM_272 hM) rfl inlX11 (by decide) rfl rfl xrM_272_0 xw_219 dX11_print_84 ?_
      refine lv_iconst (v := 0) hx hb dX11_print_87 (by decide) ?_
      have c3 := h.1
      have h := h.2
      refine x_iald C hw (xoM_273 hM) c3 dX11_print_88 ?_
      refine x_calli hw (x_runV (ci := 11) C hw (m_X11_gives l C.2.2.2.2.2.2.2.2.1 hM h) (xoM_272 hM) rfl (x_gV xw_731 xw_732 xw_733 xw_5 xw_734) rfl rfl qX11_gives ⟨(Nat.le_of_ble_eq_true rfl), (Nat.le_of_ble_eq_true rfl)⟩ rfl hl.1 rfl (Nat.le_of_ble_eq_true rfl) dX11_print_89) (fun r5 u4 H locs hw h => ?_)
      exact x_iret C hw h dX11_print_92
    · have h := h.2 c2
      refine lv_aload_n hx hb dX11_print_47 rfl (lv_at hl 0 rfl) ?_
      refine x_getr (ci := 11) C hw 7 (xoM_272 hM) rfl inlX11 (by decide) rfl rfl xrM_272_7 xw_224 dX11_print_48 ?_
      refine lv_bipush (v := 60) hx hb dX11_print_51 (by decide) ?_
      refine lv_iload_n hx hb dX11_print_53 rfl (lv_at hl 1 rfl) ?_
      refine lv_imul hx hb dX11_print_54 ?_
      refine lv_iload hx hb dX11_print_55 (lv_at hl 2 rfl) ?_
      refine lv_iadd hx hb dX11_print_57 ?_
      refine lv_aload_n hx hb dX11_print_58 rfl (lv_at hl 0 rfl) ?_
      refine x_getr (ci := 11) C hw 35 (xoM_272 hM) rfl inlX11 (by decide) rfl rfl xrM_272_35 xw_236 dX11_print_59 ?_
      refine lv_iload hx hb dX11_print_62 (lv_at hl 2 rfl) ?_
      have c6 := h.1
      have h := h.2
      refine x_iald C hw (xoM_285 hM) c6 dX11_print_64 ?_
      refine lv_i2l hx hb dX11_print_65 rfl ?_
      refine lv_aload_n hx hb dX11_print_66 rfl (lv_at hl 0 rfl) ?_
      refine x_getr (ci := 11) C hw 5 (xoM_272 hM) rfl inlX11 (by decide) rfl rfl xrM_272_5 xw_222 dX11_print_67 ?_
      refine lv_iload_n hx hb dX11_print_70 rfl (lv_at hl 1 rfl) ?_
      have c7 := h.1
      have h := h.2
      refine x_iald C hw (xoM_275 hM) c7 dX11_print_71 ?_
      refine x_calll hw (x_runS C hw (m_X11_cut l C.2.2.2.2.2.2.2.2.1  h) (x_gS xw_336 xw_337 xw_5 xw_338) rfl rfl qX11_cut ⟨(Nat.le_of_ble_eq_true rfl), (Nat.le_of_ble_eq_true rfl)⟩ rfl hl.1 rfl (Nat.le_of_ble_eq_true rfl) dX11_print_72) (fun r9 u8 H locs hw h => ?_)
      have c10 := h.1
      have h := h.2
      obtain ⟨u11, eu11⟩ : ∃ q : xM, q = sl u8 277 (((60 : Int32) * v2) + v4).toNatClampNeg r9 := ⟨_, rfl⟩
      have h := h u11 eu11
      refine x_last C hw (xoM_277 hM) c10 dX11_print_75 eu11 (fun H locs hw => ?_)
      obtain ⟨x12, ex12⟩ : ∃ y : Int32, y = v4 + 1 := ⟨_, rfl⟩
      have h := h x12 ex12
      refine lv_iinc (v := x12) (lv' := [(4, .int x12), (0, .ref (xad g 272)), (2, .int v2)]) hx hb dX11_print_76 hl (k := 2) rfl (by rw [ex12]; rfl) (by decide) rfl (fun ls hl => ?_)
      refine lv_goto (tgt := 36) hx hb dX11_print_79 (by decide) ?_
      exact ih hw (lv_sub hl [1, 2, 0] rfl) h
set_option maxHeartbeats 4000000 in
set_option maxRecDepth 100000 in
theorem s_X11_print_L17 {Qf : Int32 → xM → Prop} (C : x_C p s m args meth c g RX11 cX11_print 5 (some .int)) (hM : xpM g) {v1 : Int32} {v2 : Int32} {w0 : Int32} {u : xM} {H : Heap} {locs : List Loc} {ls : Array Slot} (hw : x_W g s.heap H locs u) (hl : lv_has ls 5 [(0, .ref (xad g 272)), (1, .int v1), (2, .int v2)]) (h : p_X11_print_L17 Qf v1 v2 w0 u) : W p l e (x_rm 10 221) s m args below meth c H locs 0 0 (MQ below (x_Qi g Qf) args s 0 0 (x_A g)) (F0 m 17 ls [.int w0]) := by
  unfold p_X11_print_L17 at h
  have hx := C.1
  have hb := C.2.1
  refine lv_istore_n (lv' := [(3, .int w0), (0, .ref (xad g 272)), (1, .int v1), (2, .int v2)]) hx hb dX11_print_17 rfl hl (by decide) rfl (fun ls hl => ?_)
  refine lv_iload_n hx hb dX11_print_18 rfl (lv_at hl 0 rfl) ?_
  refine lv_if_le (tgt := 28) hx hb dX11_print_19 (by decide) (fun c1 => ?_) (fun c1 => ?_)
  · have h := h.1 c1
    refine lv_aload_n hx hb dX11_print_28 rfl (lv_at hl 1 rfl) ?_
    refine lv_iload_n hx hb dX11_print_29 rfl (lv_at hl 2 rfl) ?_
    refine x_callv hw (x_runV (ci := 11) C hw (m_X11_laysPrint l C.2.2.2.2.2.2.2.2.1 hM h) (xoM_272 hM) rfl (x_gV xw_1782 xw_1783 xw_1784 xw_5 xw_1785) rfl rfl qX11_laysPrint ⟨(Nat.le_of_ble_eq_true rfl), (Nat.le_of_ble_eq_true rfl)⟩ rfl hl.1 rfl (Nat.le_of_ble_eq_true rfl) dX11_print_30) (fun u2 H locs hw h => ?_)
    refine lv_iconst (v := 0) hx hb dX11_print_33 (by decide) ?_
    refine lv_istore (lv' := [(4, .int 0), (3, .int w0), (0, .ref (xad g 272)), (1, .int v1), (2, .int v2)]) hx hb dX11_print_34 hl (by decide) rfl (fun ls hl => ?_)
    obtain ⟨n9, h⟩ := h
    exact s_X11_print_L36 C hM n9 hw (lv_sub hl [2, 4, 0] rfl) h
  · have h := h.2 c1
    refine lv_aload_n hx hb dX11_print_22 rfl (lv_at hl 1 rfl) ?_
    refine lv_iload_n hx hb dX11_print_23 rfl (lv_at hl 0 rfl) ?_
    refine x_calli hw (x_runV (ci := 11) C hw (m_X11_refuse l C.2.2.2.2.2.2.2.2.1 hM h) (xoM_272 hM) rfl (x_gV xw_657 xw_658 xw_659 xw_5 xw_660) rfl rfl qX11_refuse ⟨(Nat.le_of_ble_eq_true rfl), (Nat.le_of_ble_eq_true rfl)⟩ rfl hl.1 rfl (Nat.le_of_ble_eq_true rfl) dX11_print_24) (fun r4 u3 H locs hw h => ?_)
    exact x_iret C hw h dX11_print_27
set_option maxHeartbeats 4000000 in
set_option maxRecDepth 100000 in
theorem s_X11_print {Qf : Int32 → xM → Prop} {a1 : Int32} {a2 : Int32} (C : x_C p s m args meth c g RX11 cX11_print 5 (some .int)) (hM : xpM g) {u : xM} {H : Heap} {locs : List Loc} {ls : Array Slot} (hw : x_W g s.heap H locs u) (hl : lv_has ls 5 [(0, .ref (xad g 272)), (1, .int a1), (2, .int a2)]) (h : p_X11_print a1 a2 u Qf) : W p l e (x_rm 10 221) s m args below meth c H locs 0 0 (MQ below (x_Qi g Qf) args s 0 0 (x_A g)) (F0 m 0 ls []) := by
  unfold p_X11_print at h
  have hx := C.1
  have hb := C.2.1
  refine lv_aload_n hx hb dX11_print_0 rfl (lv_at hl 0 rfl) ?_
  refine lv_iload_n hx hb dX11_print_1 rfl (lv_at hl 1 rfl) ?_
  refine x_callz hw (x_runV (ci := 11) C hw (m_X11_isDoor l C.2.2.2.2.2.2.2.2.1 hM h) (xoM_272 hM) rfl (x_gV xw_977 xw_978 xw_979 xw_5 xw_980) rfl rfl qX11_isDoor ⟨(Nat.le_of_ble_eq_true rfl), (Nat.le_of_ble_eq_true rfl)⟩ rfl hl.1 rfl (Nat.le_of_ble_eq_true rfl) dX11_print_2) (fun r2 u1 H locs hw h => ?_)
  refine lv_if_eq (tgt := 16) hx hb dX11_print_5 (by decide) (fun c3 => ?_) (fun c3 => ?_)
  · have h := h.1 (xb_f c3)
    refine lv_iconst (v := 1) hx hb dX11_print_16 (by decide) ?_
    exact s_X11_print_L17 C hM hw (lv_sub hl [0, 1, 2] rfl) h
  · have h := h.2 (xb_t c3)
    refine lv_aload_n hx hb dX11_print_8 rfl (lv_at hl 0 rfl) ?_
    refine lv_iload_n hx hb dX11_print_9 rfl (lv_at hl 2 rfl) ?_
    refine x_calli hw (x_runV (ci := 11) C hw (m_X11_wrongPrint l C.2.2.2.2.2.2.2.2.1 hM h) (xoM_272 hM) rfl (x_gV xw_1778 xw_1779 xw_1780 xw_5 xw_1781) rfl rfl qX11_wrongPrint ⟨(Nat.le_of_ble_eq_true rfl), (Nat.le_of_ble_eq_true rfl)⟩ rfl hl.1 rfl (Nat.le_of_ble_eq_true rfl) dX11_print_10) (fun r5 u4 H locs hw h => ?_)
    refine lv_goto (tgt := 17) hx hb dX11_print_13 (by decide) ?_
    exact s_X11_print_L17 C hM hw (lv_sub hl [0, 1, 2] rfl) h
set_option maxHeartbeats 4000000 in
set_option maxRecDepth 100000 in
theorem m_X11_print (l : Launch) {g : xG} (hD : x_D g) (hM : xpM g) {a1 : Int32} {a2 : Int32} {u : xM} {Qf : Int32 → xM → Prop} (h : p_X11_print a1 a2 u Qf) : Met l yX11_print (Cond.code yX11_print cX11_print 5 (some .int) :: wsL_law) (x_rm 10 221) (va_Pc [.ref (xad g 272), .int a1, .int a2] (x_B g u)) (x_Qi g Qf) 0 0 (x_A g) := by
  refine Met.ofW (cc := cX11_print) (maxL := 5) (ret := (some .int)) (by decide) rfl ?_
  intro p e s m args below meth c s₁ B hml hv
  obtain ⟨rfl, hB⟩ := hv
  obtain ⟨C, hw⟩ := x_start B hml hD hB
  have hl := lv_entry [.ref (xad g 272), .int a1, .int a2] (n := 5) (Nat.le_of_ble_eq_true rfl)
  rw [lg_entry_eq]
  exact s_X11_print C hM hw hl h
set_option maxHeartbeats 4000000 in
set_option maxRecDepth 100000 in
theorem s_X11_suspects_L59 {Qf : Int32 → xM → Prop} {K21 : Int32 → Int32 → Int32 → xM → Prop} (C : x_C p s m args meth c g RX11 cX11_suspects 7 (some .int)) (hM : xpM g) (hK21 : ∀ {v1 : Int32} {v3 : Int32} {v4 : Int32} {u : xM} {H : Heap} {locs : List Loc} {ls : Array Slot}, x_W g s.heap H locs u → lv_has ls 7 [(0, .ref (xad g 272)), (1, .int v1), (3, .int v3), (4, .int v4)] → K21 v1 v3 v4 u → W p l e (x_rm 10 221) s m args below meth c H locs 0 0 (MQ below (x_Qi g Qf) args s 0 0 (x_A g)) (F0 m 21 ls [])) : ∀ (nn : Nat) {v1 : Int32} {v3 : Int32} {v4 : Int32} {v5 : Bool} {v6 : Int32} {u : xM} {H : Heap} {locs : List Loc} {ls : Array Slot} (hw : x_W g s.heap H locs u) (hl : lv_has ls 7 [(0, .ref (xad g 272)), (1, .int v1), (3, .int v3), (4, .int v4), (5, .int (xb v5)), (6, .int v6)]) (h : p_X11_suspects_L59 Qf K21 nn v1 v3 v4 v5 v6 u), W p l e (x_rm 10 221) s m args below meth c H locs 0 0 (MQ below (x_Qi g Qf) args s 0 0 (x_A g)) (F0 m 59 ls []) := by
  intro nn
  induction nn with
  | zero => intro v1 v3 v4 v5 v6 u H locs ls hw hl h; exact h.elim
  | succ nn ih =>
    intro v1 v3 v4 v5 v6 u H locs ls hw hl h
    unfold p_X11_suspects_L59 at h
    have hx := C.1
    have hb := C.2.1
    refine lv_iload hx hb dX11_suspects_59 (lv_at hl 5 rfl) ?_
    refine lv_aload_n hx hb dX11_suspects_61 rfl (lv_at hl 0 rfl) ?_
    refine x_getr (ci := 11) C hw 0 (xoM_272 hM) rfl inlX11 (by decide) rfl rfl xrM_272_0 xw_219 dX11_suspects_62 ?_
    refine lv_iconst (v := 0) hx hb dX11_suspects_65 (by decide) ?_
    have c1 := h.1
    have h := h.2
    refine x_iald C hw (xoM_273 hM) c1 dX11_suspects_66 ?_
    refine lv_icmp_ge (tgt := 112) hx hb dX11_suspects_67 (by decide) (fun c2 => ?_) (fun c2 => ?_)
    · have h := h.1 c2
      refine lv_iload_n hx hb dX11_suspects_112 rfl (lv_at hl 2 rfl) ?_
      refine lv_iload hx hb dX11_suspects_113 (lv_at hl 4 rfl) ?_
      refine lv_if_eq (tgt := 125) hx hb dX11_suspects_115 (by decide) (fun c3 => ?_) (fun c3 => ?_)
      · have h := h.1 (xb_f c3)
        refine lv_iconst (v := 0) hx hb dX11_suspects_125 (by decide) ?_
        refine lv_ior hx hb dX11_suspects_126 ?_
        refine lv_topi (fun x4 ex4 => ?_)
        have h := h x4 ex4
        refine lv_istore_n (lv' := [(3, .int x4), (0, .ref (xad g 272)), (1, .int v1), (4, .int v4), (5, .int (xb v5)), (6, .int v6)]) hx hb dX11_suspects_127 rfl hl (by decide) rfl (fun ls hl => ?_)
        obtain ⟨x5, ex5⟩ : ∃ y : Int32, y = v4 + 1 := ⟨_, rfl⟩
        have h := h x5 ex5
        refine lv_iinc (v := x5) (lv' := [(4, .int x5), (3, .int x4), (0, .ref (xad g 272)), (1, .int v1), (5, .int (xb v5)), (6, .int v6)]) hx hb dX11_suspects_128 hl (k := 3) rfl (by rw [ex5]; rfl) (by decide) rfl (fun ls hl => ?_)
        refine lv_goto (tgt := 21) hx hb dX11_suspects_131 (by decide) ?_
        exact hK21 hw (lv_sub hl [2, 3, 1, 0] rfl) h
      · have h := h.2 (xb_t c3)
        refine lv_iconst (v := 1) hx hb dX11_suspects_118 (by decide) ?_
        refine lv_iload hx hb dX11_suspects_119 (lv_at hl 3 rfl) ?_
        refine lv_ishl hx hb dX11_suspects_121 ?_
        refine lv_goto (tgt := 126) hx hb dX11_suspects_122 (by decide) ?_
        refine lv_ior hx hb dX11_suspects_126 ?_
        refine lv_topi (fun x6 ex6 => ?_)
        have h := h x6 ex6
        refine lv_istore_n (lv' := [(3, .int x6), (0, .ref (xad g 272)), (1, .int v1), (4, .int v4), (5, .int (xb v5)), (6, .int v6)]) hx hb dX11_suspects_127 rfl hl (by decide) rfl (fun ls hl => ?_)
        obtain ⟨x7, ex7⟩ : ∃ y : Int32, y = v4 + 1 := ⟨_, rfl⟩
        have h := h x7 ex7
        refine lv_iinc (v := x7) (lv' := [(4, .int x7), (3, .int x6), (0, .ref (xad g 272)), (1, .int v1), (5, .int (xb v5)), (6, .int v6)]) hx hb dX11_suspects_128 hl (k := 3) rfl (by rw [ex7]; rfl) (by decide) rfl (fun ls hl => ?_)
        refine lv_goto (tgt := 21) hx hb dX11_suspects_131 (by decide) ?_
        exact hK21 hw (lv_sub hl [2, 3, 1, 0] rfl) h
    · have h := h.2 c2
      refine lv_iload hx hb dX11_suspects_70 (lv_at hl 4 rfl) ?_
      refine lv_if_eq (tgt := 103) hx hb dX11_suspects_72 (by decide) (fun c8 => ?_) (fun c8 => ?_)
      · have h := h.1 (xb_f c8)
        refine lv_iconst (v := 0) hx hb dX11_suspects_103 (by decide) ?_
        refine lv_istore (lv' := [(5, .int 0), (0, .ref (xad g 272)), (1, .int v1), (3, .int v3), (4, .int v4), (6, .int v6)]) hx hb dX11_suspects_104 hl (by decide) rfl (fun ls hl => ?_)
        obtain ⟨x9, ex9⟩ : ∃ y : Int32, y = v6 + 1 := ⟨_, rfl⟩
        have h := h x9 ex9
        refine lv_iinc (v := x9) (lv' := [(6, .int x9), (5, .int 0), (0, .ref (xad g 272)), (1, .int v1), (3, .int v3), (4, .int v4)]) hx hb dX11_suspects_106 hl (k := 5) rfl (by rw [ex9]; rfl) (by decide) rfl (fun ls hl => ?_)
        refine lv_goto (tgt := 59) hx hb dX11_suspects_109 (by decide) ?_
        exact ih hw (lv_sub hl [2, 3, 4, 5, 1, 0] rfl) h
      · have h := h.2 (xb_t c8)
        refine lv_aload_n hx hb dX11_suspects_75 rfl (lv_at hl 0 rfl) ?_
        refine x_getr (ci := 11) C hw 7 (xoM_272 hM) rfl inlX11 (by decide) rfl rfl xrM_272_7 xw_224 dX11_suspects_76 ?_
        refine lv_bipush (v := 60) hx hb dX11_suspects_79 (by decide) ?_
        refine lv_iload_n hx hb dX11_suspects_81 rfl (lv_at hl 1 rfl) ?_
        refine lv_imul hx hb dX11_suspects_82 ?_
        refine lv_iload hx hb dX11_suspects_83 (lv_at hl 5 rfl) ?_
        refine lv_iadd hx hb dX11_suspects_85 ?_
        have c10 := h.1
        have h := h.2
        refine x_lald C hw (xoM_277 hM) c10 dX11_suspects_86 ?_
        refine lv_aload_n hx hb dX11_suspects_87 rfl (lv_at hl 0 rfl) ?_
        refine x_getr (ci := 11) C hw 35 (xoM_272 hM) rfl inlX11 (by decide) rfl rfl xrM_272_35 xw_236 dX11_suspects_88 ?_
        refine lv_iload hx hb dX11_suspects_91 (lv_at hl 5 rfl) ?_
        have c11 := h.1
        have h := h.2
        refine x_iald C hw (xoM_285 hM) c11 dX11_suspects_93 ?_
        refine lv_i2l hx hb dX11_suspects_94 rfl ?_
        refine W.lcmp hx hb dX11_suspects_95 ?_
        refine lv_if_ne (tgt := 103) hx hb dX11_suspects_96 (by decide) (fun c12 => ?_) (fun c12 => ?_)
        · have h := h.1 c12
          refine lv_iconst (v := 0) hx hb dX11_suspects_103 (by decide) ?_
          refine lv_istore (lv' := [(5, .int 0), (0, .ref (xad g 272)), (1, .int v1), (3, .int v3), (4, .int v4), (6, .int v6)]) hx hb dX11_suspects_104 hl (by decide) rfl (fun ls hl => ?_)
          obtain ⟨x13, ex13⟩ : ∃ y : Int32, y = v6 + 1 := ⟨_, rfl⟩
          have h := h x13 ex13
          refine lv_iinc (v := x13) (lv' := [(6, .int x13), (5, .int 0), (0, .ref (xad g 272)), (1, .int v1), (3, .int v3), (4, .int v4)]) hx hb dX11_suspects_106 hl (k := 5) rfl (by rw [ex13]; rfl) (by decide) rfl (fun ls hl => ?_)
          refine lv_goto (tgt := 59) hx hb dX11_suspects_109 (by decide) ?_
          exact ih hw (lv_sub hl [2, 3, 4, 5, 1, 0] rfl) h
        · have h := h.2 c12
          refine lv_iconst (v := 1) hx hb dX11_suspects_99 (by decide) ?_
          refine lv_goto (tgt := 104) hx hb dX11_suspects_100 (by decide) ?_
          refine lv_istore (lv' := [(5, .int 1), (0, .ref (xad g 272)), (1, .int v1), (3, .int v3), (4, .int v4), (6, .int v6)]) hx hb dX11_suspects_104 hl (by decide) rfl (fun ls hl => ?_)
          obtain ⟨x14, ex14⟩ : ∃ y : Int32, y = v6 + 1 := ⟨_, rfl⟩
          have h := h x14 ex14
          refine lv_iinc (v := x14) (lv' := [(6, .int x14), (5, .int 1), (0, .ref (xad g 272)), (1, .int v1), (3, .int v3), (4, .int v4)]) hx hb dX11_suspects_106 hl (k := 5) rfl (by rw [ex14]; rfl) (by decide) rfl (fun ls hl => ?_)
          refine lv_goto (tgt := 59) hx hb dX11_suspects_109 (by decide) ?_
          exact ih hw (lv_sub hl [2, 3, 4, 5, 1, 0] rfl) h
set_option maxHeartbeats 4000000 in
set_option maxRecDepth 100000 in
theorem s_X11_suspects_L21 {Qf : Int32 → xM → Prop} (C : x_C p s m args meth c g RX11 cX11_suspects 7 (some .int)) (hM : xpM g) : ∀ (nn : Nat) {v1 : Int32} {v3 : Int32} {v4 : Int32} {u : xM} {H : Heap} {locs : List Loc} {ls : Array Slot} (hw : x_W g s.heap H locs u) (hl : lv_has ls 7 [(0, .ref (xad g 272)), (1, .int v1), (3, .int v3), (4, .int v4)]) (h : p_X11_suspects_L21 Qf nn v1 v3 v4 u), W p l e (x_rm 10 221) s m args below meth c H locs 0 0 (MQ below (x_Qi g Qf) args s 0 0 (x_A g)) (F0 m 21 ls []) := by
  intro nn
  induction nn with
  | zero => intro v1 v3 v4 u H locs ls hw hl h; exact h.elim
  | succ nn ih =>
    intro v1 v3 v4 u H locs ls hw hl h
    unfold p_X11_suspects_L21 at h
    have hx := C.1
    have hb := C.2.1
    refine lv_iload hx hb dX11_suspects_21 (lv_at hl 3 rfl) ?_
    refine lv_aload_n hx hb dX11_suspects_23 rfl (lv_at hl 0 rfl) ?_
    refine x_getr (ci := 11) C hw 0 (xoM_272 hM) rfl inlX11 (by decide) rfl rfl xrM_272_0 xw_219 dX11_suspects_24 ?_
    refine lv_iconst (v := 1) hx hb dX11_suspects_27 (by decide) ?_
    have c1 := h.1
    have h := h.2
    refine x_iald C hw (xoM_273 hM) c1 dX11_suspects_28 ?_
    refine lv_icmp_ge (tgt := 134) hx hb dX11_suspects_29 (by decide) (fun c2 => ?_) (fun c2 => ?_)
    · have h := h.1 c2
      refine lv_aload_n hx hb dX11_suspects_134 rfl (lv_at hl 0 rfl) ?_
      refine lv_iload_n hx hb dX11_suspects_135 rfl (lv_at hl 2 rfl) ?_
      refine x_calli hw (x_runV (ci := 11) C hw (m_X11_gives l C.2.2.2.2.2.2.2.2.1 hM h) (xoM_272 hM) rfl (x_gV xw_731 xw_732 xw_733 xw_5 xw_734) rfl rfl qX11_gives ⟨(Nat.le_of_ble_eq_true rfl), (Nat.le_of_ble_eq_true rfl)⟩ rfl hl.1 rfl (Nat.le_of_ble_eq_true rfl) dX11_suspects_136) (fun r4 u3 H locs hw h => ?_)
      exact x_iret C hw h dX11_suspects_139
    · have h := h.2 c2
      refine lv_aload_n hx hb dX11_suspects_32 rfl (lv_at hl 0 rfl) ?_
      refine lv_iload hx hb dX11_suspects_33 (lv_at hl 3 rfl) ?_
      refine lv_bipush (v := 7) hx hb dX11_suspects_35 (by decide) ?_
      refine x_calli hw (x_runV (ci := 11) C hw (m_X11_doorOf l C.2.2.2.2.2.2.2.2.1 hM h) (xoM_272 hM) rfl (x_gV xw_911 xw_912 xw_913 xw_5 xw_914) rfl rfl qX11_doorOf ⟨(Nat.le_of_ble_eq_true rfl), (Nat.le_of_ble_eq_true rfl)⟩ rfl hl.1 rfl (Nat.le_of_ble_eq_true rfl) dX11_suspects_37) (fun r6 u5 H locs hw h => ?_)
      refine lv_iconst (v := 1) hx hb dX11_suspects_40 (by decide) ?_
      refine lv_icmp_ne (tgt := 47) hx hb dX11_suspects_41 (by decide) (fun c7 => ?_) (fun c7 => ?_)
      · have h := h.1 c7
        refine lv_aload_n hx hb dX11_suspects_47 rfl (lv_at hl 0 rfl) ?_
        refine lv_iload hx hb dX11_suspects_48 (lv_at hl 3 rfl) ?_
        refine x_callv hw (x_runV (ci := 11) C hw (m_X11_laysPrint l C.2.2.2.2.2.2.2.2.1 hM h) (xoM_272 hM) rfl (x_gV xw_1782 xw_1783 xw_1784 xw_5 xw_1785) rfl rfl qX11_laysPrint ⟨(Nat.le_of_ble_eq_true rfl), (Nat.le_of_ble_eq_true rfl)⟩ rfl hl.1 rfl (Nat.le_of_ble_eq_true rfl) dX11_suspects_50) (fun u8 H locs hw h => ?_)
        refine lv_iconst (v := 1) hx hb dX11_suspects_53 (by decide) ?_
        refine lv_istore (lv' := [(5, .int 1), (0, .ref (xad g 272)), (1, .int v1), (3, .int v3), (4, .int v4)]) hx hb dX11_suspects_54 hl (by decide) rfl (fun ls hl => ?_)
        refine lv_iconst (v := 0) hx hb dX11_suspects_56 (by decide) ?_
        refine lv_istore (lv' := [(6, .int 0), (5, .int 1), (0, .ref (xad g 272)), (1, .int v1), (3, .int v3), (4, .int v4)]) hx hb dX11_suspects_57 hl (by decide) rfl (fun ls hl => ?_)
        obtain ⟨n9, h⟩ := h
        exact s_X11_suspects_L59 C hM (fun hw hl h => ih hw hl h) n9 hw (lv_sub hl [2, 3, 4, 5, 1, 0] rfl) h
      · have h := h.2 c7
        refine lv_goto (tgt := 128) hx hb dX11_suspects_44 (by decide) ?_
        obtain ⟨x9, ex9⟩ : ∃ y : Int32, y = v4 + 1 := ⟨_, rfl⟩
        have h := h x9 ex9
        refine lv_iinc (v := x9) (lv' := [(4, .int x9), (0, .ref (xad g 272)), (1, .int v1), (3, .int v3)]) hx hb dX11_suspects_128 hl (k := 3) rfl (by rw [ex9]; rfl) (by decide) rfl (fun ls hl => ?_)
        refine lv_goto (tgt := 21) hx hb dX11_suspects_131 (by decide) ?_
        exact ih hw (lv_sub hl [1, 2, 3, 0] rfl) h
set_option maxHeartbeats 4000000 in
set_option maxRecDepth 100000 in
theorem s_X11_suspects {Qf : Int32 → xM → Prop} {a1 : Int32} (C : x_C p s m args meth c g RX11 cX11_suspects 7 (some .int)) (hM : xpM g) {u : xM} {H : Heap} {locs : List Loc} {ls : Array Slot} (hw : x_W g s.heap H locs u) (hl : lv_has ls 7 [(0, .ref (xad g 272)), (1, .int a1)]) (h : p_X11_suspects a1 u Qf) : W p l e (x_rm 10 221) s m args below meth c H locs 0 0 (MQ below (x_Qi g Qf) args s 0 0 (x_A g)) (F0 m 0 ls []) := by
  unfold p_X11_suspects at h
  have hx := C.1
  have hb := C.2.1
  refine lv_aload_n hx hb dX11_suspects_0 rfl (lv_at hl 0 rfl) ?_
  refine lv_iload_n hx hb dX11_suspects_1 rfl (lv_at hl 1 rfl) ?_
  refine x_calli hw (x_runV (ci := 11) C hw (m_X11_wrongPrint l C.2.2.2.2.2.2.2.2.1 hM h) (xoM_272 hM) rfl (x_gV xw_1778 xw_1779 xw_1780 xw_5 xw_1781) rfl rfl qX11_wrongPrint ⟨(Nat.le_of_ble_eq_true rfl), (Nat.le_of_ble_eq_true rfl)⟩ rfl hl.1 rfl (Nat.le_of_ble_eq_true rfl) dX11_suspects_2) (fun r2 u1 H locs hw h => ?_)
  refine lv_istore_n (lv' := [(2, .int r2), (0, .ref (xad g 272)), (1, .int a1)]) hx hb dX11_suspects_5 rfl hl (by decide) rfl (fun ls hl => ?_)
  refine lv_iload_n hx hb dX11_suspects_6 rfl (lv_at hl 0 rfl) ?_
  refine lv_if_le (tgt := 16) hx hb dX11_suspects_7 (by decide) (fun c3 => ?_) (fun c3 => ?_)
  · have h := h.1 c3
    refine lv_iconst (v := 0) hx hb dX11_suspects_16 (by decide) ?_
    refine lv_istore_n (lv' := [(3, .int 0), (2, .int r2), (0, .ref (xad g 272)), (1, .int a1)]) hx hb dX11_suspects_17 rfl hl (by decide) rfl (fun ls hl => ?_)
    refine lv_iconst (v := 0) hx hb dX11_suspects_18 (by decide) ?_
    refine lv_istore (lv' := [(4, .int 0), (3, .int 0), (2, .int r2), (0, .ref (xad g 272)), (1, .int a1)]) hx hb dX11_suspects_19 hl (by decide) rfl (fun ls hl => ?_)
    obtain ⟨n9, h⟩ := h
    exact s_X11_suspects_L21 C hM n9 hw (lv_sub hl [3, 4, 1, 0] rfl) h
  · have h := h.2 c3
    refine lv_aload_n hx hb dX11_suspects_10 rfl (lv_at hl 1 rfl) ?_
    refine lv_iload_n hx hb dX11_suspects_11 rfl (lv_at hl 0 rfl) ?_
    refine x_calli hw (x_runV (ci := 11) C hw (m_X11_refuse l C.2.2.2.2.2.2.2.2.1 hM h) (xoM_272 hM) rfl (x_gV xw_657 xw_658 xw_659 xw_5 xw_660) rfl rfl qX11_refuse ⟨(Nat.le_of_ble_eq_true rfl), (Nat.le_of_ble_eq_true rfl)⟩ rfl hl.1 rfl (Nat.le_of_ble_eq_true rfl) dX11_suspects_12) (fun r5 u4 H locs hw h => ?_)
    exact x_iret C hw h dX11_suspects_15
set_option maxHeartbeats 4000000 in
set_option maxRecDepth 100000 in
theorem m_X11_suspects (l : Launch) {g : xG} (hD : x_D g) (hM : xpM g) {a1 : Int32} {u : xM} {Qf : Int32 → xM → Prop} (h : p_X11_suspects a1 u Qf) : Met l yX11_suspects (Cond.code yX11_suspects cX11_suspects 7 (some .int) :: wsL_law) (x_rm 10 221) (va_Pc [.ref (xad g 272), .int a1] (x_B g u)) (x_Qi g Qf) 0 0 (x_A g) := by
  refine Met.ofW (cc := cX11_suspects) (maxL := 7) (ret := (some .int)) (by decide) rfl ?_
  intro p e s m args below meth c s₁ B hml hv
  obtain ⟨rfl, hB⟩ := hv
  obtain ⟨C, hw⟩ := x_start B hml hD hB
  have hl := lv_entry [.ref (xad g 272), .int a1] (n := 7) (Nat.le_of_ble_eq_true rfl)
  rw [lg_entry_eq]
  exact s_X11_suspects C hM hw hl h
set_option maxHeartbeats 4000000 in
set_option maxRecDepth 100000 in
theorem s_X11_printsOf_L46 {Qf : Int32 → xM → Prop} {K4 : Int32 → Int32 → Int32 → xM → Prop} (C : x_C p s m args meth c g RX11 cX11_printsOf 6 (some .int)) (hM : xpM g) (hK4 : ∀ {v1 : Int32} {v2 : Int32} {v3 : Int32} {u : xM} {H : Heap} {locs : List Loc} {ls : Array Slot}, x_W g s.heap H locs u → lv_has ls 6 [(0, .ref (xad g 272)), (1, .int v1), (2, .int v2), (3, .int v3)] → K4 v1 v2 v3 u → W p l e (x_rm 10 221) s m args below meth c H locs 0 0 (MQ below (x_Qi g Qf) args s 0 0 (x_A g)) (F0 m 4 ls [])) : ∀ (nn : Nat) {v1 : Int32} {v2 : Int32} {v3 : Int32} {v4 : Bool} {v5 : Int32} {u : xM} {H : Heap} {locs : List Loc} {ls : Array Slot} (hw : x_W g s.heap H locs u) (hl : lv_has ls 6 [(0, .ref (xad g 272)), (1, .int v1), (2, .int v2), (3, .int v3), (4, .int (xb v4)), (5, .int v5)]) (h : p_X11_printsOf_L46 Qf K4 nn v1 v2 v3 v4 v5 u), W p l e (x_rm 10 221) s m args below meth c H locs 0 0 (MQ below (x_Qi g Qf) args s 0 0 (x_A g)) (F0 m 46 ls []) := by
  intro nn
  induction nn with
  | zero => intro v1 v2 v3 v4 v5 u H locs ls hw hl h; exact h.elim
  | succ nn ih =>
    intro v1 v2 v3 v4 v5 u H locs ls hw hl h
    unfold p_X11_printsOf_L46 at h
    have hx := C.1
    have hb := C.2.1
    refine lv_iload hx hb dX11_printsOf_46 (lv_at hl 5 rfl) ?_
    refine lv_iload_n hx hb dX11_printsOf_48 rfl (lv_at hl 3 rfl) ?_
    refine lv_icmp_ge (tgt := 86) hx hb dX11_printsOf_49 (by decide) (fun c1 => ?_) (fun c1 => ?_)
    · have h := h.1 c1
      refine lv_aload_n hx hb dX11_printsOf_86 rfl (lv_at hl 0 rfl) ?_
      refine x_getr (ci := 11) C hw 36 (xoM_272 hM) rfl inlX11 (by decide) rfl rfl xrM_272_36 xw_237 dX11_printsOf_87 ?_
      refine lv_iload_n hx hb dX11_printsOf_90 rfl (lv_at hl 3 rfl) ?_
      refine lv_aload_n hx hb dX11_printsOf_91 rfl (lv_at hl 0 rfl) ?_
      refine x_getr (ci := 11) C hw 35 (xoM_272 hM) rfl inlX11 (by decide) rfl rfl xrM_272_35 xw_236 dX11_printsOf_92 ?_
      refine lv_iload_n hx hb dX11_printsOf_95 rfl (lv_at hl 1 rfl) ?_
      have c2 := h.1
      have h := h.2
      refine x_iald C hw (xoM_285 hM) c2 dX11_printsOf_96 ?_
      have c3 := h.1
      have h := h.2
      obtain ⟨u4, eu4⟩ : ∃ q : xM, q = si u 286 v3.toNatClampNeg (gi u 285 v1.toNatClampNeg) := ⟨_, rfl⟩
      have h := h u4 eu4
      refine x_iast C hw (xoM_286 hM) c3 dX11_printsOf_97 eu4 (fun H locs hw => ?_)
      refine lv_iload_n hx hb dX11_printsOf_98 rfl (lv_at hl 2 rfl) ?_
      refine lv_iload hx hb dX11_printsOf_99 (lv_at hl 4 rfl) ?_
      refine lv_if_eq (tgt := 108) hx hb dX11_printsOf_101 (by decide) (fun c5 => ?_) (fun c5 => ?_)
      · have h := h.1 (xb_f c5)
        refine lv_iconst (v := 0) hx hb dX11_printsOf_108 (by decide) ?_
        refine lv_iadd hx hb dX11_printsOf_109 ?_
        refine lv_topi (fun x6 ex6 => ?_)
        have h := h x6 ex6
        refine lv_istore_n (lv' := [(2, .int x6), (0, .ref (xad g 272)), (1, .int v1), (3, .int v3), (4, .int (xb v4)), (5, .int v5)]) hx hb dX11_printsOf_110 rfl hl (by decide) rfl (fun ls hl => ?_)
        obtain ⟨x7, ex7⟩ : ∃ y : Int32, y = v3 + 1 := ⟨_, rfl⟩
        have h := h x7 ex7
        refine lv_iinc (v := x7) (lv' := [(3, .int x7), (2, .int x6), (0, .ref (xad g 272)), (1, .int v1), (4, .int (xb v4)), (5, .int v5)]) hx hb dX11_printsOf_111 hl (k := 3) rfl (by rw [ex7]; rfl) (by decide) rfl (fun ls hl => ?_)
        refine lv_goto (tgt := 4) hx hb dX11_printsOf_114 (by decide) ?_
        exact hK4 hw (lv_sub hl [2, 3, 1, 0] rfl) h
      · have h := h.2 (xb_t c5)
        refine lv_iconst (v := 1) hx hb dX11_printsOf_104 (by decide) ?_
        refine lv_goto (tgt := 109) hx hb dX11_printsOf_105 (by decide) ?_
        refine lv_iadd hx hb dX11_printsOf_109 ?_
        refine lv_topi (fun x8 ex8 => ?_)
        have h := h x8 ex8
        refine lv_istore_n (lv' := [(2, .int x8), (0, .ref (xad g 272)), (1, .int v1), (3, .int v3), (4, .int (xb v4)), (5, .int v5)]) hx hb dX11_printsOf_110 rfl hl (by decide) rfl (fun ls hl => ?_)
        obtain ⟨x9, ex9⟩ : ∃ y : Int32, y = v3 + 1 := ⟨_, rfl⟩
        have h := h x9 ex9
        refine lv_iinc (v := x9) (lv' := [(3, .int x9), (2, .int x8), (0, .ref (xad g 272)), (1, .int v1), (4, .int (xb v4)), (5, .int v5)]) hx hb dX11_printsOf_111 hl (k := 3) rfl (by rw [ex9]; rfl) (by decide) rfl (fun ls hl => ?_)
        refine lv_goto (tgt := 4) hx hb dX11_printsOf_114 (by decide) ?_
        exact hK4 hw (lv_sub hl [2, 3, 1, 0] rfl) h
    · have h := h.2 c1
      refine lv_iload hx hb dX11_printsOf_52 (lv_at hl 4 rfl) ?_
      refine lv_if_eq (tgt := 77) hx hb dX11_printsOf_54 (by decide) (fun c10 => ?_) (fun c10 => ?_)
      · have h := h.1 (xb_f c10)
        refine lv_iconst (v := 0) hx hb dX11_printsOf_77 (by decide) ?_
        refine lv_istore (lv' := [(4, .int 0), (0, .ref (xad g 272)), (1, .int v1), (2, .int v2), (3, .int v3), (5, .int v5)]) hx hb dX11_printsOf_78 hl (by decide) rfl (fun ls hl => ?_)
        obtain ⟨x11, ex11⟩ : ∃ y : Int32, y = v5 + 1 := ⟨_, rfl⟩
        have h := h x11 ex11
        refine lv_iinc (v := x11) (lv' := [(5, .int x11), (4, .int 0), (0, .ref (xad g 272)), (1, .int v1), (2, .int v2), (3, .int v3)]) hx hb dX11_printsOf_80 hl (k := 5) rfl (by rw [ex11]; rfl) (by decide) rfl (fun ls hl => ?_)
        refine lv_goto (tgt := 46) hx hb dX11_printsOf_83 (by decide) ?_
        exact ih hw (lv_sub hl [2, 3, 4, 5, 1, 0] rfl) h
      · have h := h.2 (xb_t c10)
        refine lv_aload_n hx hb dX11_printsOf_57 rfl (lv_at hl 0 rfl) ?_
        refine x_getr (ci := 11) C hw 36 (xoM_272 hM) rfl inlX11 (by decide) rfl rfl xrM_272_36 xw_237 dX11_printsOf_58 ?_
        refine lv_iload hx hb dX11_printsOf_61 (lv_at hl 5 rfl) ?_
        have c12 := h.1
        have h := h.2
        refine x_iald C hw (xoM_286 hM) c12 dX11_printsOf_63 ?_
        refine lv_aload_n hx hb dX11_printsOf_64 rfl (lv_at hl 0 rfl) ?_
        refine x_getr (ci := 11) C hw 35 (xoM_272 hM) rfl inlX11 (by decide) rfl rfl xrM_272_35 xw_236 dX11_printsOf_65 ?_
        refine lv_iload_n hx hb dX11_printsOf_68 rfl (lv_at hl 1 rfl) ?_
        have c13 := h.1
        have h := h.2
        refine x_iald C hw (xoM_285 hM) c13 dX11_printsOf_69 ?_
        refine lv_icmp_eq (tgt := 77) hx hb dX11_printsOf_70 (by decide) (fun c14 => ?_) (fun c14 => ?_)
        · have h := h.1 c14
          refine lv_iconst (v := 0) hx hb dX11_printsOf_77 (by decide) ?_
          refine lv_istore (lv' := [(4, .int 0), (0, .ref (xad g 272)), (1, .int v1), (2, .int v2), (3, .int v3), (5, .int v5)]) hx hb dX11_printsOf_78 hl (by decide) rfl (fun ls hl => ?_)
          obtain ⟨x15, ex15⟩ : ∃ y : Int32, y = v5 + 1 := ⟨_, rfl⟩
          have h := h x15 ex15
          refine lv_iinc (v := x15) (lv' := [(5, .int x15), (4, .int 0), (0, .ref (xad g 272)), (1, .int v1), (2, .int v2), (3, .int v3)]) hx hb dX11_printsOf_80 hl (k := 5) rfl (by rw [ex15]; rfl) (by decide) rfl (fun ls hl => ?_)
          refine lv_goto (tgt := 46) hx hb dX11_printsOf_83 (by decide) ?_
          exact ih hw (lv_sub hl [2, 3, 4, 5, 1, 0] rfl) h
        · have h := h.2 c14
          refine lv_iconst (v := 1) hx hb dX11_printsOf_73 (by decide) ?_
          refine lv_goto (tgt := 78) hx hb dX11_printsOf_74 (by decide) ?_
          refine lv_istore (lv' := [(4, .int 1), (0, .ref (xad g 272)), (1, .int v1), (2, .int v2), (3, .int v3), (5, .int v5)]) hx hb dX11_printsOf_78 hl (by decide) rfl (fun ls hl => ?_)
          obtain ⟨x16, ex16⟩ : ∃ y : Int32, y = v5 + 1 := ⟨_, rfl⟩
          have h := h x16 ex16
          refine lv_iinc (v := x16) (lv' := [(5, .int x16), (4, .int 1), (0, .ref (xad g 272)), (1, .int v1), (2, .int v2), (3, .int v3)]) hx hb dX11_printsOf_80 hl (k := 5) rfl (by rw [ex16]; rfl) (by decide) rfl (fun ls hl => ?_)
          refine lv_goto (tgt := 46) hx hb dX11_printsOf_83 (by decide) ?_
          exact ih hw (lv_sub hl [2, 3, 4, 5, 1, 0] rfl) h
set_option maxHeartbeats 4000000 in
set_option maxRecDepth 100000 in
theorem s_X11_printsOf_L4 {Qf : Int32 → xM → Prop} (C : x_C p s m args meth c g RX11 cX11_printsOf 6 (some .int)) (hM : xpM g) : ∀ (nn : Nat) {v1 : Int32} {v2 : Int32} {v3 : Int32} {u : xM} {H : Heap} {locs : List Loc} {ls : Array Slot} (hw : x_W g s.heap H locs u) (hl : lv_has ls 6 [(0, .ref (xad g 272)), (1, .int v1), (2, .int v2), (3, .int v3)]) (h : p_X11_printsOf_L4 Qf nn v1 v2 v3 u), W p l e (x_rm 10 221) s m args below meth c H locs 0 0 (MQ below (x_Qi g Qf) args s 0 0 (x_A g)) (F0 m 4 ls []) := by
  intro nn
  induction nn with
  | zero => intro v1 v2 v3 u H locs ls hw hl h; exact h.elim
  | succ nn ih =>
    intro v1 v2 v3 u H locs ls hw hl h
    unfold p_X11_printsOf_L4 at h
    have hx := C.1
    have hb := C.2.1
    refine lv_iload_n hx hb dX11_printsOf_4 rfl (lv_at hl 3 rfl) ?_
    refine lv_aload_n hx hb dX11_printsOf_5 rfl (lv_at hl 0 rfl) ?_
    refine x_getr (ci := 11) C hw 0 (xoM_272 hM) rfl inlX11 (by decide) rfl rfl xrM_272_0 xw_219 dX11_printsOf_6 ?_
    refine lv_iconst (v := 1) hx hb dX11_printsOf_9 (by decide) ?_
    have c1 := h.1
    have h := h.2
    refine x_iald C hw (xoM_273 hM) c1 dX11_printsOf_10 ?_
    refine lv_icmp_ge (tgt := 117) hx hb dX11_printsOf_11 (by decide) (fun c2 => ?_) (fun c2 => ?_)
    · have h := h.1 c2
      refine lv_iload_n hx hb dX11_printsOf_117 rfl (lv_at hl 2 rfl) ?_
      exact x_iret C hw h dX11_printsOf_118
    · have h := h.2 c2
      refine lv_aload_n hx hb dX11_printsOf_14 rfl (lv_at hl 0 rfl) ?_
      refine x_getr (ci := 11) C hw 36 (xoM_272 hM) rfl inlX11 (by decide) rfl rfl xrM_272_36 xw_237 dX11_printsOf_15 ?_
      refine lv_iload_n hx hb dX11_printsOf_18 rfl (lv_at hl 3 rfl) ?_
      refine lv_iconst (v := -1) hx hb dX11_printsOf_19 (by decide) ?_
      have c3 := h.1
      have h := h.2
      obtain ⟨u4, eu4⟩ : ∃ q : xM, q = si u 286 v3.toNatClampNeg (-1 : Int32) := ⟨_, rfl⟩
      have h := h u4 eu4
      refine x_iast C hw (xoM_286 hM) c3 dX11_printsOf_20 eu4 (fun H locs hw => ?_)
      refine lv_aload_n hx hb dX11_printsOf_21 rfl (lv_at hl 0 rfl) ?_
      refine lv_iload_n hx hb dX11_printsOf_22 rfl (lv_at hl 3 rfl) ?_
      refine lv_bipush (v := 7) hx hb dX11_printsOf_23 (by decide) ?_
      refine x_calli hw (x_runV (ci := 11) C hw (m_X11_doorOf l C.2.2.2.2.2.2.2.2.1 hM h) (xoM_272 hM) rfl (x_gV xw_911 xw_912 xw_913 xw_5 xw_914) rfl rfl qX11_doorOf ⟨(Nat.le_of_ble_eq_true rfl), (Nat.le_of_ble_eq_true rfl)⟩ rfl hl.1 rfl (Nat.le_of_ble_eq_true rfl) dX11_printsOf_25) (fun r6 u5 H locs hw h => ?_)
      refine lv_iconst (v := 1) hx hb dX11_printsOf_28 (by decide) ?_
      refine lv_icmp_ne (tgt := 35) hx hb dX11_printsOf_29 (by decide) (fun c7 => ?_) (fun c7 => ?_)
      · have h := h.1 c7
        refine lv_aload_n hx hb dX11_printsOf_35 rfl (lv_at hl 0 rfl) ?_
        refine lv_iload_n hx hb dX11_printsOf_36 rfl (lv_at hl 3 rfl) ?_
        refine x_callv hw (x_runV (ci := 11) C hw (m_X11_laysPrint l C.2.2.2.2.2.2.2.2.1 hM h) (xoM_272 hM) rfl (x_gV xw_1782 xw_1783 xw_1784 xw_5 xw_1785) rfl rfl qX11_laysPrint ⟨(Nat.le_of_ble_eq_true rfl), (Nat.le_of_ble_eq_true rfl)⟩ rfl hl.1 rfl (Nat.le_of_ble_eq_true rfl) dX11_printsOf_37) (fun u8 H locs hw h => ?_)
        refine lv_iconst (v := 1) hx hb dX11_printsOf_40 (by decide) ?_
        refine lv_istore (lv' := [(4, .int 1), (0, .ref (xad g 272)), (1, .int v1), (2, .int v2), (3, .int v3)]) hx hb dX11_printsOf_41 hl (by decide) rfl (fun ls hl => ?_)
        refine lv_iconst (v := 0) hx hb dX11_printsOf_43 (by decide) ?_
        refine lv_istore (lv' := [(5, .int 0), (4, .int 1), (0, .ref (xad g 272)), (1, .int v1), (2, .int v2), (3, .int v3)]) hx hb dX11_printsOf_44 hl (by decide) rfl (fun ls hl => ?_)
        obtain ⟨n9, h⟩ := h
        exact s_X11_printsOf_L46 C hM (fun hw hl h => ih hw hl h) n9 hw (lv_sub hl [2, 3, 4, 5, 1, 0] rfl) h
      · have h := h.2 c7
        refine lv_goto (tgt := 111) hx hb dX11_printsOf_32 (by decide) ?_
        obtain ⟨x9, ex9⟩ : ∃ y : Int32, y = v3 + 1 := ⟨_, rfl⟩
        have h := h x9 ex9
        refine lv_iinc (v := x9) (lv' := [(3, .int x9), (0, .ref (xad g 272)), (1, .int v1), (2, .int v2)]) hx hb dX11_printsOf_111 hl (k := 3) rfl (by rw [ex9]; rfl) (by decide) rfl (fun ls hl => ?_)
        refine lv_goto (tgt := 4) hx hb dX11_printsOf_114 (by decide) ?_
        exact ih hw (lv_sub hl [1, 2, 3, 0] rfl) h
set_option maxHeartbeats 4000000 in
set_option maxRecDepth 100000 in
theorem s_X11_printsOf {Qf : Int32 → xM → Prop} {a1 : Int32} (C : x_C p s m args meth c g RX11 cX11_printsOf 6 (some .int)) (hM : xpM g) {u : xM} {H : Heap} {locs : List Loc} {ls : Array Slot} (hw : x_W g s.heap H locs u) (hl : lv_has ls 6 [(0, .ref (xad g 272)), (1, .int a1)]) (h : p_X11_printsOf a1 u Qf) : W p l e (x_rm 10 221) s m args below meth c H locs 0 0 (MQ below (x_Qi g Qf) args s 0 0 (x_A g)) (F0 m 0 ls []) := by
  unfold p_X11_printsOf at h
  have hx := C.1
  have hb := C.2.1
  refine lv_iconst (v := 0) hx hb dX11_printsOf_0 (by decide) ?_
  refine lv_istore_n (lv' := [(2, .int 0), (0, .ref (xad g 272)), (1, .int a1)]) hx hb dX11_printsOf_1 rfl hl (by decide) rfl (fun ls hl => ?_)
  refine lv_iconst (v := 0) hx hb dX11_printsOf_2 (by decide) ?_
  refine lv_istore_n (lv' := [(3, .int 0), (2, .int 0), (0, .ref (xad g 272)), (1, .int a1)]) hx hb dX11_printsOf_3 rfl hl (by decide) rfl (fun ls hl => ?_)
  obtain ⟨n9, h⟩ := h
  exact s_X11_printsOf_L4 C hM n9 hw (lv_sub hl [2, 3, 1, 0] rfl) h
set_option maxHeartbeats 4000000 in
set_option maxRecDepth 100000 in
theorem m_X11_printsOf (l : Launch) {g : xG} (hD : x_D g) (hM : xpM g) {a1 : Int32} {u : xM} {Qf : Int32 → xM → Prop} (h : p_X11_printsOf a1 u Qf) : Met l yX11_printsOf (Cond.code yX11_printsOf cX11_printsOf 6 (some .int) :: wsL_law) (x_rm 10 221) (va_Pc [.ref (xad g 272), .int a1] (x_B g u)) (x_Qi g Qf) 0 0 (x_A g) := by
  refine Met.ofW (cc := cX11_printsOf) (maxL := 6) (ret := (some .int)) (by decide) rfl ?_
  intro p e s m args below meth c s₁ B hml hv
  obtain ⟨rfl, hB⟩ := hv
  obtain ⟨C, hw⟩ := x_start B hml hD hB
  have hl := lv_entry [.ref (xad g 272), .int a1] (n := 6) (Nat.le_of_ble_eq_true rfl)
  rw [lg_entry_eq]
  exact s_X11_printsOf C hM hw hl h
set_option maxHeartbeats 4000000 in
set_option maxRecDepth 100000 in
theorem s_X11_telling_L6 {Qf : Int32 → xM → Prop} (C : x_C p s m args meth c g RX11 cX11_telling 5 (some .int)) (hM : xpM g) : ∀ (nn : Nat) {v1 : Int32} {v2 : Int32} {v3 : Int32} {u : xM} {H : Heap} {locs : List Loc} {ls : Array Slot} (hw : x_W g s.heap H locs u) (hl : lv_has ls 5 [(0, .ref (xad g 272)), (1, .int v1), (2, .int v2), (3, .int v3)]) (h : p_X11_telling_L6 Qf nn v1 v2 v3 u), W p l e (x_rm 11 246) s m args below meth c H locs 0 0 (MQ below (x_Qi g Qf) args s 0 0 (x_A g)) (F0 m 6 ls []) := by
  intro nn
  induction nn with
  | zero => intro v1 v2 v3 u H locs ls hw hl h; exact h.elim
  | succ nn ih =>
    intro v1 v2 v3 u H locs ls hw hl h
    unfold p_X11_telling_L6 at h
    have hx := C.1
    have hb := C.2.1
    refine lv_iload_n hx hb dX11_telling_6 rfl (lv_at hl 3 rfl) ?_
    refine lv_aload_n hx hb dX11_telling_7 rfl (lv_at hl 0 rfl) ?_
    refine x_getr (ci := 11) C hw 0 (xoM_272 hM) rfl inlX11 (by decide) rfl rfl xrM_272_0 xw_219 dX11_telling_8 ?_
    refine lv_iconst (v := 0) hx hb dX11_telling_11 (by decide) ?_
    have c1 := h.1
    have h := h.2
    refine x_iald C hw (xoM_273 hM) c1 dX11_telling_12 ?_
    refine lv_icmp_ge (tgt := 43) hx hb dX11_telling_13 (by decide) (fun c2 => ?_) (fun c2 => ?_)
    · have h := h.1 c2
      refine lv_aload_n hx hb dX11_telling_43 rfl (lv_at hl 0 rfl) ?_
      refine lv_iload_n hx hb dX11_telling_44 rfl (lv_at hl 1 rfl) ?_
      refine x_calli hw (x_runV (ci := 11) C hw (m_X11_orNone l C.2.2.2.2.2.2.2.2.1 hM h) (xoM_272 hM) rfl (x_gV xw_1094 xw_1095 xw_1096 xw_5 xw_1097) rfl rfl qX11_orNone ⟨(Nat.le_of_ble_eq_true rfl), (Nat.le_of_ble_eq_true rfl)⟩ rfl hl.1 rfl (Nat.le_of_ble_eq_true rfl) dX11_telling_45) (fun r4 u3 H locs hw h => ?_)
      exact x_iret C hw h dX11_telling_48
    · have h := h.2 c2
      refine lv_aload_n hx hb dX11_telling_16 rfl (lv_at hl 0 rfl) ?_
      refine lv_iload_n hx hb dX11_telling_17 rfl (lv_at hl 3 rfl) ?_
      refine x_calli hw (x_runV (ci := 11) C hw (m_X11_printsOf l C.2.2.2.2.2.2.2.2.1 hM h) (xoM_272 hM) rfl (x_gV xw_1815 xw_1816 xw_1817 xw_5 xw_1818) rfl rfl qX11_printsOf ⟨(Nat.le_of_ble_eq_true rfl), (Nat.le_of_ble_eq_true rfl)⟩ rfl hl.1 rfl (Nat.le_of_ble_eq_true rfl) dX11_telling_18) (fun r6 u5 H locs hw h => ?_)
      refine lv_istore (lv' := [(4, .int r6), (0, .ref (xad g 272)), (1, .int v1), (2, .int v2), (3, .int v3)]) hx hb dX11_telling_21 hl (by decide) rfl (fun ls hl => ?_)
      refine lv_iload hx hb dX11_telling_23 (lv_at hl 0 rfl) ?_
      refine lv_iload_n hx hb dX11_telling_25 rfl (lv_at hl 3 rfl) ?_
      refine lv_icmp_gt (tgt := 32) hx hb dX11_telling_26 (by decide) (fun c7 => ?_) (fun c7 => ?_)
      · have h := h.1 c7
        refine lv_iload hx hb dX11_telling_32 (lv_at hl 0 rfl) ?_
        refine lv_istore_n (lv' := [(2, .int r6), (4, .int r6), (0, .ref (xad g 272)), (1, .int v1), (3, .int v3)]) hx hb dX11_telling_34 rfl hl (by decide) rfl (fun ls hl => ?_)
        refine lv_iload_n hx hb dX11_telling_35 rfl (lv_at hl 4 rfl) ?_
        refine lv_istore_n (lv' := [(1, .int v3), (2, .int r6), (4, .int r6), (0, .ref (xad g 272)), (3, .int v3)]) hx hb dX11_telling_36 rfl hl (by decide) rfl (fun ls hl => ?_)
        obtain ⟨x8, ex8⟩ : ∃ y : Int32, y = v3 + 1 := ⟨_, rfl⟩
        have h := h x8 ex8
        refine lv_iinc (v := x8) (lv' := [(3, .int x8), (1, .int v3), (2, .int r6), (4, .int r6), (0, .ref (xad g 272))]) hx hb dX11_telling_37 hl (k := 4) rfl (by rw [ex8]; rfl) (by decide) rfl (fun ls hl => ?_)
        refine lv_goto (tgt := 6) hx hb dX11_telling_40 (by decide) ?_
        exact ih hw (lv_sub hl [4, 1, 2, 0] rfl) h
      · have h := h.2 c7
        refine lv_goto (tgt := 37) hx hb dX11_telling_29 (by decide) ?_
        obtain ⟨x9, ex9⟩ : ∃ y : Int32, y = v3 + 1 := ⟨_, rfl⟩
        have h := h x9 ex9
        refine lv_iinc (v := x9) (lv' := [(3, .int x9), (4, .int r6), (0, .ref (xad g 272)), (1, .int v1), (2, .int v2)]) hx hb dX11_telling_37 hl (k := 4) rfl (by rw [ex9]; rfl) (by decide) rfl (fun ls hl => ?_)
        refine lv_goto (tgt := 6) hx hb dX11_telling_40 (by decide) ?_
        exact ih hw (lv_sub hl [2, 3, 4, 0] rfl) h
set_option maxHeartbeats 4000000 in
set_option maxRecDepth 100000 in
theorem s_X11_telling {Qf : Int32 → xM → Prop} (C : x_C p s m args meth c g RX11 cX11_telling 5 (some .int)) (hM : xpM g) {u : xM} {H : Heap} {locs : List Loc} {ls : Array Slot} (hw : x_W g s.heap H locs u) (hl : lv_has ls 5 [(0, .ref (xad g 272))]) (h : p_X11_telling  u Qf) : W p l e (x_rm 11 246) s m args below meth c H locs 0 0 (MQ below (x_Qi g Qf) args s 0 0 (x_A g)) (F0 m 0 ls []) := by
  unfold p_X11_telling at h
  have hx := C.1
  have hb := C.2.1
  refine lv_iconst (v := -1) hx hb dX11_telling_0 (by decide) ?_
  refine lv_istore_n (lv' := [(1, .int (-1)), (0, .ref (xad g 272))]) hx hb dX11_telling_1 rfl hl (by decide) rfl (fun ls hl => ?_)
  refine lv_iconst (v := -1) hx hb dX11_telling_2 (by decide) ?_
  refine lv_istore_n (lv' := [(2, .int (-1)), (1, .int (-1)), (0, .ref (xad g 272))]) hx hb dX11_telling_3 rfl hl (by decide) rfl (fun ls hl => ?_)
  refine lv_iconst (v := 0) hx hb dX11_telling_4 (by decide) ?_
  refine lv_istore_n (lv' := [(3, .int 0), (2, .int (-1)), (1, .int (-1)), (0, .ref (xad g 272))]) hx hb dX11_telling_5 rfl hl (by decide) rfl (fun ls hl => ?_)
  obtain ⟨n9, h⟩ := h
  exact s_X11_telling_L6 C hM n9 hw (lv_sub hl [3, 2, 1, 0] rfl) h
set_option maxHeartbeats 4000000 in
set_option maxRecDepth 100000 in
theorem m_X11_telling (l : Launch) {g : xG} (hD : x_D g) (hM : xpM g) {u : xM} {Qf : Int32 → xM → Prop} (h : p_X11_telling  u Qf) : Met l yX11_telling (Cond.code yX11_telling cX11_telling 5 (some .int) :: wsL_law) (x_rm 11 246) (va_Pc [.ref (xad g 272)] (x_B g u)) (x_Qi g Qf) 0 0 (x_A g) := by
  refine Met.ofW (cc := cX11_telling) (maxL := 5) (ret := (some .int)) (by decide) rfl ?_
  intro p e s m args below meth c s₁ B hml hv
  obtain ⟨rfl, hB⟩ := hv
  obtain ⟨C, hw⟩ := x_start B hml hD hB
  have hl := lv_entry [.ref (xad g 272)] (n := 5) (Nat.le_of_ble_eq_true rfl)
  rw [lg_entry_eq]
  exact s_X11_telling C hM hw hl h
set_option maxHeartbeats 4000000 in
set_option maxRecDepth 100000 in
theorem s_X11_prints {Qf : Int32 → xM → Prop} {a1 : Int32} (C : x_C p s m args meth c g RX11 cX11_prints 2 (some .int)) (hM : xpM g) {u : xM} {H : Heap} {locs : List Loc} {ls : Array Slot} (hw : x_W g s.heap H locs u) (hl : lv_has ls 2 [(0, .ref (xad g 272)), (1, .int a1)]) (h : p_X11_prints a1 u Qf) : W p l e (x_rm 11 246) s m args below meth c H locs 0 0 (MQ below (x_Qi g Qf) args s 0 0 (x_A g)) (F0 m 0 ls []) := by
  unfold p_X11_prints at h
  have hx := C.1
  have hb := C.2.1
  refine lv_aload_n hx hb dX11_prints_0 rfl (lv_at hl 0 rfl) ?_
  refine lv_iload_n hx hb dX11_prints_1 rfl (lv_at hl 1 rfl) ?_
  refine x_callz hw (x_runV (ci := 11) C hw (m_X11_isRoom l C.2.2.2.2.2.2.2.2.1 hM h) (xoM_272 hM) rfl (x_gV xw_945 xw_946 xw_947 xw_5 xw_948) rfl rfl qX11_isRoom ⟨(Nat.le_of_ble_eq_true rfl), (Nat.le_of_ble_eq_true rfl)⟩ rfl hl.1 rfl (Nat.le_of_ble_eq_true rfl) dX11_prints_2) (fun r2 u1 H locs hw h => ?_)
  refine lv_if_eq (tgt := 20) hx hb dX11_prints_5 (by decide) (fun c3 => ?_) (fun c3 => ?_)
  · have h := h.1 (xb_f c3)
    refine lv_aload_n hx hb dX11_prints_20 rfl (lv_at hl 0 rfl) ?_
    refine lv_iconst (v := 1) hx hb dX11_prints_21 (by decide) ?_
    refine x_calli hw (x_runV (ci := 11) C hw (m_X11_refuse l C.2.2.2.2.2.2.2.2.1 hM h) (xoM_272 hM) rfl (x_gV xw_657 xw_658 xw_659 xw_5 xw_660) rfl rfl qX11_refuse ⟨(Nat.le_of_ble_eq_true rfl), (Nat.le_of_ble_eq_true rfl)⟩ rfl hl.1 rfl (Nat.le_of_ble_eq_true rfl) dX11_prints_22) (fun r5 u4 H locs hw h => ?_)
    exact x_iret C hw h dX11_prints_25
  · have h := h.2 (xb_t c3)
    refine lv_aload_n hx hb dX11_prints_8 rfl (lv_at hl 0 rfl) ?_
    refine lv_aload_n hx hb dX11_prints_9 rfl (lv_at hl 0 rfl) ?_
    refine lv_iload_n hx hb dX11_prints_10 rfl (lv_at hl 1 rfl) ?_
    refine x_calli hw (x_runV (ci := 11) C hw (m_X11_printsOf l C.2.2.2.2.2.2.2.2.1 hM h) (xoM_272 hM) rfl (x_gV xw_1815 xw_1816 xw_1817 xw_5 xw_1818) rfl rfl qX11_printsOf ⟨(Nat.le_of_ble_eq_true rfl), (Nat.le_of_ble_eq_true rfl)⟩ rfl hl.1 rfl (Nat.le_of_ble_eq_true rfl) dX11_prints_11) (fun r7 u6 H locs hw h => ?_)
    refine x_calli hw (x_runV (ci := 11) C hw (m_X11_gives l C.2.2.2.2.2.2.2.2.1 hM h) (xoM_272 hM) rfl (x_gV xw_731 xw_732 xw_733 xw_5 xw_734) rfl rfl qX11_gives ⟨(Nat.le_of_ble_eq_true rfl), (Nat.le_of_ble_eq_true rfl)⟩ rfl hl.1 rfl (Nat.le_of_ble_eq_true rfl) dX11_prints_14) (fun r9 u8 H locs hw h => ?_)
    refine lv_goto (tgt := 25) hx hb dX11_prints_17 (by decide) ?_
    exact x_iret C hw h dX11_prints_25
set_option maxHeartbeats 4000000 in
set_option maxRecDepth 100000 in
theorem m_X11_prints (l : Launch) {g : xG} (hD : x_D g) (hM : xpM g) {a1 : Int32} {u : xM} {Qf : Int32 → xM → Prop} (h : p_X11_prints a1 u Qf) : Met l yX11_prints (Cond.code yX11_prints cX11_prints 2 (some .int) :: wsL_law) (x_rm 11 246) (va_Pc [.ref (xad g 272), .int a1] (x_B g u)) (x_Qi g Qf) 0 0 (x_A g) := by
  refine Met.ofW (cc := cX11_prints) (maxL := 2) (ret := (some .int)) (by decide) rfl ?_
  intro p e s m args below meth c s₁ B hml hv
  obtain ⟨rfl, hB⟩ := hv
  obtain ⟨C, hw⟩ := x_start B hml hD hB
  have hl := lv_entry [.ref (xad g 272), .int a1] (n := 2) (Nat.le_of_ble_eq_true rfl)
  rw [lg_entry_eq]
  exact s_X11_prints C hM hw hl h
set_option maxHeartbeats 4000000 in
set_option maxRecDepth 100000 in
theorem s_X11_draw {Qf : Int32 → xM → Prop} {a1 : Int32} (C : x_C p s m args meth c g RX11 cX11_draw 2 (some .int)) (hM : xpM g) {u : xM} {H : Heap} {locs : List Loc} {ls : Array Slot} (hw : x_W g s.heap H locs u) (hl : lv_has ls 2 [(0, .ref (xad g 272)), (1, .int a1)]) (h : p_X11_draw a1 u Qf) : W p l e (x_rm 0 0) s m args below meth c H locs 0 0 (MQ below (x_Qi g Qf) args s 0 0 (x_A g)) (F0 m 0 ls []) := by
  unfold p_X11_draw at h
  have hx := C.1
  have hb := C.2.1
  refine lv_aload_n hx hb dX11_draw_0 rfl (lv_at hl 0 rfl) ?_
  refine lv_aload_n hx hb dX11_draw_1 rfl (lv_at hl 0 rfl) ?_
  refine x_geti (ci := 11) C hw 37 (xoM_272 hM) rfl inlX11 (by decide) rfl rfl xw_1907 dX11_draw_2 ?_
  refine lv_sipush (v := 3011) hx hb dX11_draw_5 (by decide) ?_
  refine lv_imul hx hb dX11_draw_8 ?_
  refine lv_sipush (v := 11213) hx hb dX11_draw_9 (by decide) ?_
  refine lv_iadd hx hb dX11_draw_12 ?_
  refine lv_ldcw (v := 65536) hx hb C.2.2.2.1 (C.2.2.2.2.1 _ xw_1928) dX11_draw_13 ?_
  refine lv_irem hx hb dX11_draw_16 (by decide) ?_
  refine lv_topi (fun x1 ex1 => ?_)
  have h := h x1 ex1
  obtain ⟨u2, eu2⟩ : ∃ q : xM, q = si u 272 37 x1 := ⟨_, rfl⟩
  have h := h u2 eu2
  refine x_puti (ci := 11) (ty := .int) C hw 37 (xoM_272 hM) rfl inlX11 tyX11_ok nmX11 (by decide) rfl rfl xw_1907 rfl (by decide +kernel) rfl rfl dX11_draw_17 eu2 (fun H locs hw => ?_)
  refine lv_aload_n hx hb dX11_draw_20 rfl (lv_at hl 0 rfl) ?_
  refine x_geti (ci := 11) C hw 37 (xoM_272 hM) rfl inlX11 (by decide) rfl rfl xw_1907 dX11_draw_21 ?_
  refine lv_bipush (v := 8) hx hb dX11_draw_24 (by decide) ?_
  refine lv_idiv hx hb dX11_draw_26 (by decide) ?_
  refine lv_iload_n hx hb dX11_draw_27 rfl (lv_at hl 1 rfl) ?_
  have c3 := h.1
  have h := h.2
  refine lv_irem hx hb dX11_draw_28 c3 ?_
  refine lv_topi (fun x4 ex4 => ?_)
  have h := h x4 ex4
  exact x_iret C hw h dX11_draw_29
set_option maxHeartbeats 4000000 in
set_option maxRecDepth 100000 in
theorem m_X11_draw (l : Launch) {g : xG} (hD : x_D g) (hM : xpM g) {a1 : Int32} {u : xM} {Qf : Int32 → xM → Prop} (h : p_X11_draw a1 u Qf) : Met l yX11_draw (Cond.code yX11_draw cX11_draw 2 (some .int) :: wsL_law) (x_rm 0 0) (va_Pc [.ref (xad g 272), .int a1] (x_B g u)) (x_Qi g Qf) 0 0 (x_A g) := by
  refine Met.ofW (cc := cX11_draw) (maxL := 2) (ret := (some .int)) (by decide) rfl ?_
  intro p e s m args below meth c s₁ B hml hv
  obtain ⟨rfl, hB⟩ := hv
  obtain ⟨C, hw⟩ := x_start B hml hD hB
  have hl := lv_entry [.ref (xad g 272), .int a1] (n := 2) (Nat.le_of_ble_eq_true rfl)
  rw [lg_entry_eq]
  exact s_X11_draw C hM hw hl h
set_option maxHeartbeats 4000000 in
set_option maxRecDepth 100000 in
theorem s_X11_hoursGo_L18 {Qf : Bool → xM → Prop} (C : x_C p s m args meth c g RX11 cX11_hoursGo 3 (some .boolean)) (hM : xpM g) : ∀ (nn : Nat) {v1 : Int32} {v2 : Int32} {u : xM} {H : Heap} {locs : List Loc} {ls : Array Slot} (hw : x_W g s.heap H locs u) (hl : lv_has ls 3 [(0, .ref (xad g 272)), (1, .int v1), (2, .int v2)]) (h : p_X11_hoursGo_L18 Qf nn v1 v2 u), W p l e (x_rm 8 176) s m args below meth c H locs 0 0 (MQ below (x_Qz g Qf) args s 0 0 (x_A g)) (F0 m 18 ls []) := by
  intro nn
  induction nn with
  | zero => intro v1 v2 u H locs ls hw hl h; exact h.elim
  | succ nn ih =>
    intro v1 v2 u H locs ls hw hl h
    unfold p_X11_hoursGo_L18 at h
    have hx := C.1
    have hb := C.2.1
    refine lv_iload_n hx hb dX11_hoursGo_18 rfl (lv_at hl 2 rfl) ?_
    refine lv_iload_n hx hb dX11_hoursGo_19 rfl (lv_at hl 1 rfl) ?_
    refine lv_icmp_ge (tgt := 45) hx hb dX11_hoursGo_20 (by decide) (fun c1 => ?_) (fun c1 => ?_)
    · have h := h.1 c1
      refine lv_aload_n hx hb dX11_hoursGo_45 rfl (lv_at hl 0 rfl) ?_
      refine x_getr (ci := 11) C hw 40 (xoM_272 hM) rfl inlX11 (by decide) rfl rfl xrM_272_40 xw_239 dX11_hoursGo_46 ?_
      refine lv_iconst (v := 1) hx hb dX11_hoursGo_49 (by decide) ?_
      refine lv_dup2_11 hx hb dX11_hoursGo_50 rfl rfl ?_
      have c2 := h.1
      have h := h.2
      refine x_iald C hw (xoM_288 hM) c2 dX11_hoursGo_51 ?_
      refine lv_iload_n hx hb dX11_hoursGo_52 rfl (lv_at hl 1 rfl) ?_
      refine lv_iadd hx hb dX11_hoursGo_53 ?_
      have c3 := h.1
      have h := h.2
      obtain ⟨u4, eu4⟩ : ∃ q : xM, q = si u 288 (1 : Int32).toNatClampNeg ((gi u 288 (1 : Int32).toNatClampNeg) + v1) := ⟨_, rfl⟩
      have h := h u4 eu4
      refine x_iast C hw (xoM_288 hM) c3 dX11_hoursGo_54 eu4 (fun H locs hw => ?_)
      refine lv_iconst (v := 1) hx hb dX11_hoursGo_55 (by decide) ?_
      exact x_zret true C hw h rfl dX11_hoursGo_56
    · have h := h.2 c1
      refine lv_aload_n hx hb dX11_hoursGo_23 rfl (lv_at hl 0 rfl) ?_
      refine x_getr (ci := 11) C hw 40 (xoM_272 hM) rfl inlX11 (by decide) rfl rfl xrM_272_40 xw_239 dX11_hoursGo_24 ?_
      refine lv_iconst (v := 3) hx hb dX11_hoursGo_27 (by decide) ?_
      refine lv_dup2_11 hx hb dX11_hoursGo_28 rfl rfl ?_
      have c5 := h.1
      have h := h.2
      refine x_iald C hw (xoM_288 hM) c5 dX11_hoursGo_29 ?_
      refine lv_aload_n hx hb dX11_hoursGo_30 rfl (lv_at hl 0 rfl) ?_
      refine x_calli hw (x_runV (ci := 11) C hw (m_X11_goesBy l C.2.2.2.2.2.2.2.2.1 hM h) (xoM_272 hM) rfl (x_gV xw_1204 xw_1205 xw_1206 xw_5 xw_1207) rfl rfl qX11_goesBy ⟨(Nat.le_of_ble_eq_true rfl), (Nat.le_of_ble_eq_true rfl)⟩ rfl hl.1 rfl (Nat.le_of_ble_eq_true rfl) dX11_hoursGo_31) (fun r7 u6 H locs hw h => ?_)
      refine x_calli hw (x_runS C hw (m_X11_bits l C.2.2.2.2.2.2.2.2.1  h) (x_gS xw_1320 xw_1321 xw_5 xw_1322) rfl rfl qX11_bits ⟨(Nat.le_of_ble_eq_true rfl), (Nat.le_of_ble_eq_true rfl)⟩ rfl hl.1 rfl (Nat.le_of_ble_eq_true rfl) dX11_hoursGo_34) (fun r9 u8 H locs hw h => ?_)
      refine lv_iadd hx hb dX11_hoursGo_37 ?_
      have c10 := h.1
      have h := h.2
      obtain ⟨u11, eu11⟩ : ∃ q : xM, q = si u8 288 (3 : Int32).toNatClampNeg ((gi u 288 (3 : Int32).toNatClampNeg) + r9) := ⟨_, rfl⟩
      have h := h u11 eu11
      refine x_iast C hw (xoM_288 hM) c10 dX11_hoursGo_38 eu11 (fun H locs hw => ?_)
      obtain ⟨x12, ex12⟩ : ∃ y : Int32, y = v2 + 1 := ⟨_, rfl⟩
      have h := h x12 ex12
      refine lv_iinc (v := x12) (lv' := [(2, .int x12), (0, .ref (xad g 272)), (1, .int v1)]) hx hb dX11_hoursGo_39 hl (k := 2) rfl (by rw [ex12]; rfl) (by decide) rfl (fun ls hl => ?_)
      refine lv_goto (tgt := 18) hx hb dX11_hoursGo_42 (by decide) ?_
      exact ih hw (lv_sub hl [1, 2, 0] rfl) h
set_option maxHeartbeats 4000000 in
set_option maxRecDepth 100000 in
theorem s_X11_hoursGo {Qf : Bool → xM → Prop} {a1 : Int32} (C : x_C p s m args meth c g RX11 cX11_hoursGo 3 (some .boolean)) (hM : xpM g) {u : xM} {H : Heap} {locs : List Loc} {ls : Array Slot} (hw : x_W g s.heap H locs u) (hl : lv_has ls 3 [(0, .ref (xad g 272)), (1, .int a1)]) (h : p_X11_hoursGo a1 u Qf) : W p l e (x_rm 8 176) s m args below meth c H locs 0 0 (MQ below (x_Qz g Qf) args s 0 0 (x_A g)) (F0 m 0 ls []) := by
  unfold p_X11_hoursGo at h
  have hx := C.1
  have hb := C.2.1
  refine lv_aload_n hx hb dX11_hoursGo_0 rfl (lv_at hl 0 rfl) ?_
  refine x_getr (ci := 11) C hw 0 (xoM_272 hM) rfl inlX11 (by decide) rfl rfl xrM_272_0 xw_219 dX11_hoursGo_1 ?_
  refine lv_iconst (v := 3) hx hb dX11_hoursGo_4 (by decide) ?_
  have c1 := h.1
  have h := h.2
  refine x_iald C hw (xoM_273 hM) c1 dX11_hoursGo_5 ?_
  refine lv_iload_n hx hb dX11_hoursGo_6 rfl (lv_at hl 1 rfl) ?_
  refine lv_iadd hx hb dX11_hoursGo_7 ?_
  refine lv_sipush (v := 9999) hx hb dX11_hoursGo_8 (by decide) ?_
  refine lv_icmp_le (tgt := 16) hx hb dX11_hoursGo_11 (by decide) (fun c2 => ?_) (fun c2 => ?_)
  · have h := h.1 c2
    refine lv_iconst (v := 0) hx hb dX11_hoursGo_16 (by decide) ?_
    refine lv_istore_n (lv' := [(2, .int 0), (0, .ref (xad g 272)), (1, .int a1)]) hx hb dX11_hoursGo_17 rfl hl (by decide) rfl (fun ls hl => ?_)
    obtain ⟨n9, h⟩ := h
    exact s_X11_hoursGo_L18 C hM n9 hw (lv_sub hl [1, 2, 0] rfl) h
  · have h := h.2 c2
    refine lv_iconst (v := 0) hx hb dX11_hoursGo_14 (by decide) ?_
    exact x_zret false C hw h rfl dX11_hoursGo_15
set_option maxHeartbeats 4000000 in
set_option maxRecDepth 100000 in
theorem m_X11_hoursGo (l : Launch) {g : xG} (hD : x_D g) (hM : xpM g) {a1 : Int32} {u : xM} {Qf : Bool → xM → Prop} (h : p_X11_hoursGo a1 u Qf) : Met l yX11_hoursGo (Cond.code yX11_hoursGo cX11_hoursGo 3 (some .boolean) :: wsL_law) (x_rm 8 176) (va_Pc [.ref (xad g 272), .int a1] (x_B g u)) (x_Qz g Qf) 0 0 (x_A g) := by
  refine Met.ofW (cc := cX11_hoursGo) (maxL := 3) (ret := (some .boolean)) (by decide) rfl ?_
  intro p e s m args below meth c s₁ B hml hv
  obtain ⟨rfl, hB⟩ := hv
  obtain ⟨C, hw⟩ := x_start B hml hD hB
  have hl := lv_entry [.ref (xad g 272), .int a1] (n := 3) (Nat.le_of_ble_eq_true rfl)
  rw [lg_entry_eq]
  exact s_X11_hoursGo C hM hw hl h
set_option maxHeartbeats 4000000 in
set_option maxRecDepth 100000 in
theorem s_X11_bailsBy {Qf : Bool → xM → Prop} {a1 : Int32} {a2 : Int32} (C : x_C p s m args meth c g RX11 cX11_bailsBy 3 (some .boolean)) (hM : xpM g) {u : xM} {H : Heap} {locs : List Loc} {ls : Array Slot} (hw : x_W g s.heap H locs u) (hl : lv_has ls 3 [(0, .ref (xad g 272)), (1, .int a1), (2, .int a2)]) (h : p_X11_bailsBy a1 a2 u Qf) : W p l e (x_rm 3 64) s m args below meth c H locs 0 0 (MQ below (x_Qz g Qf) args s 0 0 (x_A g)) (F0 m 0 ls []) := by
  unfold p_X11_bailsBy at h
  have hx := C.1
  have hb := C.2.1
  refine lv_aload_n hx hb dX11_bailsBy_0 rfl (lv_at hl 0 rfl) ?_
  refine lv_iload_n hx hb dX11_bailsBy_1 rfl (lv_at hl 1 rfl) ?_
  refine lv_iload_n hx hb dX11_bailsBy_2 rfl (lv_at hl 2 rfl) ?_
  refine x_callz hw (x_runV (ci := 11) C hw (m_X11_bails l C.2.2.2.2.2.2.2.2.1 hM h) (xoM_272 hM) rfl (x_gV xw_1247 xw_1248 xw_1249 xw_5 xw_1250) rfl rfl qX11_bails ⟨(Nat.le_of_ble_eq_true rfl), (Nat.le_of_ble_eq_true rfl)⟩ rfl hl.1 rfl (Nat.le_of_ble_eq_true rfl) dX11_bailsBy_3) (fun r2 u1 H locs hw h => ?_)
  refine lv_if_ne (tgt := 11) hx hb dX11_bailsBy_6 (by decide) (fun c3 => ?_) (fun c3 => ?_)
  · have h := h.1 (xb_t c3)
    refine lv_aload_n hx hb dX11_bailsBy_11 rfl (lv_at hl 0 rfl) ?_
    refine x_getr (ci := 11) C hw 40 (xoM_272 hM) rfl inlX11 (by decide) rfl rfl xrM_272_40 xw_239 dX11_bailsBy_12 ?_
    refine lv_iconst (v := 2) hx hb dX11_bailsBy_15 (by decide) ?_
    refine lv_dup2_11 hx hb dX11_bailsBy_16 rfl rfl ?_
    have c4 := h.1
    have h := h.2
    refine x_iald C hw (xoM_288 hM) c4 dX11_bailsBy_17 ?_
    refine lv_iload_n hx hb dX11_bailsBy_18 rfl (lv_at hl 2 rfl) ?_
    refine lv_iadd hx hb dX11_bailsBy_19 ?_
    have c5 := h.1
    have h := h.2
    obtain ⟨u6, eu6⟩ : ∃ q : xM, q = si u1 288 (2 : Int32).toNatClampNeg ((gi u1 288 (2 : Int32).toNatClampNeg) + a2) := ⟨_, rfl⟩
    have h := h u6 eu6
    refine x_iast C hw (xoM_288 hM) c5 dX11_bailsBy_20 eu6 (fun H locs hw => ?_)
    refine lv_iconst (v := 1) hx hb dX11_bailsBy_21 (by decide) ?_
    exact x_zret true C hw h rfl dX11_bailsBy_22
  · have h := h.2 (xb_f c3)
    refine lv_iconst (v := 0) hx hb dX11_bailsBy_9 (by decide) ?_
    exact x_zret false C hw h rfl dX11_bailsBy_10
set_option maxHeartbeats 4000000 in
set_option maxRecDepth 100000 in
theorem m_X11_bailsBy (l : Launch) {g : xG} (hD : x_D g) (hM : xpM g) {a1 : Int32} {a2 : Int32} {u : xM} {Qf : Bool → xM → Prop} (h : p_X11_bailsBy a1 a2 u Qf) : Met l yX11_bailsBy (Cond.code yX11_bailsBy cX11_bailsBy 3 (some .boolean) :: wsL_law) (x_rm 3 64) (va_Pc [.ref (xad g 272), .int a1, .int a2] (x_B g u)) (x_Qz g Qf) 0 0 (x_A g) := by
  refine Met.ofW (cc := cX11_bailsBy) (maxL := 3) (ret := (some .boolean)) (by decide) rfl ?_
  intro p e s m args below meth c s₁ B hml hv
  obtain ⟨rfl, hB⟩ := hv
  obtain ⟨C, hw⟩ := x_start B hml hD hB
  have hl := lv_entry [.ref (xad g 272), .int a1, .int a2] (n := 3) (Nat.le_of_ble_eq_true rfl)
  rw [lg_entry_eq]
  exact s_X11_bailsBy C hM hw hl h
set_option maxHeartbeats 4000000 in
set_option maxRecDepth 100000 in
theorem s_X11_turnsAny {Qf : Bool → xM → Prop} (C : x_C p s m args meth c g RX11 cX11_turnsAny 2 (some .boolean)) (hM : xpM g) {u : xM} {H : Heap} {locs : List Loc} {ls : Array Slot} (hw : x_W g s.heap H locs u) (hl : lv_has ls 2 [(0, .ref (xad g 272))]) (h : p_X11_turnsAny  u Qf) : W p l e (x_rm 3 65) s m args below meth c H locs 0 0 (MQ below (x_Qz g Qf) args s 0 0 (x_A g)) (F0 m 0 ls []) := by
  unfold p_X11_turnsAny at h
  have hx := C.1
  have hb := C.2.1
  refine lv_aload_n hx hb dX11_turnsAny_0 rfl (lv_at hl 0 rfl) ?_
  refine x_getr (ci := 11) C hw 0 (xoM_272 hM) rfl inlX11 (by decide) rfl rfl xrM_272_0 xw_219 dX11_turnsAny_1 ?_
  refine lv_iconst (v := 1) hx hb dX11_turnsAny_4 (by decide) ?_
  have c1 := h.1
  have h := h.2
  refine x_iald C hw (xoM_273 hM) c1 dX11_turnsAny_5 ?_
  refine lv_if_ne (tgt := 11) hx hb dX11_turnsAny_6 (by decide) (fun c2 => ?_) (fun c2 => ?_)
  · have h := h.1 c2
    refine lv_aload_n hx hb dX11_turnsAny_11 rfl (lv_at hl 0 rfl) ?_
    refine lv_aload_n hx hb dX11_turnsAny_12 rfl (lv_at hl 0 rfl) ?_
    refine x_getr (ci := 11) C hw 0 (xoM_272 hM) rfl inlX11 (by decide) rfl rfl xrM_272_0 xw_219 dX11_turnsAny_13 ?_
    refine lv_iconst (v := 1) hx hb dX11_turnsAny_16 (by decide) ?_
    have c3 := h.1
    have h := h.2
    refine x_iald C hw (xoM_273 hM) c3 dX11_turnsAny_17 ?_
    refine x_calli hw (x_runV (ci := 11) C hw (m_X11_draw l C.2.2.2.2.2.2.2.2.1 hM h) (xoM_272 hM) rfl (x_gV xw_1924 xw_1925 xw_1926 xw_5 xw_1927) rfl rfl qX11_draw ⟨(Nat.le_of_ble_eq_true rfl), (Nat.le_of_ble_eq_true rfl)⟩ rfl hl.1 rfl (Nat.le_of_ble_eq_true rfl) dX11_turnsAny_18) (fun r5 u4 H locs hw h => ?_)
    refine lv_istore_n (lv' := [(1, .int r5), (0, .ref (xad g 272))]) hx hb dX11_turnsAny_21 rfl hl (by decide) rfl (fun ls hl => ?_)
    refine lv_aload_n hx hb dX11_turnsAny_22 rfl (lv_at hl 1 rfl) ?_
    refine lv_iload_n hx hb dX11_turnsAny_23 rfl (lv_at hl 0 rfl) ?_
    refine lv_bipush (v := 6) hx hb dX11_turnsAny_24 (by decide) ?_
    refine lv_aload_n hx hb dX11_turnsAny_26 rfl (lv_at hl 1 rfl) ?_
    refine lv_iload_n hx hb dX11_turnsAny_27 rfl (lv_at hl 0 rfl) ?_
    refine lv_bipush (v := 6) hx hb dX11_turnsAny_28 (by decide) ?_
    refine x_calli hw (x_runV (ci := 11) C hw (m_X11_doorOf l C.2.2.2.2.2.2.2.2.1 hM h) (xoM_272 hM) rfl (x_gV xw_911 xw_912 xw_913 xw_5 xw_914) rfl rfl qX11_doorOf ⟨(Nat.le_of_ble_eq_true rfl), (Nat.le_of_ble_eq_true rfl)⟩ rfl hl.1 rfl (Nat.le_of_ble_eq_true rfl) dX11_turnsAny_30) (fun r7 u6 H locs hw h => ?_)
    refine lv_if_ne (tgt := 40) hx hb dX11_turnsAny_33 (by decide) (fun c8 => ?_) (fun c8 => ?_)
    · have h := h.1 c8
      refine lv_iconst (v := 0) hx hb dX11_turnsAny_40 (by decide) ?_
      refine x_callz hw (x_runV (ci := 11) C hw (m_X11_turns l C.2.2.2.2.2.2.2.2.1 hM h) (xoM_272 hM) rfl (x_gV xw_1225 xw_1226 xw_1227 xw_5 xw_1228) rfl rfl qX11_turns ⟨(Nat.le_of_ble_eq_true rfl), (Nat.le_of_ble_eq_true rfl)⟩ rfl hl.1 rfl (Nat.le_of_ble_eq_true rfl) dX11_turnsAny_41) (fun r10 u9 H locs hw h => ?_)
      exact x_zret _ C hw h rfl dX11_turnsAny_44
    · have h := h.2 c8
      refine lv_iconst (v := 1) hx hb dX11_turnsAny_36 (by decide) ?_
      refine lv_goto (tgt := 41) hx hb dX11_turnsAny_37 (by decide) ?_
      refine x_callz hw (x_runV (ci := 11) C hw (m_X11_turns l C.2.2.2.2.2.2.2.2.1 hM h) (xoM_272 hM) rfl (x_gV xw_1225 xw_1226 xw_1227 xw_5 xw_1228) rfl rfl qX11_turns ⟨(Nat.le_of_ble_eq_true rfl), (Nat.le_of_ble_eq_true rfl)⟩ rfl hl.1 rfl (Nat.le_of_ble_eq_true rfl) dX11_turnsAny_41) (fun r12 u11 H locs hw h => ?_)
      exact x_zret _ C hw h rfl dX11_turnsAny_44
  · have h := h.2 c2
    refine lv_iconst (v := 0) hx hb dX11_turnsAny_9 (by decide) ?_
    exact x_zret false C hw h rfl dX11_turnsAny_10
set_option maxHeartbeats 4000000 in
set_option maxRecDepth 100000 in
theorem m_X11_turnsAny (l : Launch) {g : xG} (hD : x_D g) (hM : xpM g) {u : xM} {Qf : Bool → xM → Prop} (h : p_X11_turnsAny  u Qf) : Met l yX11_turnsAny (Cond.code yX11_turnsAny cX11_turnsAny 2 (some .boolean) :: wsL_law) (x_rm 3 65) (va_Pc [.ref (xad g 272)] (x_B g u)) (x_Qz g Qf) 0 0 (x_A g) := by
  refine Met.ofW (cc := cX11_turnsAny) (maxL := 2) (ret := (some .boolean)) (by decide) rfl ?_
  intro p e s m args below meth c s₁ B hml hv
  obtain ⟨rfl, hB⟩ := hv
  obtain ⟨C, hw⟩ := x_start B hml hD hB
  have hl := lv_entry [.ref (xad g 272)] (n := 2) (Nat.le_of_ble_eq_true rfl)
  rw [lg_entry_eq]
  exact s_X11_turnsAny C hM hw hl h
set_option maxHeartbeats 4000000 in
set_option maxRecDepth 100000 in
theorem s_X11_does {Qf : Bool → xM → Prop} {a1 : Int32} (C : x_C p s m args meth c g RX11 cX11_does 3 (some .boolean)) (hM : xpM g) {u : xM} {H : Heap} {locs : List Loc} {ls : Array Slot} (hw : x_W g s.heap H locs u) (hl : lv_has ls 3 [(0, .ref (xad g 272)), (1, .int a1)]) (h : p_X11_does a1 u Qf) : W p l e (x_rm 9 198) s m args below meth c H locs 0 0 (MQ below (x_Qz g Qf) args s 0 0 (x_A g)) (F0 m 0 ls []) := by
  unfold p_X11_does at h
  have hx := C.1
  have hb := C.2.1
  refine lv_aload_n hx hb dX11_does_0 rfl (lv_at hl 0 rfl) ?_
  refine x_getr (ci := 11) C hw 0 (xoM_272 hM) rfl inlX11 (by decide) rfl rfl xrM_272_0 xw_219 dX11_does_1 ?_
  refine lv_iload_n hx hb dX11_does_4 rfl (lv_at hl 1 rfl) ?_
  refine lv_iconst (v := 1) hx hb dX11_does_5 (by decide) ?_
  refine lv_iadd hx hb dX11_does_6 ?_
  have c1 := h.1
  have h := h.2
  refine x_iald C hw (xoM_273 hM) c1 dX11_does_7 ?_
  refine lv_topi (fun x2 ex2 => ?_)
  have h := h x2 ex2
  refine lv_istore_n (lv' := [(2, .int x2), (0, .ref (xad g 272)), (1, .int a1)]) hx hb dX11_does_8 rfl hl (by decide) rfl (fun ls hl => ?_)
  refine lv_aload_n hx hb dX11_does_9 rfl (lv_at hl 1 rfl) ?_
  refine x_getr (ci := 11) C hw 0 (xoM_272 hM) rfl inlX11 (by decide) rfl rfl xrM_272_0 xw_219 dX11_does_10 ?_
  refine lv_iload_n hx hb dX11_does_13 rfl (lv_at hl 2 rfl) ?_
  have c3 := h.1
  have h := h.2
  refine x_iald C hw (xoM_273 hM) c3 dX11_does_14 ?_
  refine lv_topi (fun x4 ex4 => ?_)
  have h := h x4 ex4
  by_cases c5 : x4 = 17
  · refine lv_tableIn (off := 33) (tgt := 48) hx hb dX11_does_15 (by rw [c5]; decide) (by rw [c5]; decide) (by rw [c5]; rfl) (by decide) ?_
    have h := h.1 c5
    refine lv_aload_n hx hb dX11_does_48 rfl (lv_at hl 1 rfl) ?_
    refine lv_iload_n hx hb dX11_does_49 rfl (lv_at hl 0 rfl) ?_
    refine x_callz hw (x_runV (ci := 11) C hw (m_X11_hoursGo l C.2.2.2.2.2.2.2.2.1 hM h) (xoM_272 hM) rfl (x_gV xw_1912 xw_1913 xw_1914 xw_5 xw_1915) rfl rfl qX11_hoursGo ⟨(Nat.le_of_ble_eq_true rfl), (Nat.le_of_ble_eq_true rfl)⟩ rfl hl.1 rfl (Nat.le_of_ble_eq_true rfl) dX11_does_50) (fun r7 u6 H locs hw h => ?_)
    exact x_zret _ C hw h rfl dX11_does_53
  by_cases c8 : x4 = 18
  · refine lv_tableIn (off := 39) (tgt := 54) hx hb dX11_does_15 (by rw [c8]; decide) (by rw [c8]; decide) (by rw [c8]; rfl) (by decide) ?_
    have h := h.2.1 c8
    refine lv_aload_n hx hb dX11_does_54 rfl (lv_at hl 1 rfl) ?_
    refine lv_iload_n hx hb dX11_does_55 rfl (lv_at hl 0 rfl) ?_
    refine lv_bipush (v := 6) hx hb dX11_does_56 (by decide) ?_
    refine lv_iconst (v := 1) hx hb dX11_does_58 (by decide) ?_
    refine x_callz hw (x_runV (ci := 11) C hw (m_X11_turns l C.2.2.2.2.2.2.2.2.1 hM h) (xoM_272 hM) rfl (x_gV xw_1225 xw_1226 xw_1227 xw_5 xw_1228) rfl rfl qX11_turns ⟨(Nat.le_of_ble_eq_true rfl), (Nat.le_of_ble_eq_true rfl)⟩ rfl hl.1 rfl (Nat.le_of_ble_eq_true rfl) dX11_does_59) (fun r10 u9 H locs hw h => ?_)
    exact x_zret _ C hw h rfl dX11_does_62
  by_cases c11 : x4 = 19
  · refine lv_tableIn (off := 48) (tgt := 63) hx hb dX11_does_15 (by rw [c11]; decide) (by rw [c11]; decide) (by rw [c11]; rfl) (by decide) ?_
    have h := h.2.2.1 c11
    refine lv_aload_n hx hb dX11_does_63 rfl (lv_at hl 1 rfl) ?_
    refine lv_iload_n hx hb dX11_does_64 rfl (lv_at hl 0 rfl) ?_
    refine lv_bipush (v := 6) hx hb dX11_does_65 (by decide) ?_
    refine lv_iconst (v := 0) hx hb dX11_does_67 (by decide) ?_
    refine x_callz hw (x_runV (ci := 11) C hw (m_X11_turns l C.2.2.2.2.2.2.2.2.1 hM h) (xoM_272 hM) rfl (x_gV xw_1225 xw_1226 xw_1227 xw_5 xw_1228) rfl rfl qX11_turns ⟨(Nat.le_of_ble_eq_true rfl), (Nat.le_of_ble_eq_true rfl)⟩ rfl hl.1 rfl (Nat.le_of_ble_eq_true rfl) dX11_does_68) (fun r13 u12 H locs hw h => ?_)
    exact x_zret _ C hw h rfl dX11_does_71
  by_cases c14 : x4 = 20
  · refine lv_tableIn (off := 57) (tgt := 72) hx hb dX11_does_15 (by rw [c14]; decide) (by rw [c14]; decide) (by rw [c14]; rfl) (by decide) ?_
    have h := h.2.2.2.1 c14
    refine lv_aload_n hx hb dX11_does_72 rfl (lv_at hl 1 rfl) ?_
    refine lv_iload_n hx hb dX11_does_73 rfl (lv_at hl 0 rfl) ?_
    refine lv_aload_n hx hb dX11_does_74 rfl (lv_at hl 1 rfl) ?_
    refine x_getr (ci := 11) C hw 0 (xoM_272 hM) rfl inlX11 (by decide) rfl rfl xrM_272_0 xw_219 dX11_does_75 ?_
    refine lv_iload_n hx hb dX11_does_78 rfl (lv_at hl 2 rfl) ?_
    refine lv_iconst (v := 2) hx hb dX11_does_79 (by decide) ?_
    refine lv_iadd hx hb dX11_does_80 ?_
    have c15 := h.1
    have h := h.2
    refine x_iald C hw (xoM_273 hM) c15 dX11_does_81 ?_
    refine x_callz hw (x_runV (ci := 11) C hw (m_X11_bailsBy l C.2.2.2.2.2.2.2.2.1 hM h) (xoM_272 hM) rfl (x_gV xw_1916 xw_1917 xw_1918 xw_5 xw_1919) rfl rfl qX11_bailsBy ⟨(Nat.le_of_ble_eq_true rfl), (Nat.le_of_ble_eq_true rfl)⟩ rfl hl.1 rfl (Nat.le_of_ble_eq_true rfl) dX11_does_82) (fun r17 u16 H locs hw h => ?_)
    exact x_zret _ C hw h rfl dX11_does_85
  by_cases c18 : x4 = 21
  · refine lv_tableIn (off := 71) (tgt := 86) hx hb dX11_does_15 (by rw [c18]; decide) (by rw [c18]; decide) (by rw [c18]; rfl) (by decide) ?_
    have h := h.2.2.2.2.1 c18
    refine lv_aload_n hx hb dX11_does_86 rfl (lv_at hl 1 rfl) ?_
    refine x_callz hw (x_runV (ci := 11) C hw (m_X11_turnsAny l C.2.2.2.2.2.2.2.2.1 hM h) (xoM_272 hM) rfl (x_gV xw_1920 xw_1921 xw_1922 xw_5 xw_1923) rfl rfl qX11_turnsAny ⟨(Nat.le_of_ble_eq_true rfl), (Nat.le_of_ble_eq_true rfl)⟩ rfl hl.1 rfl (Nat.le_of_ble_eq_true rfl) dX11_does_87) (fun r20 u19 H locs hw h => ?_)
    exact x_zret _ C hw h rfl dX11_does_90
  have ec5 : x4.toInt ≠ 17 := fun z => c5 (Int32.toInt_inj.mp (z.trans (by decide)))
  have ec8 : x4.toInt ≠ 18 := fun z => c8 (Int32.toInt_inj.mp (z.trans (by decide)))
  have ec11 : x4.toInt ≠ 19 := fun z => c11 (Int32.toInt_inj.mp (z.trans (by decide)))
  have ec14 : x4.toInt ≠ 20 := fun z => c14 (Int32.toInt_inj.mp (z.trans (by decide)))
  have ec18 : x4.toInt ≠ 21 := fun z => c18 (Int32.toInt_inj.mp (z.trans (by decide)))
  refine lv_tableOut (tgt := 91) hx hb dX11_does_15 (by omega) (by decide) ?_
  have h := h.2.2.2.2.2 c5 c8 c11 c14 c18
  refine lv_iconst (v := 1) hx hb dX11_does_91 (by decide) ?_
  exact x_zret true C hw h rfl dX11_does_92
set_option maxHeartbeats 4000000 in
set_option maxRecDepth 100000 in
theorem m_X11_does (l : Launch) {g : xG} (hD : x_D g) (hM : xpM g) {a1 : Int32} {u : xM} {Qf : Bool → xM → Prop} (h : p_X11_does a1 u Qf) : Met l yX11_does (Cond.code yX11_does cX11_does 3 (some .boolean) :: wsL_law) (x_rm 9 198) (va_Pc [.ref (xad g 272), .int a1] (x_B g u)) (x_Qz g Qf) 0 0 (x_A g) := by
  refine Met.ofW (cc := cX11_does) (maxL := 3) (ret := (some .boolean)) (by decide) rfl ?_
  intro p e s m args below meth c s₁ B hml hv
  obtain ⟨rfl, hB⟩ := hv
  obtain ⟨C, hw⟩ := x_start B hml hD hB
  have hl := lv_entry [.ref (xad g 272), .int a1] (n := 3) (Nat.le_of_ble_eq_true rfl)
  rw [lg_entry_eq]
  exact s_X11_does C hM hw hl h
set_option maxHeartbeats 4000000 in
set_option maxRecDepth 100000 in
theorem s_X11_holds {Qf : Bool → xM → Prop} {a1 : Int32} (C : x_C p s m args meth c g RX11 cX11_holds 5 (some .boolean)) (hM : xpM g) {u : xM} {H : Heap} {locs : List Loc} {ls : Array Slot} (hw : x_W g s.heap H locs u) (hl : lv_has ls 5 [(0, .ref (xad g 272)), (1, .int a1)]) (h : p_X11_holds a1 u Qf) : W p l e (x_rm 3 63) s m args below meth c H locs 0 0 (MQ below (x_Qz g Qf) args s 0 0 (x_A g)) (F0 m 0 ls []) := by
  unfold p_X11_holds at h
  have hx := C.1
  have hb := C.2.1
  refine lv_aload_n hx hb dX11_holds_0 rfl (lv_at hl 0 rfl) ?_
  refine x_getr (ci := 11) C hw 0 (xoM_272 hM) rfl inlX11 (by decide) rfl rfl xrM_272_0 xw_219 dX11_holds_1 ?_
  refine lv_iload_n hx hb dX11_holds_4 rfl (lv_at hl 1 rfl) ?_
  have c1 := h.1
  have h := h.2
  refine x_iald C hw (xoM_273 hM) c1 dX11_holds_5 ?_
  refine lv_sipush (v := 2200) hx hb dX11_holds_6 (by decide) ?_
  refine lv_isub hx hb dX11_holds_9 ?_
  refine lv_topi (fun x2 ex2 => ?_)
  have h := h x2 ex2
  refine lv_istore_n (lv' := [(2, .int x2), (0, .ref (xad g 272)), (1, .int a1)]) hx hb dX11_holds_10 rfl hl (by decide) rfl (fun ls hl => ?_)
  refine lv_aload_n hx hb dX11_holds_11 rfl (lv_at hl 1 rfl) ?_
  refine x_getr (ci := 11) C hw 0 (xoM_272 hM) rfl inlX11 (by decide) rfl rfl xrM_272_0 xw_219 dX11_holds_12 ?_
  refine lv_iload_n hx hb dX11_holds_15 rfl (lv_at hl 2 rfl) ?_
  refine lv_iconst (v := 1) hx hb dX11_holds_16 (by decide) ?_
  refine lv_iadd hx hb dX11_holds_17 ?_
  have c3 := h.1
  have h := h.2
  refine x_iald C hw (xoM_273 hM) c3 dX11_holds_18 ?_
  refine lv_topi (fun x4 ex4 => ?_)
  have h := h x4 ex4
  refine lv_istore_n (lv' := [(3, .int x4), (2, .int x2), (0, .ref (xad g 272)), (1, .int a1)]) hx hb dX11_holds_19 rfl hl (by decide) rfl (fun ls hl => ?_)
  refine lv_iload_n hx hb dX11_holds_20 rfl (lv_at hl 1 rfl) ?_
  refine lv_bipush (v := 18) hx hb dX11_holds_21 (by decide) ?_
  refine lv_icmp_ne (tgt := 32) hx hb dX11_holds_23 (by decide) (fun c5 => ?_) (fun c5 => ?_)
  · have h := h.1 c5
    refine lv_aload_n hx hb dX11_holds_32 rfl (lv_at hl 2 rfl) ?_
    refine lv_iload_n hx hb dX11_holds_33 rfl (lv_at hl 0 rfl) ?_
    refine x_calli hw (x_runV (ci := 11) C hw (m_X11_depthOf l C.2.2.2.2.2.2.2.2.1 hM h) (xoM_272 hM) rfl (x_gV xw_903 xw_904 xw_905 xw_5 xw_906) rfl rfl qX11_depthOf ⟨(Nat.le_of_ble_eq_true rfl), (Nat.le_of_ble_eq_true rfl)⟩ rfl hl.1 rfl (Nat.le_of_ble_eq_true rfl) dX11_holds_34) (fun r7 u6 H locs hw h => ?_)
    refine lv_istore (lv' := [(4, .int r7), (3, .int x4), (2, .int x2), (0, .ref (xad g 272)), (1, .int a1)]) hx hb dX11_holds_37 hl (by decide) rfl (fun ls hl => ?_)
    refine lv_iload_n hx hb dX11_holds_39 rfl (lv_at hl 2 rfl) ?_
    refine lv_bipush (v := 26) hx hb dX11_holds_40 (by decide) ?_
    refine lv_icmp_ne (tgt := 56) hx hb dX11_holds_42 (by decide) (fun c8 => ?_) (fun c8 => ?_)
    · have h := h.1 c8
      refine lv_aload_n hx hb dX11_holds_56 rfl (lv_at hl 3 rfl) ?_
      refine x_getr (ci := 11) C hw 0 (xoM_272 hM) rfl inlX11 (by decide) rfl rfl xrM_272_0 xw_219 dX11_holds_57 ?_
      refine lv_iload_n hx hb dX11_holds_60 rfl (lv_at hl 4 rfl) ?_
      refine lv_iconst (v := 5) hx hb dX11_holds_61 (by decide) ?_
      refine lv_iadd hx hb dX11_holds_62 ?_
      have c9 := h.1
      have h := h.2
      refine x_iald C hw (xoM_273 hM) c9 dX11_holds_63 ?_
      refine lv_bipush (v := 60) hx hb dX11_holds_64 (by decide) ?_
      refine lv_icmp_ne (tgt := 90) hx hb dX11_holds_66 (by decide) (fun c10 => ?_) (fun c10 => ?_)
      · have h := h.1 c10
        refine lv_aload_n hx hb dX11_holds_90 rfl (lv_at hl 3 rfl) ?_
        refine x_getr (ci := 11) C hw 0 (xoM_272 hM) rfl inlX11 (by decide) rfl rfl xrM_272_0 xw_219 dX11_holds_91 ?_
        refine lv_iload_n hx hb dX11_holds_94 rfl (lv_at hl 4 rfl) ?_
        refine lv_iconst (v := 5) hx hb dX11_holds_95 (by decide) ?_
        refine lv_iadd hx hb dX11_holds_96 ?_
        have c11 := h.1
        have h := h.2
        refine x_iald C hw (xoM_273 hM) c11 dX11_holds_97 ?_
        refine lv_bipush (v := 62) hx hb dX11_holds_98 (by decide) ?_
        refine lv_icmp_ne (tgt := 124) hx hb dX11_holds_100 (by decide) (fun c12 => ?_) (fun c12 => ?_)
        · have h := h.1 c12
          refine lv_iload hx hb dX11_holds_124 (lv_at hl 0 rfl) ?_
          refine lv_aload_n hx hb dX11_holds_126 rfl (lv_at hl 3 rfl) ?_
          refine x_getr (ci := 11) C hw 0 (xoM_272 hM) rfl inlX11 (by decide) rfl rfl xrM_272_0 xw_219 dX11_holds_127 ?_
          refine lv_iload_n hx hb dX11_holds_130 rfl (lv_at hl 4 rfl) ?_
          refine lv_iconst (v := 2) hx hb dX11_holds_131 (by decide) ?_
          refine lv_iadd hx hb dX11_holds_132 ?_
          have c13 := h.1
          have h := h.2
          refine x_iald C hw (xoM_273 hM) c13 dX11_holds_133 ?_
          refine lv_icmp_ne (tgt := 141) hx hb dX11_holds_134 (by decide) (fun c14 => ?_) (fun c14 => ?_)
          · have h := h.1 c14
            refine lv_iconst (v := 0) hx hb dX11_holds_141 (by decide) ?_
            exact x_zret false C hw h rfl dX11_holds_142
          · have h := h.2 c14
            refine lv_iconst (v := 1) hx hb dX11_holds_137 (by decide) ?_
            refine lv_goto (tgt := 142) hx hb dX11_holds_138 (by decide) ?_
            exact x_zret true C hw h rfl dX11_holds_142
        · have h := h.2 c12
          refine lv_iload hx hb dX11_holds_103 (lv_at hl 0 rfl) ?_
          refine lv_aload_n hx hb dX11_holds_105 rfl (lv_at hl 3 rfl) ?_
          refine x_getr (ci := 11) C hw 0 (xoM_272 hM) rfl inlX11 (by decide) rfl rfl xrM_272_0 xw_219 dX11_holds_106 ?_
          refine lv_iload_n hx hb dX11_holds_109 rfl (lv_at hl 4 rfl) ?_
          refine lv_iconst (v := 2) hx hb dX11_holds_110 (by decide) ?_
          refine lv_iadd hx hb dX11_holds_111 ?_
          have c15 := h.1
          have h := h.2
          refine x_iald C hw (xoM_273 hM) c15 dX11_holds_112 ?_
          refine lv_icmp_le (tgt := 120) hx hb dX11_holds_113 (by decide) (fun c16 => ?_) (fun c16 => ?_)
          · have h := h.1 c16
            refine lv_iconst (v := 0) hx hb dX11_holds_120 (by decide) ?_
            refine lv_goto (tgt := 142) hx hb dX11_holds_121 (by decide) ?_
            exact x_zret false C hw h rfl dX11_holds_142
          · have h := h.2 c16
            refine lv_iconst (v := 1) hx hb dX11_holds_116 (by decide) ?_
            refine lv_goto (tgt := 142) hx hb dX11_holds_117 (by decide) ?_
            exact x_zret true C hw h rfl dX11_holds_142
      · have h := h.2 c10
        refine lv_iload hx hb dX11_holds_69 (lv_at hl 0 rfl) ?_
        refine lv_aload_n hx hb dX11_holds_71 rfl (lv_at hl 3 rfl) ?_
        refine x_getr (ci := 11) C hw 0 (xoM_272 hM) rfl inlX11 (by decide) rfl rfl xrM_272_0 xw_219 dX11_holds_72 ?_
        refine lv_iload_n hx hb dX11_holds_75 rfl (lv_at hl 4 rfl) ?_
        refine lv_iconst (v := 2) hx hb dX11_holds_76 (by decide) ?_
        refine lv_iadd hx hb dX11_holds_77 ?_
        have c17 := h.1
        have h := h.2
        refine x_iald C hw (xoM_273 hM) c17 dX11_holds_78 ?_
        refine lv_icmp_ge (tgt := 86) hx hb dX11_holds_79 (by decide) (fun c18 => ?_) (fun c18 => ?_)
        · have h := h.1 c18
          refine lv_iconst (v := 0) hx hb dX11_holds_86 (by decide) ?_
          refine lv_goto (tgt := 142) hx hb dX11_holds_87 (by decide) ?_
          exact x_zret false C hw h rfl dX11_holds_142
        · have h := h.2 c18
          refine lv_iconst (v := 1) hx hb dX11_holds_82 (by decide) ?_
          refine lv_goto (tgt := 142) hx hb dX11_holds_83 (by decide) ?_
          exact x_zret true C hw h rfl dX11_holds_142
    · have h := h.2 c8
      refine lv_iload hx hb dX11_holds_45 (lv_at hl 0 rfl) ?_
      refine lv_if_le (tgt := 54) hx hb dX11_holds_47 (by decide) (fun c19 => ?_) (fun c19 => ?_)
      · have h := h.1 c19
        refine lv_iconst (v := 0) hx hb dX11_holds_54 (by decide) ?_
        exact x_zret false C hw h rfl dX11_holds_55
      · have h := h.2 c19
        refine lv_iconst (v := 1) hx hb dX11_holds_50 (by decide) ?_
        refine lv_goto (tgt := 55) hx hb dX11_holds_51 (by decide) ?_
        exact x_zret true C hw h rfl dX11_holds_55
  · have h := h.2 c5
    refine lv_aload_n hx hb dX11_holds_26 rfl (lv_at hl 2 rfl) ?_
    refine lv_iload_n hx hb dX11_holds_27 rfl (lv_at hl 0 rfl) ?_
    refine x_callz hw (x_runV (ci := 11) C hw (m_X11_isOpen l C.2.2.2.2.2.2.2.2.1 hM h) (xoM_272 hM) rfl (x_gV xw_907 xw_908 xw_909 xw_5 xw_910) rfl rfl qX11_isOpen ⟨(Nat.le_of_ble_eq_true rfl), (Nat.le_of_ble_eq_true rfl)⟩ rfl hl.1 rfl (Nat.le_of_ble_eq_true rfl) dX11_holds_28) (fun r21 u20 H locs hw h => ?_)
    exact x_zret _ C hw h rfl dX11_holds_31
set_option maxHeartbeats 4000000 in
set_option maxRecDepth 100000 in
theorem m_X11_holds (l : Launch) {g : xG} (hD : x_D g) (hM : xpM g) {a1 : Int32} {u : xM} {Qf : Bool → xM → Prop} (h : p_X11_holds a1 u Qf) : Met l yX11_holds (Cond.code yX11_holds cX11_holds 5 (some .boolean) :: wsL_law) (x_rm 3 63) (va_Pc [.ref (xad g 272), .int a1] (x_B g u)) (x_Qz g Qf) 0 0 (x_A g) := by
  refine Met.ofW (cc := cX11_holds) (maxL := 5) (ret := (some .boolean)) (by decide) rfl ?_
  intro p e s m args below meth c s₁ B hml hv
  obtain ⟨rfl, hB⟩ := hv
  obtain ⟨C, hw⟩ := x_start B hml hD hB
  have hl := lv_entry [.ref (xad g 272), .int a1] (n := 5) (Nat.le_of_ble_eq_true rfl)
  rw [lg_entry_eq]
  exact s_X11_holds C hM hw hl h
set_option maxHeartbeats 4000000 in
set_option maxRecDepth 100000 in
theorem s_X11_behindEnds_L97 {Qf : Int32 → xM → Prop} {K2 : Int32 → xM → Prop} (C : x_C p s m args meth c g RX11 cX11_behindEnds 5 (some .int)) (hM : xpM g) (hK2 : ∀ {v2 : Int32} {u : xM} {H : Heap} {locs : List Loc} {ls : Array Slot}, x_W g s.heap H locs u → lv_has ls 5 [(0, .ref (xad g 272)), (2, .int v2)] → K2 v2 u → W p l e (x_rm 0 0) s m args below meth c H locs 0 0 (MQ below (x_Qi g Qf) args s 0 0 (x_A g)) (F0 m 2 ls [])) {v2 : Int32} {v3 : Int32} {v4 : Bool} {w1 : Int32} {w2 : Int32} {w3 : Bool} {u : xM} {H : Heap} {locs : List Loc} {ls : Array Slot} (hw : x_W g s.heap H locs u) (hl : lv_has ls 5 [(0, .ref (xad g 272)), (2, .int v2), (3, .int v3), (4, .int (xb v4))]) (h : p_X11_behindEnds_L97 Qf K2 v2 v3 v4 w1 w2 w3 u) : W p l e (x_rm 0 0) s m args below meth c H locs 0 0 (MQ below (x_Qi g Qf) args s 0 0 (x_A g)) (F0 m 97 ls [.int (xb w3), .int w2, .int w1, .ref (xad g 287)]) := by
  unfold p_X11_behindEnds_L97 at h
  have hx := C.1
  have hb := C.2.1
  refine lv_isub hx hb dX11_behindEnds_97 ?_
  have c1 := h.1
  have h := h.2
  obtain ⟨u2, eu2⟩ : ∃ q : xM, q = si u 287 w1.toNatClampNeg (w2 - (xb w3)) := ⟨_, rfl⟩
  have h := h u2 eu2
  refine x_iast C hw (xoM_287 hM) c1 dX11_behindEnds_98 eu2 (fun H locs hw => ?_)
  refine lv_iload hx hb dX11_behindEnds_99 (lv_at hl 3 rfl) ?_
  refine lv_if_eq (tgt := 110) hx hb dX11_behindEnds_101 (by decide) (fun c3 => ?_) (fun c3 => ?_)
  · have h := h.1 (xb_f c3)
    refine lv_iload_n hx hb dX11_behindEnds_110 rfl (lv_at hl 1 rfl) ?_
    refine lv_iconst (v := 1) hx hb dX11_behindEnds_111 (by decide) ?_
    refine lv_iadd hx hb dX11_behindEnds_112 ?_
    refine lv_topi (fun x4 ex4 => ?_)
    have h := h x4 ex4
    refine lv_istore_n (lv' := [(2, .int x4), (0, .ref (xad g 272)), (3, .int v3), (4, .int (xb v4))]) hx hb dX11_behindEnds_113 rfl hl (by decide) rfl (fun ls hl => ?_)
    refine lv_goto (tgt := 2) hx hb dX11_behindEnds_114 (by decide) ?_
    exact hK2 hw (lv_sub hl [1, 0] rfl) h
  · have h := h.2 (xb_t c3)
    refine lv_iload_n hx hb dX11_behindEnds_104 rfl (lv_at hl 2 rfl) ?_
    refine lv_iconst (v := 1) hx hb dX11_behindEnds_105 (by decide) ?_
    refine lv_iadd hx hb dX11_behindEnds_106 ?_
    refine lv_goto (tgt := 113) hx hb dX11_behindEnds_107 (by decide) ?_
    refine lv_topi (fun x5 ex5 => ?_)
    have h := h x5 ex5
    refine lv_istore_n (lv' := [(2, .int x5), (0, .ref (xad g 272)), (3, .int v3), (4, .int (xb v4))]) hx hb dX11_behindEnds_113 rfl hl (by decide) rfl (fun ls hl => ?_)
    refine lv_goto (tgt := 2) hx hb dX11_behindEnds_114 (by decide) ?_
    exact hK2 hw (lv_sub hl [1, 0] rfl) h
set_option maxHeartbeats 4000000 in
set_option maxRecDepth 100000 in
theorem s_X11_behindEnds_L78 {Qf : Int32 → xM → Prop} {K2 : Int32 → xM → Prop} (C : x_C p s m args meth c g RX11 cX11_behindEnds 5 (some .int)) (hM : xpM g) (hK2 : ∀ {v2 : Int32} {u : xM} {H : Heap} {locs : List Loc} {ls : Array Slot}, x_W g s.heap H locs u → lv_has ls 5 [(0, .ref (xad g 272)), (2, .int v2)] → K2 v2 u → W p l e (x_rm 0 0) s m args below meth c H locs 0 0 (MQ below (x_Qi g Qf) args s 0 0 (x_A g)) (F0 m 2 ls [])) {v2 : Int32} {v3 : Int32} {w0 : Bool} {u : xM} {H : Heap} {locs : List Loc} {ls : Array Slot} (hw : x_W g s.heap H locs u) (hl : lv_has ls 5 [(0, .ref (xad g 272)), (2, .int v2), (3, .int v3)]) (h : p_X11_behindEnds_L78 Qf K2 v2 v3 w0 u) : W p l e (x_rm 0 0) s m args below meth c H locs 0 0 (MQ below (x_Qi g Qf) args s 0 0 (x_A g)) (F0 m 78 ls [.int (xb w0)]) := by
  unfold p_X11_behindEnds_L78 at h
  have hx := C.1
  have hb := C.2.1
  refine lv_istore (lv' := [(4, .int (xb w0)), (0, .ref (xad g 272)), (2, .int v2), (3, .int v3)]) hx hb dX11_behindEnds_78 hl (by decide) rfl (fun ls hl => ?_)
  refine lv_aload_n hx hb dX11_behindEnds_80 rfl (lv_at hl 1 rfl) ?_
  refine x_getr (ci := 11) C hw 39 (xoM_272 hM) rfl inlX11 (by decide) rfl rfl xrM_272_39 xw_238 dX11_behindEnds_81 ?_
  refine lv_iload_n hx hb dX11_behindEnds_84 rfl (lv_at hl 3 rfl) ?_
  refine lv_dup2_11 hx hb dX11_behindEnds_85 rfl rfl ?_
  have c1 := h.1
  have h := h.2
  refine x_iald C hw (xoM_287 hM) c1 dX11_behindEnds_86 ?_
  refine lv_iload hx hb dX11_behindEnds_87 (lv_at hl 0 rfl) ?_
  refine lv_if_eq (tgt := 96) hx hb dX11_behindEnds_89 (by decide) (fun c2 => ?_) (fun c2 => ?_)
  · have h := h.1 (xb_f c2)
    refine lv_iconst (v := 0) hx hb dX11_behindEnds_96 (by decide) ?_
    exact s_X11_behindEnds_L97 C hM hK2 hw (lv_sub hl [1, 2, 3, 0] rfl) h
  · have h := h.2 (xb_t c2)
    refine lv_iconst (v := 1) hx hb dX11_behindEnds_92 (by decide) ?_
    refine lv_goto (tgt := 97) hx hb dX11_behindEnds_93 (by decide) ?_
    exact s_X11_behindEnds_L97 C hM hK2 hw (lv_sub hl [1, 2, 3, 0] rfl) h
set_option maxHeartbeats 4000000 in
set_option maxRecDepth 100000 in
theorem s_X11_behindEnds_L77 {Qf : Int32 → xM → Prop} {K2 : Int32 → xM → Prop} (C : x_C p s m args meth c g RX11 cX11_behindEnds 5 (some .int)) (hM : xpM g) (hK2 : ∀ {v2 : Int32} {u : xM} {H : Heap} {locs : List Loc} {ls : Array Slot}, x_W g s.heap H locs u → lv_has ls 5 [(0, .ref (xad g 272)), (2, .int v2)] → K2 v2 u → W p l e (x_rm 0 0) s m args below meth c H locs 0 0 (MQ below (x_Qi g Qf) args s 0 0 (x_A g)) (F0 m 2 ls [])) {v2 : Int32} {v3 : Int32} {u : xM} {H : Heap} {locs : List Loc} {ls : Array Slot} (hw : x_W g s.heap H locs u) (hl : lv_has ls 5 [(0, .ref (xad g 272)), (2, .int v2), (3, .int v3)]) (h : p_X11_behindEnds_L77 Qf K2 v2 v3 u) : W p l e (x_rm 0 0) s m args below meth c H locs 0 0 (MQ below (x_Qi g Qf) args s 0 0 (x_A g)) (F0 m 77 ls []) := by
  unfold p_X11_behindEnds_L77 at h
  have hx := C.1
  have hb := C.2.1
  refine lv_iconst (v := 0) hx hb dX11_behindEnds_77 (by decide) ?_
  exact s_X11_behindEnds_L78 C hM hK2 hw (lv_sub hl [0, 1, 2] rfl) h
set_option maxHeartbeats 4000000 in
set_option maxRecDepth 100000 in
theorem s_X11_behindEnds_L2 {Qf : Int32 → xM → Prop} (C : x_C p s m args meth c g RX11 cX11_behindEnds 5 (some .int)) (hM : xpM g) : ∀ (nn : Nat) {v2 : Int32} {u : xM} {H : Heap} {locs : List Loc} {ls : Array Slot} (hw : x_W g s.heap H locs u) (hl : lv_has ls 5 [(0, .ref (xad g 272)), (2, .int v2)]) (h : p_X11_behindEnds_L2 Qf nn v2 u), W p l e (x_rm 0 0) s m args below meth c H locs 0 0 (MQ below (x_Qi g Qf) args s 0 0 (x_A g)) (F0 m 2 ls []) := by
  intro nn
  induction nn with
  | zero => intro v2 u H locs ls hw hl h; exact h.elim
  | succ nn ih =>
    intro v2 u H locs ls hw hl h
    unfold p_X11_behindEnds_L2 at h
    have hx := C.1
    have hb := C.2.1
    refine lv_iload_n hx hb dX11_behindEnds_2 rfl (lv_at hl 1 rfl) ?_
    refine lv_aload_n hx hb dX11_behindEnds_3 rfl (lv_at hl 0 rfl) ?_
    refine x_getr (ci := 11) C hw 0 (xoM_272 hM) rfl inlX11 (by decide) rfl rfl xrM_272_0 xw_219 dX11_behindEnds_4 ?_
    refine lv_iconst (v := 4) hx hb dX11_behindEnds_7 (by decide) ?_
    have c1 := h.1
    have h := h.2
    refine x_iald C hw (xoM_273 hM) c1 dX11_behindEnds_8 ?_
    refine lv_icmp_ge (tgt := 117) hx hb dX11_behindEnds_9 (by decide) (fun c2 => ?_) (fun c2 => ?_)
    · have h := h.1 c2
      refine lv_iload_n hx hb dX11_behindEnds_117 rfl (lv_at hl 1 rfl) ?_
      exact x_iret C hw h dX11_behindEnds_118
    · have h := h.2 c2
      refine lv_aload_n hx hb dX11_behindEnds_12 rfl (lv_at hl 0 rfl) ?_
      refine x_getr (ci := 11) C hw 0 (xoM_272 hM) rfl inlX11 (by decide) rfl rfl xrM_272_0 xw_219 dX11_behindEnds_13 ?_
      refine lv_sipush (v := 160) hx hb dX11_behindEnds_16 (by decide) ?_
      refine lv_bipush (v := 6) hx hb dX11_behindEnds_19 (by decide) ?_
      refine lv_iload_n hx hb dX11_behindEnds_21 rfl (lv_at hl 1 rfl) ?_
      refine lv_imul hx hb dX11_behindEnds_22 ?_
      refine lv_iadd hx hb dX11_behindEnds_23 ?_
      have c3 := h.1
      have h := h.2
      refine x_iald C hw (xoM_273 hM) c3 dX11_behindEnds_24 ?_
      refine lv_bipush (v := 24) hx hb dX11_behindEnds_25 (by decide) ?_
      refine lv_icmp_ne (tgt := 117) hx hb dX11_behindEnds_27 (by decide) (fun c4 => ?_) (fun c4 => ?_)
      · have h := h.1 c4
        refine lv_iload_n hx hb dX11_behindEnds_117 rfl (lv_at hl 1 rfl) ?_
        exact x_iret C hw h dX11_behindEnds_118
      · have h := h.2 c4
        refine lv_aload_n hx hb dX11_behindEnds_30 rfl (lv_at hl 0 rfl) ?_
        refine x_getr (ci := 11) C hw 0 (xoM_272 hM) rfl inlX11 (by decide) rfl rfl xrM_272_0 xw_219 dX11_behindEnds_31 ?_
        refine lv_sipush (v := 160) hx hb dX11_behindEnds_34 (by decide) ?_
        refine lv_bipush (v := 6) hx hb dX11_behindEnds_37 (by decide) ?_
        refine lv_iload_n hx hb dX11_behindEnds_39 rfl (lv_at hl 1 rfl) ?_
        refine lv_imul hx hb dX11_behindEnds_40 ?_
        refine lv_iadd hx hb dX11_behindEnds_41 ?_
        refine lv_iconst (v := 4) hx hb dX11_behindEnds_42 (by decide) ?_
        refine lv_iadd hx hb dX11_behindEnds_43 ?_
        have c5 := h.1
        have h := h.2
        refine x_iald C hw (xoM_273 hM) c5 dX11_behindEnds_44 ?_
        refine lv_topi (fun x6 ex6 => ?_)
        have h := h x6 ex6
        refine lv_istore_n (lv' := [(3, .int x6), (0, .ref (xad g 272)), (2, .int v2)]) hx hb dX11_behindEnds_45 rfl hl (by decide) rfl (fun ls hl => ?_)
        refine lv_aload_n hx hb dX11_behindEnds_46 rfl (lv_at hl 1 rfl) ?_
        refine x_getr (ci := 11) C hw 0 (xoM_272 hM) rfl inlX11 (by decide) rfl rfl xrM_272_0 xw_219 dX11_behindEnds_47 ?_
        refine lv_sipush (v := 160) hx hb dX11_behindEnds_50 (by decide) ?_
        refine lv_bipush (v := 6) hx hb dX11_behindEnds_53 (by decide) ?_
        refine lv_iload_n hx hb dX11_behindEnds_55 rfl (lv_at hl 0 rfl) ?_
        refine lv_imul hx hb dX11_behindEnds_56 ?_
        refine lv_iadd hx hb dX11_behindEnds_57 ?_
        have c7 := h.1
        have h := h.2
        refine x_iald C hw (xoM_273 hM) c7 dX11_behindEnds_58 ?_
        refine lv_bipush (v := 23) hx hb dX11_behindEnds_59 (by decide) ?_
        refine lv_icmp_ne (tgt := 77) hx hb dX11_behindEnds_61 (by decide) (fun c8 => ?_) (fun c8 => ?_)
        · have h := h.1 c8
          exact s_X11_behindEnds_L77 C hM (fun hw hl h => ih hw hl h) hw (lv_sub hl [1, 2, 0] rfl) h
        · have h := h.2 c8
          refine lv_aload_n hx hb dX11_behindEnds_64 rfl (lv_at hl 1 rfl) ?_
          refine x_getr (ci := 11) C hw 39 (xoM_272 hM) rfl inlX11 (by decide) rfl rfl xrM_272_39 xw_238 dX11_behindEnds_65 ?_
          refine lv_iload_n hx hb dX11_behindEnds_68 rfl (lv_at hl 0 rfl) ?_
          have c9 := h.1
          have h := h.2
          refine x_iald C hw (xoM_287 hM) c9 dX11_behindEnds_69 ?_
          refine lv_if_le (tgt := 77) hx hb dX11_behindEnds_70 (by decide) (fun c10 => ?_) (fun c10 => ?_)
          · have h := h.1 c10
            exact s_X11_behindEnds_L77 C hM (fun hw hl h => ih hw hl h) hw (lv_sub hl [1, 2, 0] rfl) h
          · have h := h.2 c10
            refine lv_iconst (v := 1) hx hb dX11_behindEnds_73 (by decide) ?_
            refine lv_goto (tgt := 78) hx hb dX11_behindEnds_74 (by decide) ?_
            exact s_X11_behindEnds_L78 C hM (fun hw hl h => ih hw hl h) hw (lv_sub hl [1, 2, 0] rfl) h
set_option maxHeartbeats 4000000 in
set_option maxRecDepth 100000 in
theorem s_X11_behindEnds {Qf : Int32 → xM → Prop} {a1 : Int32} (C : x_C p s m args meth c g RX11 cX11_behindEnds 5 (some .int)) (hM : xpM g) {u : xM} {H : Heap} {locs : List Loc} {ls : Array Slot} (hw : x_W g s.heap H locs u) (hl : lv_has ls 5 [(0, .ref (xad g 272)), (1, .int a1)]) (h : p_X11_behindEnds a1 u Qf) : W p l e (x_rm 0 0) s m args below meth c H locs 0 0 (MQ below (x_Qi g Qf) args s 0 0 (x_A g)) (F0 m 0 ls []) := by
  unfold p_X11_behindEnds at h
  have hx := C.1
  have hb := C.2.1
  refine lv_iload_n hx hb dX11_behindEnds_0 rfl (lv_at hl 1 rfl) ?_
  refine lv_istore_n (lv' := [(2, .int a1), (0, .ref (xad g 272)), (1, .int a1)]) hx hb dX11_behindEnds_1 rfl hl (by decide) rfl (fun ls hl => ?_)
  obtain ⟨n9, h⟩ := h
  exact s_X11_behindEnds_L2 C hM n9 hw (lv_sub hl [1, 0] rfl) h
set_option maxHeartbeats 4000000 in
set_option maxRecDepth 100000 in
theorem m_X11_behindEnds (l : Launch) {g : xG} (hD : x_D g) (hM : xpM g) {a1 : Int32} {u : xM} {Qf : Int32 → xM → Prop} (h : p_X11_behindEnds a1 u Qf) : Met l yX11_behindEnds (Cond.code yX11_behindEnds cX11_behindEnds 5 (some .int) :: wsL_law) (x_rm 0 0) (va_Pc [.ref (xad g 272), .int a1] (x_B g u)) (x_Qi g Qf) 0 0 (x_A g) := by
  refine Met.ofW (cc := cX11_behindEnds) (maxL := 5) (ret := (some .int)) (by decide) rfl ?_
  intro p e s m args below meth c s₁ B hml hv
  obtain ⟨rfl, hB⟩ := hv
  obtain ⟨C, hw⟩ := x_start B hml hD hB
  have hl := lv_entry [.ref (xad g 272), .int a1] (n := 5) (Nat.le_of_ble_eq_true rfl)
  rw [lg_entry_eq]
  exact s_X11_behindEnds C hM hw hl h
set_option maxHeartbeats 4000000 in
set_option maxRecDepth 100000 in
theorem s_X11_lives_L174 {Qf : xM → Prop} {K32 : Int32 → xM → Prop} (C : x_C p s m args meth c g RX11 cX11_lives 4 none) (hM : xpM g) (hK32 : ∀ {v2 : Int32} {u : xM} {H : Heap} {locs : List Loc} {ls : Array Slot}, x_W g s.heap H locs u → lv_has ls 4 [(0, .ref (xad g 272)), (2, .int v2)] → K32 v2 u → W p l e (x_rm 10 220) s m args below meth c H locs 0 0 (MQ below (x_Qv g Qf) args s 0 0 (x_A g)) (F0 m 32 ls [])) {v2 : Int32} {u : xM} {H : Heap} {locs : List Loc} {ls : Array Slot} (hw : x_W g s.heap H locs u) (hl : lv_has ls 4 [(0, .ref (xad g 272)), (2, .int v2)]) (h : p_X11_lives_L174 Qf K32 v2 u) : W p l e (x_rm 10 220) s m args below meth c H locs 0 0 (MQ below (x_Qv g Qf) args s 0 0 (x_A g)) (F0 m 174 ls [.ref (xad g 272)]) := by
  unfold p_X11_lives_L174 at h
  have hx := C.1
  have hb := C.2.1
  refine lv_iload_n hx hb dX11_lives_174 rfl (lv_at hl 1 rfl) ?_
  refine lv_iconst (v := 1) hx hb dX11_lives_175 (by decide) ?_
  refine lv_iadd hx hb dX11_lives_176 ?_
  refine x_calli hw (x_runV (ci := 11) C hw (m_X11_behindEnds l C.2.2.2.2.2.2.2.2.1 hM h) (xoM_272 hM) rfl (x_gV xw_1933 xw_1934 xw_1935 xw_5 xw_1936) rfl rfl qX11_behindEnds ⟨(Nat.le_of_ble_eq_true rfl), (Nat.le_of_ble_eq_true rfl)⟩ rfl hl.1 rfl (Nat.le_of_ble_eq_true rfl) dX11_lives_177) (fun r2 u1 H locs hw h => ?_)
  refine lv_istore_n (lv' := [(2, .int r2), (0, .ref (xad g 272))]) hx hb dX11_lives_180 rfl hl (by decide) rfl (fun ls hl => ?_)
  refine lv_goto (tgt := 32) hx hb dX11_lives_181 (by decide) ?_
  exact hK32 hw (lv_sub hl [1, 0] rfl) h
set_option maxHeartbeats 4000000 in
set_option maxRecDepth 100000 in
theorem s_X11_lives_L140 {Qf : xM → Prop} {K32 : Int32 → xM → Prop} (C : x_C p s m args meth c g RX11 cX11_lives 4 none) (hM : xpM g) (hK32 : ∀ {v2 : Int32} {u : xM} {H : Heap} {locs : List Loc} {ls : Array Slot}, x_W g s.heap H locs u → lv_has ls 4 [(0, .ref (xad g 272)), (2, .int v2)] → K32 v2 u → W p l e (x_rm 10 220) s m args below meth c H locs 0 0 (MQ below (x_Qv g Qf) args s 0 0 (x_A g)) (F0 m 32 ls [])) {v2 : Int32} {v3 : Int32} {u : xM} {H : Heap} {locs : List Loc} {ls : Array Slot} (hw : x_W g s.heap H locs u) (hl : lv_has ls 4 [(0, .ref (xad g 272)), (2, .int v2), (3, .int v3)]) (h : p_X11_lives_L140 Qf K32 v2 v3 u) : W p l e (x_rm 10 220) s m args below meth c H locs 0 0 (MQ below (x_Qv g Qf) args s 0 0 (x_A g)) (F0 m 140 ls []) := by
  unfold p_X11_lives_L140 at h
  have hx := C.1
  have hb := C.2.1
  refine lv_aload_n hx hb dX11_lives_140 rfl (lv_at hl 0 rfl) ?_
  refine lv_aload_n hx hb dX11_lives_141 rfl (lv_at hl 0 rfl) ?_
  refine x_getr (ci := 11) C hw 0 (xoM_272 hM) rfl inlX11 (by decide) rfl rfl xrM_272_0 xw_219 dX11_lives_142 ?_
  refine lv_iload_n hx hb dX11_lives_145 rfl (lv_at hl 2 rfl) ?_
  have c1 := h.1
  have h := h.2
  refine x_iald C hw (xoM_273 hM) c1 dX11_lives_146 ?_
  refine lv_sipush (v := 2200) hx hb dX11_lives_147 (by decide) ?_
  refine lv_icmp_lt (tgt := 174) hx hb dX11_lives_150 (by decide) (fun c2 => ?_) (fun c2 => ?_)
  · have h := h.1 c2
    exact s_X11_lives_L174 C hM hK32 hw (lv_sub hl [0, 1] rfl) h
  · have h := h.2 c2
    refine lv_aload_n hx hb dX11_lives_153 rfl (lv_at hl 0 rfl) ?_
    refine lv_iload_n hx hb dX11_lives_154 rfl (lv_at hl 2 rfl) ?_
    refine x_callz hw (x_runV (ci := 11) C hw (m_X11_holds l C.2.2.2.2.2.2.2.2.1 hM h) (xoM_272 hM) rfl (x_gV xw_1929 xw_1930 xw_1931 xw_5 xw_1932) rfl rfl qX11_holds ⟨(Nat.le_of_ble_eq_true rfl), (Nat.le_of_ble_eq_true rfl)⟩ rfl hl.1 rfl (Nat.le_of_ble_eq_true rfl) dX11_lives_155) (fun r4 u3 H locs hw h => ?_)
    refine lv_if_ne (tgt := 174) hx hb dX11_lives_158 (by decide) (fun c5 => ?_) (fun c5 => ?_)
    · have h := h.1 (xb_t c5)
      exact s_X11_lives_L174 C hM hK32 hw (lv_sub hl [0, 1] rfl) h
    · have h := h.2 (xb_f c5)
      refine lv_aload_n hx hb dX11_lives_161 rfl (lv_at hl 0 rfl) ?_
      refine x_getr (ci := 11) C hw 0 (xoM_272 hM) rfl inlX11 (by decide) rfl rfl xrM_272_0 xw_219 dX11_lives_162 ?_
      refine lv_iload_n hx hb dX11_lives_165 rfl (lv_at hl 2 rfl) ?_
      refine lv_iconst (v := 4) hx hb dX11_lives_166 (by decide) ?_
      refine lv_iadd hx hb dX11_lives_167 ?_
      have c6 := h.1
      have h := h.2
      refine x_iald C hw (xoM_273 hM) c6 dX11_lives_168 ?_
      refine lv_iconst (v := 1) hx hb dX11_lives_169 (by decide) ?_
      refine lv_iadd hx hb dX11_lives_170 ?_
      refine lv_goto (tgt := 177) hx hb dX11_lives_171 (by decide) ?_
      refine x_calli hw (x_runV (ci := 11) C hw (m_X11_behindEnds l C.2.2.2.2.2.2.2.2.1 hM h) (xoM_272 hM) rfl (x_gV xw_1933 xw_1934 xw_1935 xw_5 xw_1936) rfl rfl qX11_behindEnds ⟨(Nat.le_of_ble_eq_true rfl), (Nat.le_of_ble_eq_true rfl)⟩ rfl hl.1 rfl (Nat.le_of_ble_eq_true rfl) dX11_lives_177) (fun r8 u7 H locs hw h => ?_)
      refine lv_istore_n (lv' := [(2, .int r8), (0, .ref (xad g 272)), (3, .int v3)]) hx hb dX11_lives_180 rfl hl (by decide) rfl (fun ls hl => ?_)
      refine lv_goto (tgt := 32) hx hb dX11_lives_181 (by decide) ?_
      exact hK32 hw (lv_sub hl [1, 0] rfl) h
set_option maxHeartbeats 4000000 in
set_option maxRecDepth 100000 in
theorem s_X11_lives_L111 {Qf : xM → Prop} {K32 : Int32 → xM → Prop} (C : x_C p s m args meth c g RX11 cX11_lives 4 none) (hM : xpM g) (hK32 : ∀ {v2 : Int32} {u : xM} {H : Heap} {locs : List Loc} {ls : Array Slot}, x_W g s.heap H locs u → lv_has ls 4 [(0, .ref (xad g 272)), (2, .int v2)] → K32 v2 u → W p l e (x_rm 10 220) s m args below meth c H locs 0 0 (MQ below (x_Qv g Qf) args s 0 0 (x_A g)) (F0 m 32 ls [])) {v2 : Int32} {v3 : Int32} {w2 : Int32} {w3 : Bool} {u : xM} {H : Heap} {locs : List Loc} {ls : Array Slot} (hw : x_W g s.heap H locs u) (hl : lv_has ls 4 [(0, .ref (xad g 272)), (2, .int v2), (3, .int v3)]) (h : p_X11_lives_L111 Qf K32 v2 v3 w2 w3 u) : W p l e (x_rm 10 220) s m args below meth c H locs 0 0 (MQ below (x_Qv g Qf) args s 0 0 (x_A g)) (F0 m 111 ls [.int (xb w3), .int w2, .int 0, .ref (xad g 288)]) := by
  unfold p_X11_lives_L111 at h
  have hx := C.1
  have hb := C.2.1
  refine lv_iadd hx hb dX11_lives_111 ?_
  have c1 := h.1
  have h := h.2
  obtain ⟨u2, eu2⟩ : ∃ q : xM, q = si u 288 (0 : Int32).toNatClampNeg (w2 + (xb w3)) := ⟨_, rfl⟩
  have h := h u2 eu2
  refine x_iast C hw (xoM_288 hM) c1 dX11_lives_112 eu2 (fun H locs hw => ?_)
  refine lv_aload_n hx hb dX11_lives_113 rfl (lv_at hl 0 rfl) ?_
  refine x_getr (ci := 11) C hw 0 (xoM_272 hM) rfl inlX11 (by decide) rfl rfl xrM_272_0 xw_219 dX11_lives_114 ?_
  refine lv_iload_n hx hb dX11_lives_117 rfl (lv_at hl 2 rfl) ?_
  have c3 := h.1
  have h := h.2
  refine x_iald C hw (xoM_273 hM) c3 dX11_lives_118 ?_
  refine lv_bipush (v := 23) hx hb dX11_lives_119 (by decide) ?_
  refine lv_icmp_ne (tgt := 140) hx hb dX11_lives_121 (by decide) (fun c4 => ?_) (fun c4 => ?_)
  · have h := h.1 c4
    exact s_X11_lives_L140 C hM hK32 hw (lv_sub hl [0, 1, 2] rfl) h
  · have h := h.2 c4
    refine lv_aload_n hx hb dX11_lives_124 rfl (lv_at hl 0 rfl) ?_
    refine x_getr (ci := 11) C hw 39 (xoM_272 hM) rfl inlX11 (by decide) rfl rfl xrM_272_39 xw_238 dX11_lives_125 ?_
    refine lv_iload_n hx hb dX11_lives_128 rfl (lv_at hl 1 rfl) ?_
    refine lv_aload_n hx hb dX11_lives_129 rfl (lv_at hl 0 rfl) ?_
    refine x_getr (ci := 11) C hw 0 (xoM_272 hM) rfl inlX11 (by decide) rfl rfl xrM_272_0 xw_219 dX11_lives_130 ?_
    refine lv_iload_n hx hb dX11_lives_133 rfl (lv_at hl 2 rfl) ?_
    refine lv_iconst (v := 1) hx hb dX11_lives_134 (by decide) ?_
    refine lv_iadd hx hb dX11_lives_135 ?_
    have c5 := h.1
    have h := h.2
    refine x_iald C hw (xoM_273 hM) c5 dX11_lives_136 ?_
    refine lv_iconst (v := 1) hx hb dX11_lives_137 (by decide) ?_
    refine lv_isub hx hb dX11_lives_138 ?_
    have c6 := h.1
    have h := h.2
    obtain ⟨u7, eu7⟩ : ∃ q : xM, q = si u2 287 v2.toNatClampNeg ((gi u2 273 (v3 + (1 : Int32)).toNatClampNeg) - (1 : Int32)) := ⟨_, rfl⟩
    have h := h u7 eu7
    refine x_iast C hw (xoM_287 hM) c6 dX11_lives_139 eu7 (fun H locs hw => ?_)
    exact s_X11_lives_L140 C hM hK32 hw (lv_sub hl [0, 1, 2] rfl) h
set_option maxHeartbeats 4000000 in
set_option maxRecDepth 100000 in
theorem s_X11_lives_L32 {Qf : xM → Prop} (C : x_C p s m args meth c g RX11 cX11_lives 4 none) (hM : xpM g) : ∀ (nn : Nat) {v2 : Int32} {u : xM} {H : Heap} {locs : List Loc} {ls : Array Slot} (hw : x_W g s.heap H locs u) (hl : lv_has ls 4 [(0, .ref (xad g 272)), (2, .int v2)]) (h : p_X11_lives_L32 Qf nn v2 u), W p l e (x_rm 10 220) s m args below meth c H locs 0 0 (MQ below (x_Qv g Qf) args s 0 0 (x_A g)) (F0 m 32 ls []) := by
  intro nn
  induction nn with
  | zero => intro v2 u H locs ls hw hl h; exact h.elim
  | succ nn ih =>
    intro v2 u H locs ls hw hl h
    unfold p_X11_lives_L32 at h
    have hx := C.1
    have hb := C.2.1
    refine lv_iload_n hx hb dX11_lives_32 rfl (lv_at hl 1 rfl) ?_
    refine lv_aload_n hx hb dX11_lives_33 rfl (lv_at hl 0 rfl) ?_
    refine x_getr (ci := 11) C hw 0 (xoM_272 hM) rfl inlX11 (by decide) rfl rfl xrM_272_0 xw_219 dX11_lives_34 ?_
    refine lv_iconst (v := 4) hx hb dX11_lives_37 (by decide) ?_
    have c1 := h.1
    have h := h.2
    refine x_iald C hw (xoM_273 hM) c1 dX11_lives_38 ?_
    refine lv_icmp_ge (tgt := 184) hx hb dX11_lives_39 (by decide) (fun c2 => ?_) (fun c2 => ?_)
    · have h := h.1 c2
      exact x_vret C hw h dX11_lives_184
    · have h := h.2 c2
      refine lv_aload_n hx hb dX11_lives_42 rfl (lv_at hl 0 rfl) ?_
      refine x_geti (ci := 11) C hw 38 (xoM_272 hM) rfl inlX11 (by decide) rfl rfl xw_1902 dX11_lives_43 ?_
      refine lv_sipush (v := 300) hx hb dX11_lives_46 (by decide) ?_
      refine lv_icmp_ne (tgt := 60) hx hb dX11_lives_49 (by decide) (fun c3 => ?_) (fun c3 => ?_)
      · have h := h.1 c3
        refine lv_sipush (v := 160) hx hb dX11_lives_60 (by decide) ?_
        refine lv_bipush (v := 6) hx hb dX11_lives_63 (by decide) ?_
        refine lv_iload_n hx hb dX11_lives_65 rfl (lv_at hl 1 rfl) ?_
        refine lv_imul hx hb dX11_lives_66 ?_
        refine lv_iadd hx hb dX11_lives_67 ?_
        refine lv_topi (fun x4 ex4 => ?_)
        have h := h x4 ex4
        refine lv_istore_n (lv' := [(3, .int x4), (0, .ref (xad g 272)), (2, .int v2)]) hx hb dX11_lives_68 rfl hl (by decide) rfl (fun ls hl => ?_)
        refine lv_aload_n hx hb dX11_lives_69 rfl (lv_at hl 1 rfl) ?_
        refine lv_dup hx hb dX11_lives_70 rfl ?_
        refine x_geti (ci := 11) C hw 38 (xoM_272 hM) rfl inlX11 (by decide) rfl rfl xw_1902 dX11_lives_71 ?_
        refine lv_iconst (v := 1) hx hb dX11_lives_74 (by decide) ?_
        refine lv_iadd hx hb dX11_lives_75 ?_
        obtain ⟨u5, eu5⟩ : ∃ q : xM, q = si u 272 38 ((gi u 272 38) + (1 : Int32)) := ⟨_, rfl⟩
        have h := h u5 eu5
        refine x_puti (ci := 11) (ty := .int) C hw 38 (xoM_272 hM) rfl inlX11 tyX11_ok nmX11 (by decide) rfl rfl xw_1902 rfl (by decide +kernel) rfl rfl dX11_lives_76 eu5 (fun H locs hw => ?_)
        refine lv_aload_n hx hb dX11_lives_79 rfl (lv_at hl 1 rfl) ?_
        refine x_getr (ci := 11) C hw 0 (xoM_272 hM) rfl inlX11 (by decide) rfl rfl xrM_272_0 xw_219 dX11_lives_80 ?_
        refine lv_iload_n hx hb dX11_lives_83 rfl (lv_at hl 0 rfl) ?_
        have c6 := h.1
        have h := h.2
        refine x_iald C hw (xoM_273 hM) c6 dX11_lives_84 ?_
        refine lv_bipush (v := 25) hx hb dX11_lives_85 (by decide) ?_
        refine lv_icmp_ne (tgt := 91) hx hb dX11_lives_87 (by decide) (fun c7 => ?_) (fun c7 => ?_)
        · have h := h.1 c7
          refine lv_aload_n hx hb dX11_lives_91 rfl (lv_at hl 1 rfl) ?_
          refine x_getr (ci := 11) C hw 40 (xoM_272 hM) rfl inlX11 (by decide) rfl rfl xrM_272_40 xw_239 dX11_lives_92 ?_
          refine lv_iconst (v := 0) hx hb dX11_lives_95 (by decide) ?_
          refine lv_dup2_11 hx hb dX11_lives_96 rfl rfl ?_
          have c8 := h.1
          have h := h.2
          refine x_iald C hw (xoM_288 hM) c8 dX11_lives_97 ?_
          refine lv_aload_n hx hb dX11_lives_98 rfl (lv_at hl 1 rfl) ?_
          refine lv_iload_n hx hb dX11_lives_99 rfl (lv_at hl 0 rfl) ?_
          refine x_callz hw (x_runV (ci := 11) C hw (m_X11_does l C.2.2.2.2.2.2.2.2.1 hM h) (xoM_272 hM) rfl (x_gV xw_1908 xw_1909 xw_1910 xw_5 xw_1911) rfl rfl qX11_does ⟨(Nat.le_of_ble_eq_true rfl), (Nat.le_of_ble_eq_true rfl)⟩ rfl hl.1 rfl (Nat.le_of_ble_eq_true rfl) dX11_lives_100) (fun r10 u9 H locs hw h => ?_)
          refine lv_if_eq (tgt := 110) hx hb dX11_lives_103 (by decide) (fun c11 => ?_) (fun c11 => ?_)
          · have h := h.1 (xb_f c11)
            refine lv_iconst (v := 1) hx hb dX11_lives_110 (by decide) ?_
            exact s_X11_lives_L111 C hM (fun hw hl h => ih hw hl h) hw (lv_sub hl [1, 2, 0] rfl) h
          · have h := h.2 (xb_t c11)
            refine lv_iconst (v := 0) hx hb dX11_lives_106 (by decide) ?_
            refine lv_goto (tgt := 111) hx hb dX11_lives_107 (by decide) ?_
            exact s_X11_lives_L111 C hM (fun hw hl h => ih hw hl h) hw (lv_sub hl [1, 2, 0] rfl) h
        · have h := h.2 c7
          exact x_vret C hw h dX11_lives_90
      · have h := h.2 c3
        refine lv_aload_n hx hb dX11_lives_52 rfl (lv_at hl 0 rfl) ?_
        refine x_getr (ci := 11) C hw 40 (xoM_272 hM) rfl inlX11 (by decide) rfl rfl xrM_272_40 xw_239 dX11_lives_53 ?_
        refine lv_iconst (v := 4) hx hb dX11_lives_56 (by decide) ?_
        refine lv_iconst (v := 1) hx hb dX11_lives_57 (by decide) ?_
        have c12 := h.1
        have h := h.2
        obtain ⟨u13, eu13⟩ : ∃ q : xM, q = si u 288 (4 : Int32).toNatClampNeg (1 : Int32) := ⟨_, rfl⟩
        have h := h u13 eu13
        refine x_iast C hw (xoM_288 hM) c12 dX11_lives_58 eu13 (fun H locs hw => ?_)
        exact x_vret C hw h dX11_lives_59
set_option maxHeartbeats 4000000 in
set_option maxRecDepth 100000 in
theorem s_X11_lives_L12 {Qf : xM → Prop} (C : x_C p s m args meth c g RX11 cX11_lives 4 none) (hM : xpM g) : ∀ (nn : Nat) {v2 : Int32} {u : xM} {H : Heap} {locs : List Loc} {ls : Array Slot} (hw : x_W g s.heap H locs u) (hl : lv_has ls 4 [(0, .ref (xad g 272)), (2, .int v2)]) (h : p_X11_lives_L12 Qf nn v2 u), W p l e (x_rm 10 220) s m args below meth c H locs 0 0 (MQ below (x_Qv g Qf) args s 0 0 (x_A g)) (F0 m 12 ls []) := by
  intro nn
  induction nn with
  | zero => intro v2 u H locs ls hw hl h; exact h.elim
  | succ nn ih =>
    intro v2 u H locs ls hw hl h
    unfold p_X11_lives_L12 at h
    have hx := C.1
    have hb := C.2.1
    refine lv_iload_n hx hb dX11_lives_12 rfl (lv_at hl 1 rfl) ?_
    refine lv_iconst (v := 5) hx hb dX11_lives_13 (by decide) ?_
    refine lv_icmp_ge (tgt := 30) hx hb dX11_lives_14 (by decide) (fun c1 => ?_) (fun c1 => ?_)
    · have h := h.1 c1
      refine lv_iconst (v := 0) hx hb dX11_lives_30 (by decide) ?_
      refine lv_istore_n (lv' := [(2, .int 0), (0, .ref (xad g 272))]) hx hb dX11_lives_31 rfl hl (by decide) rfl (fun ls hl => ?_)
      obtain ⟨n9, h⟩ := h
      exact s_X11_lives_L32 C hM n9 hw (lv_sub hl [1, 0] rfl) h
    · have h := h.2 c1
      refine lv_aload_n hx hb dX11_lives_17 rfl (lv_at hl 0 rfl) ?_
      refine x_getr (ci := 11) C hw 40 (xoM_272 hM) rfl inlX11 (by decide) rfl rfl xrM_272_40 xw_239 dX11_lives_18 ?_
      refine lv_iload_n hx hb dX11_lives_21 rfl (lv_at hl 1 rfl) ?_
      refine lv_iconst (v := 0) hx hb dX11_lives_22 (by decide) ?_
      have c2 := h.1
      have h := h.2
      obtain ⟨u3, eu3⟩ : ∃ q : xM, q = si u 288 v2.toNatClampNeg (0 : Int32) := ⟨_, rfl⟩
      have h := h u3 eu3
      refine x_iast C hw (xoM_288 hM) c2 dX11_lives_23 eu3 (fun H locs hw => ?_)
      obtain ⟨x4, ex4⟩ : ∃ y : Int32, y = v2 + 1 := ⟨_, rfl⟩
      have h := h x4 ex4
      refine lv_iinc (v := x4) (lv' := [(2, .int x4), (0, .ref (xad g 272))]) hx hb dX11_lives_24 hl (k := 1) rfl (by rw [ex4]; rfl) (by decide) rfl (fun ls hl => ?_)
      refine lv_goto (tgt := 12) hx hb dX11_lives_27 (by decide) ?_
      exact ih hw (lv_sub hl [1, 0] rfl) h
set_option maxHeartbeats 4000000 in
set_option maxRecDepth 100000 in
theorem s_X11_lives {Qf : xM → Prop} {a1 : Int32} (C : x_C p s m args meth c g RX11 cX11_lives 4 none) (hM : xpM g) {u : xM} {H : Heap} {locs : List Loc} {ls : Array Slot} (hw : x_W g s.heap H locs u) (hl : lv_has ls 4 [(0, .ref (xad g 272)), (1, .int a1)]) (h : p_X11_lives a1 u Qf) : W p l e (x_rm 10 220) s m args below meth c H locs 0 0 (MQ below (x_Qv g Qf) args s 0 0 (x_A g)) (F0 m 0 ls []) := by
  unfold p_X11_lives at h
  have hx := C.1
  have hb := C.2.1
  refine lv_aload_n hx hb dX11_lives_0 rfl (lv_at hl 0 rfl) ?_
  refine lv_iload_n hx hb dX11_lives_1 rfl (lv_at hl 1 rfl) ?_
  obtain ⟨u1, eu1⟩ : ∃ q : xM, q = si u 272 37 a1 := ⟨_, rfl⟩
  have h := h u1 eu1
  refine x_puti (ci := 11) (ty := .int) C hw 37 (xoM_272 hM) rfl inlX11 tyX11_ok nmX11 (by decide) rfl rfl xw_1907 rfl (by decide +kernel) rfl rfl dX11_lives_2 eu1 (fun H locs hw => ?_)
  refine lv_aload_n hx hb dX11_lives_5 rfl (lv_at hl 0 rfl) ?_
  refine lv_iconst (v := 0) hx hb dX11_lives_6 (by decide) ?_
  obtain ⟨u2, eu2⟩ : ∃ q : xM, q = si u1 272 38 (0 : Int32) := ⟨_, rfl⟩
  have h := h u2 eu2
  refine x_puti (ci := 11) (ty := .int) C hw 38 (xoM_272 hM) rfl inlX11 tyX11_ok nmX11 (by decide) rfl rfl xw_1902 rfl (by decide +kernel) rfl rfl dX11_lives_7 eu2 (fun H locs hw => ?_)
  refine lv_iconst (v := 0) hx hb dX11_lives_10 (by decide) ?_
  refine lv_istore_n (lv' := [(2, .int 0), (0, .ref (xad g 272)), (1, .int a1)]) hx hb dX11_lives_11 rfl hl (by decide) rfl (fun ls hl => ?_)
  obtain ⟨n9, h⟩ := h
  exact s_X11_lives_L12 C hM n9 hw (lv_sub hl [1, 0] rfl) h
set_option maxHeartbeats 4000000 in
set_option maxRecDepth 100000 in
theorem m_X11_lives (l : Launch) {g : xG} (hD : x_D g) (hM : xpM g) {a1 : Int32} {u : xM} {Qf : xM → Prop} (h : p_X11_lives a1 u Qf) : Met l yX11_lives (Cond.code yX11_lives cX11_lives 4 none :: wsL_law) (x_rm 10 220) (va_Pc [.ref (xad g 272), .int a1] (x_B g u)) (x_Qv g Qf) 0 0 (x_A g) := by
  refine Met.ofW (cc := cX11_lives) (maxL := 4) (ret := none) (by decide) rfl ?_
  intro p e s m args below meth c s₁ B hml hv
  obtain ⟨rfl, hB⟩ := hv
  obtain ⟨C, hw⟩ := x_start B hml hD hB
  have hl := lv_entry [.ref (xad g 272), .int a1] (n := 4) (Nat.le_of_ble_eq_true rfl)
  rw [lg_entry_eq]
  exact s_X11_lives C hM hw hl h
set_option maxHeartbeats 4000000 in
set_option maxRecDepth 100000 in
theorem s_X11_live_L42 {Qf : Int32 → xM → Prop} (C : x_C p s m args meth c g RX11 cX11_live 3 (some .int)) (hM : xpM g) : ∀ (nn : Nat) {v2 : Int32} {u : xM} {H : Heap} {locs : List Loc} {ls : Array Slot} (hw : x_W g s.heap H locs u) (hl : lv_has ls 3 [(0, .ref (xad g 272)), (2, .int v2)]) (h : p_X11_live_L42 Qf nn v2 u), W p l e (x_rm 11 243) s m args below meth c H locs 0 0 (MQ below (x_Qi g Qf) args s 0 0 (x_A g)) (F0 m 42 ls []) := by
  intro nn
  induction nn with
  | zero => intro v2 u H locs ls hw hl h; exact h.elim
  | succ nn ih =>
    intro v2 u H locs ls hw hl h
    unfold p_X11_live_L42 at h
    have hx := C.1
    have hb := C.2.1
    refine lv_iload_n hx hb dX11_live_42 rfl (lv_at hl 1 rfl) ?_
    refine lv_iconst (v := 5) hx hb dX11_live_43 (by decide) ?_
    refine lv_icmp_ge (tgt := 65) hx hb dX11_live_44 (by decide) (fun c1 => ?_) (fun c1 => ?_)
    · have h := h.1 c1
      refine lv_aload_n hx hb dX11_live_65 rfl (lv_at hl 0 rfl) ?_
      refine lv_iconst (v := 1) hx hb dX11_live_66 (by decide) ?_
      obtain ⟨u2, eu2⟩ : ∃ q : xM, q = si u 272 42 (1 : Int32) := ⟨_, rfl⟩
      have h := h u2 eu2
      refine x_puti (ci := 11) (ty := .boolean) C hw 42 (xoM_272 hM) rfl inlX11 tyX11_ok nmX11 (by decide) rfl rfl xw_1901 rfl (by decide +kernel) rfl rfl dX11_live_67 eu2 (fun H locs hw => ?_)
      refine lv_aload_n hx hb dX11_live_70 rfl (lv_at hl 0 rfl) ?_
      refine lv_aload_n hx hb dX11_live_71 rfl (lv_at hl 0 rfl) ?_
      refine x_geti (ci := 11) C hw 38 (xoM_272 hM) rfl inlX11 (by decide) rfl rfl xw_1902 dX11_live_72 ?_
      refine x_calli hw (x_runV (ci := 11) C hw (m_X11_gives l C.2.2.2.2.2.2.2.2.1 hM h) (xoM_272 hM) rfl (x_gV xw_731 xw_732 xw_733 xw_5 xw_734) rfl rfl qX11_gives ⟨(Nat.le_of_ble_eq_true rfl), (Nat.le_of_ble_eq_true rfl)⟩ rfl hl.1 rfl (Nat.le_of_ble_eq_true rfl) dX11_live_75) (fun r4 u3 H locs hw h => ?_)
      exact x_iret C hw h dX11_live_78
    · have h := h.2 c1
      refine lv_aload_n hx hb dX11_live_47 rfl (lv_at hl 0 rfl) ?_
      refine x_getr (ci := 11) C hw 41 (xoM_272 hM) rfl inlX11 (by decide) rfl rfl xrM_272_41 xw_240 dX11_live_48 ?_
      refine lv_iload_n hx hb dX11_live_51 rfl (lv_at hl 1 rfl) ?_
      refine lv_aload_n hx hb dX11_live_52 rfl (lv_at hl 0 rfl) ?_
      refine x_getr (ci := 11) C hw 40 (xoM_272 hM) rfl inlX11 (by decide) rfl rfl xrM_272_40 xw_239 dX11_live_53 ?_
      refine lv_iload_n hx hb dX11_live_56 rfl (lv_at hl 1 rfl) ?_
      have c5 := h.1
      have h := h.2
      refine x_iald C hw (xoM_288 hM) c5 dX11_live_57 ?_
      have c6 := h.1
      have h := h.2
      obtain ⟨u7, eu7⟩ : ∃ q : xM, q = si u 289 v2.toNatClampNeg (gi u 288 v2.toNatClampNeg) := ⟨_, rfl⟩
      have h := h u7 eu7
      refine x_iast C hw (xoM_289 hM) c6 dX11_live_58 eu7 (fun H locs hw => ?_)
      obtain ⟨x8, ex8⟩ : ∃ y : Int32, y = v2 + 1 := ⟨_, rfl⟩
      have h := h x8 ex8
      refine lv_iinc (v := x8) (lv' := [(2, .int x8), (0, .ref (xad g 272))]) hx hb dX11_live_59 hl (k := 1) rfl (by rw [ex8]; rfl) (by decide) rfl (fun ls hl => ?_)
      refine lv_goto (tgt := 42) hx hb dX11_live_62 (by decide) ?_
      exact ih hw (lv_sub hl [1, 0] rfl) h
set_option maxHeartbeats 4000000 in
set_option maxRecDepth 100000 in
theorem s_X11_live {Qf : Int32 → xM → Prop} {a1 : Int32} (C : x_C p s m args meth c g RX11 cX11_live 3 (some .int)) (hM : xpM g) {u : xM} {H : Heap} {locs : List Loc} {ls : Array Slot} (hw : x_W g s.heap H locs u) (hl : lv_has ls 3 [(0, .ref (xad g 272)), (1, .int a1)]) (h : p_X11_live a1 u Qf) : W p l e (x_rm 11 243) s m args below meth c H locs 0 0 (MQ below (x_Qi g Qf) args s 0 0 (x_A g)) (F0 m 0 ls []) := by
  unfold p_X11_live at h
  have hx := C.1
  have hb := C.2.1
  refine lv_iload_n hx hb dX11_live_0 rfl (lv_at hl 1 rfl) ?_
  refine lv_i2l hx hb dX11_live_1 rfl ?_
  refine lv_lconst (v := 0) hx hb dX11_live_2 (by decide) ?_
  refine lv_ldc2 (v := 9999) hx hb C.2.2.2.1 (C.2.2.2.2.1 _ xw_1900) dX11_live_3 ?_
  refine x_callz hw (x_runS C hw (m_X11_isFrom l C.2.2.2.2.2.2.2.2.1  h) (x_gS xw_1197 xw_1198 xw_5 xw_1199) rfl rfl qX11_isFrom ⟨(Nat.le_of_ble_eq_true rfl), (Nat.le_of_ble_eq_true rfl)⟩ rfl hl.1 rfl (Nat.le_of_ble_eq_true rfl) dX11_live_6) (fun r2 u1 H locs hw h => ?_)
  refine lv_if_ne (tgt := 18) hx hb dX11_live_9 (by decide) (fun c3 => ?_) (fun c3 => ?_)
  · have h := h.1 (xb_t c3)
    refine lv_aload_n hx hb dX11_live_18 rfl (lv_at hl 0 rfl) ?_
    refine x_getr (ci := 11) C hw 0 (xoM_272 hM) rfl inlX11 (by decide) rfl rfl xrM_272_0 xw_219 dX11_live_19 ?_
    refine lv_iconst (v := 4) hx hb dX11_live_22 (by decide) ?_
    have c4 := h.1
    have h := h.2
    refine x_iald C hw (xoM_273 hM) c4 dX11_live_23 ?_
    refine lv_iconst (v := -1) hx hb dX11_live_24 (by decide) ?_
    refine lv_icmp_ne (tgt := 35) hx hb dX11_live_25 (by decide) (fun c5 => ?_) (fun c5 => ?_)
    · have h := h.1 c5
      refine lv_aload_n hx hb dX11_live_35 rfl (lv_at hl 0 rfl) ?_
      refine lv_iload_n hx hb dX11_live_36 rfl (lv_at hl 1 rfl) ?_
      refine x_callv hw (x_runV (ci := 11) C hw (m_X11_lives l C.2.2.2.2.2.2.2.2.1 hM h) (xoM_272 hM) rfl (x_gV xw_1903 xw_1904 xw_1905 xw_5 xw_1906) rfl rfl qX11_lives ⟨(Nat.le_of_ble_eq_true rfl), (Nat.le_of_ble_eq_true rfl)⟩ rfl hl.1 rfl (Nat.le_of_ble_eq_true rfl) dX11_live_37) (fun u6 H locs hw h => ?_)
      refine lv_iconst (v := 0) hx hb dX11_live_40 (by decide) ?_
      refine lv_istore_n (lv' := [(2, .int 0), (0, .ref (xad g 272)), (1, .int a1)]) hx hb dX11_live_41 rfl hl (by decide) rfl (fun ls hl => ?_)
      obtain ⟨n9, h⟩ := h
      exact s_X11_live_L42 C hM n9 hw (lv_sub hl [1, 0] rfl) h
    · have h := h.2 c5
      refine lv_aload_n hx hb dX11_live_28 rfl (lv_at hl 0 rfl) ?_
      refine lv_bipush (v := 6) hx hb dX11_live_29 (by decide) ?_
      refine x_calli hw (x_runV (ci := 11) C hw (m_X11_refuse l C.2.2.2.2.2.2.2.2.1 hM h) (xoM_272 hM) rfl (x_gV xw_657 xw_658 xw_659 xw_5 xw_660) rfl rfl qX11_refuse ⟨(Nat.le_of_ble_eq_true rfl), (Nat.le_of_ble_eq_true rfl)⟩ rfl hl.1 rfl (Nat.le_of_ble_eq_true rfl) dX11_live_31) (fun r8 u7 H locs hw h => ?_)
      exact x_iret C hw h dX11_live_34
  · have h := h.2 (xb_f c3)
    refine lv_aload_n hx hb dX11_live_12 rfl (lv_at hl 0 rfl) ?_
    refine lv_iconst (v := 1) hx hb dX11_live_13 (by decide) ?_
    refine x_calli hw (x_runV (ci := 11) C hw (m_X11_refuse l C.2.2.2.2.2.2.2.2.1 hM h) (xoM_272 hM) rfl (x_gV xw_657 xw_658 xw_659 xw_5 xw_660) rfl rfl qX11_refuse ⟨(Nat.le_of_ble_eq_true rfl), (Nat.le_of_ble_eq_true rfl)⟩ rfl hl.1 rfl (Nat.le_of_ble_eq_true rfl) dX11_live_14) (fun r10 u9 H locs hw h => ?_)
    exact x_iret C hw h dX11_live_17
set_option maxHeartbeats 4000000 in
set_option maxRecDepth 100000 in
theorem m_X11_live (l : Launch) {g : xG} (hD : x_D g) (hM : xpM g) {a1 : Int32} {u : xM} {Qf : Int32 → xM → Prop} (h : p_X11_live a1 u Qf) : Met l yX11_live (Cond.code yX11_live cX11_live 3 (some .int) :: wsL_law) (x_rm 11 243) (va_Pc [.ref (xad g 272), .int a1] (x_B g u)) (x_Qi g Qf) 0 0 (x_A g) := by
  refine Met.ofW (cc := cX11_live) (maxL := 3) (ret := (some .int)) (by decide) rfl ?_
  intro p e s m args below meth c s₁ B hml hv
  obtain ⟨rfl, hB⟩ := hv
  obtain ⟨C, hw⟩ := x_start B hml hD hB
  have hl := lv_entry [.ref (xad g 272), .int a1] (n := 3) (Nat.le_of_ble_eq_true rfl)
  rw [lg_entry_eq]
  exact s_X11_live C hM hw hl h
set_option maxHeartbeats 4000000 in
set_option maxRecDepth 100000 in
theorem s_X11_lived {Qf : Int32 → xM → Prop} {a1 : Int32} (C : x_C p s m args meth c g RX11 cX11_lived 2 (some .int)) (hM : xpM g) {u : xM} {H : Heap} {locs : List Loc} {ls : Array Slot} (hw : x_W g s.heap H locs u) (hl : lv_has ls 2 [(0, .ref (xad g 272)), (1, .int a1)]) (h : p_X11_lived a1 u Qf) : W p l e (x_rm 1 21) s m args below meth c H locs 0 0 (MQ below (x_Qi g Qf) args s 0 0 (x_A g)) (F0 m 0 ls []) := by
  unfold p_X11_lived at h
  have hx := C.1
  have hb := C.2.1
  refine lv_iload_n hx hb dX11_lived_0 rfl (lv_at hl 1 rfl) ?_
  refine lv_if_lt (tgt := 9) hx hb dX11_lived_1 (by decide) (fun c1 => ?_) (fun c1 => ?_)
  · have h := h.1 c1
    refine lv_aload_n hx hb dX11_lived_9 rfl (lv_at hl 0 rfl) ?_
    refine lv_iconst (v := 1) hx hb dX11_lived_10 (by decide) ?_
    refine x_calli hw (x_runV (ci := 11) C hw (m_X11_refuse l C.2.2.2.2.2.2.2.2.1 hM h) (xoM_272 hM) rfl (x_gV xw_657 xw_658 xw_659 xw_5 xw_660) rfl rfl qX11_refuse ⟨(Nat.le_of_ble_eq_true rfl), (Nat.le_of_ble_eq_true rfl)⟩ rfl hl.1 rfl (Nat.le_of_ble_eq_true rfl) dX11_lived_11) (fun r3 u2 H locs hw h => ?_)
    refine lv_goto (tgt := 43) hx hb dX11_lived_14 (by decide) ?_
    exact x_iret C hw h dX11_lived_43
  · have h := h.2 c1
    refine lv_iload_n hx hb dX11_lived_4 rfl (lv_at hl 1 rfl) ?_
    refine lv_iconst (v := 4) hx hb dX11_lived_5 (by decide) ?_
    refine lv_icmp_le (tgt := 17) hx hb dX11_lived_6 (by decide) (fun c4 => ?_) (fun c4 => ?_)
    · have h := h.1 c4
      refine lv_aload_n hx hb dX11_lived_17 rfl (lv_at hl 0 rfl) ?_
      refine x_geti (ci := 11) C hw 42 (xoM_272 hM) rfl inlX11 (by decide) rfl rfl xw_1901 dX11_lived_18 ?_
      refine lv_if_eq (tgt := 37) hx hb dX11_lived_21 (by decide) (fun c5 => ?_) (fun c5 => ?_)
      · have h := h.1 c5
        refine lv_aload_n hx hb dX11_lived_37 rfl (lv_at hl 0 rfl) ?_
        refine lv_bipush (v := 6) hx hb dX11_lived_38 (by decide) ?_
        refine x_calli hw (x_runV (ci := 11) C hw (m_X11_refuse l C.2.2.2.2.2.2.2.2.1 hM h) (xoM_272 hM) rfl (x_gV xw_657 xw_658 xw_659 xw_5 xw_660) rfl rfl qX11_refuse ⟨(Nat.le_of_ble_eq_true rfl), (Nat.le_of_ble_eq_true rfl)⟩ rfl hl.1 rfl (Nat.le_of_ble_eq_true rfl) dX11_lived_40) (fun r7 u6 H locs hw h => ?_)
        exact x_iret C hw h dX11_lived_43
      · have h := h.2 c5
        refine lv_aload_n hx hb dX11_lived_24 rfl (lv_at hl 0 rfl) ?_
        refine lv_aload_n hx hb dX11_lived_25 rfl (lv_at hl 0 rfl) ?_
        refine x_getr (ci := 11) C hw 41 (xoM_272 hM) rfl inlX11 (by decide) rfl rfl xrM_272_41 xw_240 dX11_lived_26 ?_
        refine lv_iload_n hx hb dX11_lived_29 rfl (lv_at hl 1 rfl) ?_
        have c8 := h.1
        have h := h.2
        refine x_iald C hw (xoM_289 hM) c8 dX11_lived_30 ?_
        refine x_calli hw (x_runV (ci := 11) C hw (m_X11_gives l C.2.2.2.2.2.2.2.2.1 hM h) (xoM_272 hM) rfl (x_gV xw_731 xw_732 xw_733 xw_5 xw_734) rfl rfl qX11_gives ⟨(Nat.le_of_ble_eq_true rfl), (Nat.le_of_ble_eq_true rfl)⟩ rfl hl.1 rfl (Nat.le_of_ble_eq_true rfl) dX11_lived_31) (fun r10 u9 H locs hw h => ?_)
        refine lv_goto (tgt := 43) hx hb dX11_lived_34 (by decide) ?_
        exact x_iret C hw h dX11_lived_43
    · have h := h.2 c4
      refine lv_aload_n hx hb dX11_lived_9 rfl (lv_at hl 0 rfl) ?_
      refine lv_iconst (v := 1) hx hb dX11_lived_10 (by decide) ?_
      refine x_calli hw (x_runV (ci := 11) C hw (m_X11_refuse l C.2.2.2.2.2.2.2.2.1 hM h) (xoM_272 hM) rfl (x_gV xw_657 xw_658 xw_659 xw_5 xw_660) rfl rfl qX11_refuse ⟨(Nat.le_of_ble_eq_true rfl), (Nat.le_of_ble_eq_true rfl)⟩ rfl hl.1 rfl (Nat.le_of_ble_eq_true rfl) dX11_lived_11) (fun r12 u11 H locs hw h => ?_)
      refine lv_goto (tgt := 43) hx hb dX11_lived_14 (by decide) ?_
      exact x_iret C hw h dX11_lived_43
set_option maxHeartbeats 4000000 in
set_option maxRecDepth 100000 in
theorem m_X11_lived (l : Launch) {g : xG} (hD : x_D g) (hM : xpM g) {a1 : Int32} {u : xM} {Qf : Int32 → xM → Prop} (h : p_X11_lived a1 u Qf) : Met l yX11_lived (Cond.code yX11_lived cX11_lived 2 (some .int) :: wsL_law) (x_rm 1 21) (va_Pc [.ref (xad g 272), .int a1] (x_B g u)) (x_Qi g Qf) 0 0 (x_A g) := by
  refine Met.ofW (cc := cX11_lived) (maxL := 2) (ret := (some .int)) (by decide) rfl ?_
  intro p e s m args below meth c s₁ B hml hv
  obtain ⟨rfl, hB⟩ := hv
  obtain ⟨C, hw⟩ := x_start B hml hD hB
  have hl := lv_entry [.ref (xad g 272), .int a1] (n := 2) (Nat.le_of_ble_eq_true rfl)
  rw [lg_entry_eq]
  exact s_X11_lived C hM hw hl h
set_option maxHeartbeats 4000000 in
set_option maxRecDepth 100000 in
theorem s_X11_mean_L70 {Qf : Bool → xM → Prop} (C : x_C p s m args meth c g RX11 cX11_mean 6 (some .boolean)) (hM : xpM g) : ∀ (nn : Nat) {v1 : Int32} {v2 : Int32} {v3 : Int64} {v5 : Int32} {u : xM} {H : Heap} {locs : List Loc} {ls : Array Slot} (hw : x_W g s.heap H locs u) (hl : lv_has ls 6 [(0, .ref (xad g 272)), (1, .int v1), (2, .int v2), (3, .long v3), (5, .int v5)]) (h : p_X11_mean_L70 Qf nn v1 v2 v3 v5 u), W p l e (x_rm 11 243) s m args below meth c H locs 0 0 (MQ below (x_Qz g Qf) args s 0 0 (x_A g)) (F0 m 70 ls []) := by
  intro nn
  induction nn with
  | zero => intro v1 v2 v3 v5 u H locs ls hw hl h; exact h.elim
  | succ nn ih =>
    intro v1 v2 v3 v5 u H locs ls hw hl h
    unfold p_X11_mean_L70 at h
    have hx := C.1
    have hb := C.2.1
    refine lv_iload hx hb dX11_mean_70 (lv_at hl 4 rfl) ?_
    refine lv_iload_n hx hb dX11_mean_72 rfl (lv_at hl 2 rfl) ?_
    refine lv_icmp_ge (tgt := 105) hx hb dX11_mean_73 (by decide) (fun c1 => ?_) (fun c1 => ?_)
    · have h := h.1 c1
      refine lv_aload_n hx hb dX11_mean_105 rfl (lv_at hl 0 rfl) ?_
      refine lv_lload_n hx hb dX11_mean_106 rfl (lv_at hl 3 rfl) ?_
      refine lv_iload_n hx hb dX11_mean_107 rfl (lv_at hl 2 rfl) ?_
      refine lv_i2l hx hb dX11_mean_108 rfl ?_
      refine x_callz hw (x_runV (ci := 11) C hw (m_X11_tellsBy l C.2.2.2.2.2.2.2.2.1 hM h) (xoM_272 hM) rfl (x_gV xw_1754 xw_1755 xw_1756 xw_5 xw_1757) rfl rfl qX11_tellsBy ⟨(Nat.le_of_ble_eq_true rfl), (Nat.le_of_ble_eq_true rfl)⟩ rfl hl.1 rfl (Nat.le_of_ble_eq_true rfl) dX11_mean_109) (fun r3 u2 H locs hw h => ?_)
      exact x_zret _ C hw h rfl dX11_mean_112
    · have h := h.2 c1
      refine lv_aload_n hx hb dX11_mean_76 rfl (lv_at hl 0 rfl) ?_
      refine lv_iload_n hx hb dX11_mean_77 rfl (lv_at hl 1 rfl) ?_
      refine lv_iload hx hb dX11_mean_78 (lv_at hl 4 rfl) ?_
      refine lv_iadd hx hb dX11_mean_80 ?_
      refine x_callv hw (x_runV (ci := 11) C hw (m_X11_lives l C.2.2.2.2.2.2.2.2.1 hM h) (xoM_272 hM) rfl (x_gV xw_1903 xw_1904 xw_1905 xw_5 xw_1906) rfl rfl qX11_lives ⟨(Nat.le_of_ble_eq_true rfl), (Nat.le_of_ble_eq_true rfl)⟩ rfl hl.1 rfl (Nat.le_of_ble_eq_true rfl) dX11_mean_81) (fun u4 H locs hw h => ?_)
      refine lv_lload_n hx hb dX11_mean_84 rfl (lv_at hl 3 rfl) ?_
      refine lv_aload_n hx hb dX11_mean_85 rfl (lv_at hl 0 rfl) ?_
      refine x_calli hw (x_runV (ci := 11) C hw (m_X11_allWater l C.2.2.2.2.2.2.2.2.1 hM h) (xoM_272 hM) rfl (x_gV xw_888 xw_889 xw_890 xw_5 xw_891) rfl rfl qX11_allWater ⟨(Nat.le_of_ble_eq_true rfl), (Nat.le_of_ble_eq_true rfl)⟩ rfl hl.1 rfl (Nat.le_of_ble_eq_true rfl) dX11_mean_86) (fun r6 u5 H locs hw h => ?_)
      refine lv_i2l hx hb dX11_mean_89 rfl ?_
      refine lv_ladd hx hb dX11_mean_90 ?_
      refine lv_topl (fun x7 ex7 => ?_)
      have h := h x7 ex7
      refine lv_lstore_n (lv' := [(3, .long x7), (0, .ref (xad g 272)), (1, .int v1), (2, .int v2), (5, .int v5)]) hx hb dX11_mean_91 rfl hl (by decide) rfl (fun ls hl => ?_)
      refine lv_aload_n hx hb dX11_mean_92 rfl (lv_at hl 1 rfl) ?_
      refine lv_sipush (v := 2620) hx hb dX11_mean_93 (by decide) ?_
      refine x_callv hw (x_runV (ci := 11) C hw (m_X11_restores l C.2.2.2.2.2.2.2.2.1 hM h) (xoM_272 hM) rfl (x_gV xw_1346 xw_1347 xw_1348 xw_5 xw_1349) rfl rfl qX11_restores ⟨(Nat.le_of_ble_eq_true rfl), (Nat.le_of_ble_eq_true rfl)⟩ rfl hl.1 rfl (Nat.le_of_ble_eq_true rfl) dX11_mean_96) (fun u8 H locs hw h => ?_)
      obtain ⟨x9, ex9⟩ : ∃ y : Int32, y = v5 + 1 := ⟨_, rfl⟩
      have h := h x9 ex9
      refine lv_iinc (v := x9) (lv' := [(5, .int x9), (3, .long x7), (0, .ref (xad g 272)), (1, .int v1), (2, .int v2)]) hx hb dX11_mean_99 hl (k := 4) rfl (by rw [ex9]; rfl) (by decide) rfl (fun ls hl => ?_)
      refine lv_goto (tgt := 70) hx hb dX11_mean_102 (by decide) ?_
      exact ih hw (lv_sub hl [2, 3, 4, 1, 0] rfl) h
set_option maxHeartbeats 4000000 in
set_option maxRecDepth 100000 in
theorem s_X11_mean {Qf : Bool → xM → Prop} {a1 : Int32} {a2 : Int32} (C : x_C p s m args meth c g RX11 cX11_mean 6 (some .boolean)) (hM : xpM g) {u : xM} {H : Heap} {locs : List Loc} {ls : Array Slot} (hw : x_W g s.heap H locs u) (hl : lv_has ls 6 [(0, .ref (xad g 272)), (1, .int a1), (2, .int a2)]) (h : p_X11_mean a1 a2 u Qf) : W p l e (x_rm 11 243) s m args below meth c H locs 0 0 (MQ below (x_Qz g Qf) args s 0 0 (x_A g)) (F0 m 0 ls []) := by
  unfold p_X11_mean at h
  have hx := C.1
  have hb := C.2.1
  refine lv_iload_n hx hb dX11_mean_0 rfl (lv_at hl 1 rfl) ?_
  refine lv_i2l hx hb dX11_mean_1 rfl ?_
  refine lv_lconst (v := 0) hx hb dX11_mean_2 (by decide) ?_
  refine lv_ldc2 (v := 9999) hx hb C.2.2.2.1 (C.2.2.2.2.1 _ xw_1900) dX11_mean_3 ?_
  refine x_callz hw (x_runS C hw (m_X11_isFrom l C.2.2.2.2.2.2.2.2.1  h) (x_gS xw_1197 xw_1198 xw_5 xw_1199) rfl rfl qX11_isFrom ⟨(Nat.le_of_ble_eq_true rfl), (Nat.le_of_ble_eq_true rfl)⟩ rfl hl.1 rfl (Nat.le_of_ble_eq_true rfl) dX11_mean_6) (fun r2 u1 H locs hw h => ?_)
  refine lv_if_eq (tgt := 35) hx hb dX11_mean_9 (by decide) (fun c3 => ?_) (fun c3 => ?_)
  · have h := h.1 (xb_f c3)
    refine lv_aload_n hx hb dX11_mean_35 rfl (lv_at hl 0 rfl) ?_
    refine lv_iconst (v := 1) hx hb dX11_mean_36 (by decide) ?_
    refine x_callz hw (x_runV (ci := 11) C hw (m_X11_is l C.2.2.2.2.2.2.2.2.1 hM h) (xoM_272 hM) rfl (x_gV xw_303 xw_304 xw_305 xw_5 xw_306) rfl rfl qX11_is ⟨(Nat.le_of_ble_eq_true rfl), (Nat.le_of_ble_eq_true rfl)⟩ rfl hl.1 rfl (Nat.le_of_ble_eq_true rfl) dX11_mean_37) (fun r5 u4 H locs hw h => ?_)
    exact x_zret _ C hw h rfl dX11_mean_40
  · have h := h.2 (xb_t c3)
    refine lv_iload_n hx hb dX11_mean_12 rfl (lv_at hl 2 rfl) ?_
    refine lv_i2l hx hb dX11_mean_13 rfl ?_
    refine lv_lconst (v := 1) hx hb dX11_mean_14 (by decide) ?_
    refine lv_ldc2 (v := 20) hx hb C.2.2.2.1 (C.2.2.2.2.1 _ xw_1959) dX11_mean_15 ?_
    refine x_callz hw (x_runS C hw (m_X11_isFrom l C.2.2.2.2.2.2.2.2.1  h) (x_gS xw_1197 xw_1198 xw_5 xw_1199) rfl rfl qX11_isFrom ⟨(Nat.le_of_ble_eq_true rfl), (Nat.le_of_ble_eq_true rfl)⟩ rfl hl.1 rfl (Nat.le_of_ble_eq_true rfl) dX11_mean_18) (fun r7 u6 H locs hw h => ?_)
    refine lv_if_eq (tgt := 35) hx hb dX11_mean_21 (by decide) (fun c8 => ?_) (fun c8 => ?_)
    · have h := h.1 (xb_f c8)
      refine lv_aload_n hx hb dX11_mean_35 rfl (lv_at hl 0 rfl) ?_
      refine lv_iconst (v := 1) hx hb dX11_mean_36 (by decide) ?_
      refine x_callz hw (x_runV (ci := 11) C hw (m_X11_is l C.2.2.2.2.2.2.2.2.1 hM h) (xoM_272 hM) rfl (x_gV xw_303 xw_304 xw_305 xw_5 xw_306) rfl rfl qX11_is ⟨(Nat.le_of_ble_eq_true rfl), (Nat.le_of_ble_eq_true rfl)⟩ rfl hl.1 rfl (Nat.le_of_ble_eq_true rfl) dX11_mean_37) (fun r10 u9 H locs hw h => ?_)
      exact x_zret _ C hw h rfl dX11_mean_40
    · have h := h.2 (xb_t c8)
      refine lv_iload_n hx hb dX11_mean_24 rfl (lv_at hl 1 rfl) ?_
      refine lv_iload_n hx hb dX11_mean_25 rfl (lv_at hl 2 rfl) ?_
      refine lv_iadd hx hb dX11_mean_26 ?_
      refine lv_iconst (v := 1) hx hb dX11_mean_27 (by decide) ?_
      refine lv_isub hx hb dX11_mean_28 ?_
      refine lv_sipush (v := 9999) hx hb dX11_mean_29 (by decide) ?_
      refine lv_icmp_le (tgt := 41) hx hb dX11_mean_32 (by decide) (fun c11 => ?_) (fun c11 => ?_)
      · have h := h.1 c11
        refine lv_aload_n hx hb dX11_mean_41 rfl (lv_at hl 0 rfl) ?_
        refine x_getr (ci := 11) C hw 0 (xoM_272 hM) rfl inlX11 (by decide) rfl rfl xrM_272_0 xw_219 dX11_mean_42 ?_
        refine lv_iconst (v := 4) hx hb dX11_mean_45 (by decide) ?_
        have c12 := h.1
        have h := h.2
        refine x_iald C hw (xoM_273 hM) c12 dX11_mean_46 ?_
        refine lv_iconst (v := -1) hx hb dX11_mean_47 (by decide) ?_
        refine lv_icmp_ne (tgt := 58) hx hb dX11_mean_48 (by decide) (fun c13 => ?_) (fun c13 => ?_)
        · have h := h.1 c13
          refine lv_aload_n hx hb dX11_mean_58 rfl (lv_at hl 0 rfl) ?_
          refine lv_sipush (v := 2620) hx hb dX11_mean_59 (by decide) ?_
          refine x_callv hw (x_runV (ci := 11) C hw (m_X11_keeps l C.2.2.2.2.2.2.2.2.1 hM h) (xoM_272 hM) rfl (x_gV xw_1342 xw_1343 xw_1344 xw_5 xw_1345) rfl rfl qX11_keeps ⟨(Nat.le_of_ble_eq_true rfl), (Nat.le_of_ble_eq_true rfl)⟩ rfl hl.1 rfl (Nat.le_of_ble_eq_true rfl) dX11_mean_62) (fun u14 H locs hw h => ?_)
          refine lv_lconst (v := 0) hx hb dX11_mean_65 (by decide) ?_
          refine lv_lstore_n (lv' := [(3, .long 0), (0, .ref (xad g 272)), (1, .int a1), (2, .int a2)]) hx hb dX11_mean_66 rfl hl (by decide) rfl (fun ls hl => ?_)
          refine lv_iconst (v := 0) hx hb dX11_mean_67 (by decide) ?_
          refine lv_istore (lv' := [(5, .int 0), (3, .long 0), (0, .ref (xad g 272)), (1, .int a1), (2, .int a2)]) hx hb dX11_mean_68 hl (by decide) rfl (fun ls hl => ?_)
          obtain ⟨n9, h⟩ := h
          exact s_X11_mean_L70 C hM n9 hw (lv_sub hl [2, 3, 4, 1, 0] rfl) h
        · have h := h.2 c13
          refine lv_aload_n hx hb dX11_mean_51 rfl (lv_at hl 0 rfl) ?_
          refine lv_bipush (v := 6) hx hb dX11_mean_52 (by decide) ?_
          refine x_callz hw (x_runV (ci := 11) C hw (m_X11_is l C.2.2.2.2.2.2.2.2.1 hM h) (xoM_272 hM) rfl (x_gV xw_303 xw_304 xw_305 xw_5 xw_306) rfl rfl qX11_is ⟨(Nat.le_of_ble_eq_true rfl), (Nat.le_of_ble_eq_true rfl)⟩ rfl hl.1 rfl (Nat.le_of_ble_eq_true rfl) dX11_mean_54) (fun r16 u15 H locs hw h => ?_)
          exact x_zret _ C hw h rfl dX11_mean_57
      · have h := h.2 c11
        refine lv_aload_n hx hb dX11_mean_35 rfl (lv_at hl 0 rfl) ?_
        refine lv_iconst (v := 1) hx hb dX11_mean_36 (by decide) ?_
        refine x_callz hw (x_runV (ci := 11) C hw (m_X11_is l C.2.2.2.2.2.2.2.2.1 hM h) (xoM_272 hM) rfl (x_gV xw_303 xw_304 xw_305 xw_5 xw_306) rfl rfl qX11_is ⟨(Nat.le_of_ble_eq_true rfl), (Nat.le_of_ble_eq_true rfl)⟩ rfl hl.1 rfl (Nat.le_of_ble_eq_true rfl) dX11_mean_37) (fun r18 u17 H locs hw h => ?_)
        exact x_zret _ C hw h rfl dX11_mean_40
set_option maxHeartbeats 4000000 in
set_option maxRecDepth 100000 in
theorem m_X11_mean (l : Launch) {g : xG} (hD : x_D g) (hM : xpM g) {a1 : Int32} {a2 : Int32} {u : xM} {Qf : Bool → xM → Prop} (h : p_X11_mean a1 a2 u Qf) : Met l yX11_mean (Cond.code yX11_mean cX11_mean 6 (some .boolean) :: wsL_law) (x_rm 11 243) (va_Pc [.ref (xad g 272), .int a1, .int a2] (x_B g u)) (x_Qz g Qf) 0 0 (x_A g) := by
  refine Met.ofW (cc := cX11_mean) (maxL := 6) (ret := (some .boolean)) (by decide) rfl ?_
  intro p e s m args below meth c s₁ B hml hv
  obtain ⟨rfl, hB⟩ := hv
  obtain ⟨C, hw⟩ := x_start B hml hD hB
  have hl := lv_entry [.ref (xad g 272), .int a1, .int a2] (n := 6) (Nat.le_of_ble_eq_true rfl)
  rw [lg_entry_eq]
  exact s_X11_mean C hM hw hl h
set_option maxHeartbeats 4000000 in
set_option maxRecDepth 100000 in
theorem s_X11_copies_L41 {Qf : xM → Prop} (C : x_C p s m args meth c g RX11 cX11_copies 4 none) (hM : xpM g) : ∀ (nn : Nat) {v1 : Int32} {v2 : Int32} {v3 : Int32} {u : xM} {H : Heap} {locs : List Loc} {ls : Array Slot} (hw : x_W g s.heap H locs u) (hl : lv_has ls 4 [(0, .ref (xad g 272)), (1, .int v1), (2, .int v2), (3, .int v3)]) (h : p_X11_copies_L41 Qf nn v1 v2 v3 u), W p l e (x_rm 0 0) s m args below meth c H locs 0 0 (MQ below (x_Qv g Qf) args s 0 0 (x_A g)) (F0 m 41 ls []) := by
  intro nn
  induction nn with
  | zero => intro v1 v2 v3 u H locs ls hw hl h; exact h.elim
  | succ nn ih =>
    intro v1 v2 v3 u H locs ls hw hl h
    unfold p_X11_copies_L41 at h
    have hx := C.1
    have hb := C.2.1
    refine lv_iload_n hx hb dX11_copies_41 rfl (lv_at hl 3 rfl) ?_
    refine lv_bipush (v := 21) hx hb dX11_copies_42 (by decide) ?_
    refine lv_icmp_ge (tgt := 75) hx hb dX11_copies_44 (by decide) (fun c1 => ?_) (fun c1 => ?_)
    · have h := h.1 c1
      exact x_vret C hw h dX11_copies_75
    · have h := h.2 c1
      refine lv_aload_n hx hb dX11_copies_47 rfl (lv_at hl 0 rfl) ?_
      refine x_getr (ci := 11) C hw 1 (xoM_272 hM) rfl inlX11 (by decide) rfl rfl xrM_272_1 xw_220 dX11_copies_48 ?_
      refine lv_bipush (v := 21) hx hb dX11_copies_51 (by decide) ?_
      refine lv_iload_n hx hb dX11_copies_53 rfl (lv_at hl 2 rfl) ?_
      refine lv_imul hx hb dX11_copies_54 ?_
      refine lv_iload_n hx hb dX11_copies_55 rfl (lv_at hl 3 rfl) ?_
      refine lv_iadd hx hb dX11_copies_56 ?_
      refine lv_aload_n hx hb dX11_copies_57 rfl (lv_at hl 0 rfl) ?_
      refine x_getr (ci := 11) C hw 1 (xoM_272 hM) rfl inlX11 (by decide) rfl rfl xrM_272_1 xw_220 dX11_copies_58 ?_
      refine lv_bipush (v := 21) hx hb dX11_copies_61 (by decide) ?_
      refine lv_iload_n hx hb dX11_copies_63 rfl (lv_at hl 1 rfl) ?_
      refine lv_imul hx hb dX11_copies_64 ?_
      refine lv_iload_n hx hb dX11_copies_65 rfl (lv_at hl 3 rfl) ?_
      refine lv_iadd hx hb dX11_copies_66 ?_
      have c2 := h.1
      have h := h.2
      refine x_lald C hw (xoM_274 hM) c2 dX11_copies_67 ?_
      have c3 := h.1
      have h := h.2
      obtain ⟨u4, eu4⟩ : ∃ q : xM, q = sl u 274 (((21 : Int32) * v2) + v3).toNatClampNeg (gl u 274 (((21 : Int32) * v1) + v3).toNatClampNeg) := ⟨_, rfl⟩
      have h := h u4 eu4
      refine x_last C hw (xoM_274 hM) c3 dX11_copies_68 eu4 (fun H locs hw => ?_)
      obtain ⟨x5, ex5⟩ : ∃ y : Int32, y = v3 + 1 := ⟨_, rfl⟩
      have h := h x5 ex5
      refine lv_iinc (v := x5) (lv' := [(3, .int x5), (0, .ref (xad g 272)), (1, .int v1), (2, .int v2)]) hx hb dX11_copies_69 hl (k := 3) rfl (by rw [ex5]; rfl) (by decide) rfl (fun ls hl => ?_)
      refine lv_goto (tgt := 41) hx hb dX11_copies_72 (by decide) ?_
      exact ih hw (lv_sub hl [1, 2, 3, 0] rfl) h
set_option maxHeartbeats 4000000 in
set_option maxRecDepth 100000 in
theorem s_X11_copies_L2 {Qf : xM → Prop} (C : x_C p s m args meth c g RX11 cX11_copies 4 none) (hM : xpM g) : ∀ (nn : Nat) {v1 : Int32} {v2 : Int32} {v3 : Int32} {u : xM} {H : Heap} {locs : List Loc} {ls : Array Slot} (hw : x_W g s.heap H locs u) (hl : lv_has ls 4 [(0, .ref (xad g 272)), (1, .int v1), (2, .int v2), (3, .int v3)]) (h : p_X11_copies_L2 Qf nn v1 v2 v3 u), W p l e (x_rm 0 0) s m args below meth c H locs 0 0 (MQ below (x_Qv g Qf) args s 0 0 (x_A g)) (F0 m 2 ls []) := by
  intro nn
  induction nn with
  | zero => intro v1 v2 v3 u H locs ls hw hl h; exact h.elim
  | succ nn ih =>
    intro v1 v2 v3 u H locs ls hw hl h
    unfold p_X11_copies_L2 at h
    have hx := C.1
    have hb := C.2.1
    refine lv_iload_n hx hb dX11_copies_2 rfl (lv_at hl 3 rfl) ?_
    refine lv_sipush (v := 524) hx hb dX11_copies_3 (by decide) ?_
    refine lv_icmp_ge (tgt := 39) hx hb dX11_copies_6 (by decide) (fun c1 => ?_) (fun c1 => ?_)
    · have h := h.1 c1
      refine lv_iconst (v := 0) hx hb dX11_copies_39 (by decide) ?_
      refine lv_istore_n (lv' := [(3, .int 0), (0, .ref (xad g 272)), (1, .int v1), (2, .int v2)]) hx hb dX11_copies_40 rfl hl (by decide) rfl (fun ls hl => ?_)
      obtain ⟨n9, h⟩ := h
      exact s_X11_copies_L41 C hM n9 hw (lv_sub hl [1, 2, 3, 0] rfl) h
    · have h := h.2 c1
      refine lv_aload_n hx hb dX11_copies_9 rfl (lv_at hl 0 rfl) ?_
      refine x_getr (ci := 11) C hw 0 (xoM_272 hM) rfl inlX11 (by decide) rfl rfl xrM_272_0 xw_219 dX11_copies_10 ?_
      refine lv_sipush (v := 524) hx hb dX11_copies_13 (by decide) ?_
      refine lv_iload_n hx hb dX11_copies_16 rfl (lv_at hl 2 rfl) ?_
      refine lv_imul hx hb dX11_copies_17 ?_
      refine lv_iload_n hx hb dX11_copies_18 rfl (lv_at hl 3 rfl) ?_
      refine lv_iadd hx hb dX11_copies_19 ?_
      refine lv_aload_n hx hb dX11_copies_20 rfl (lv_at hl 0 rfl) ?_
      refine x_getr (ci := 11) C hw 0 (xoM_272 hM) rfl inlX11 (by decide) rfl rfl xrM_272_0 xw_219 dX11_copies_21 ?_
      refine lv_sipush (v := 524) hx hb dX11_copies_24 (by decide) ?_
      refine lv_iload_n hx hb dX11_copies_27 rfl (lv_at hl 1 rfl) ?_
      refine lv_imul hx hb dX11_copies_28 ?_
      refine lv_iload_n hx hb dX11_copies_29 rfl (lv_at hl 3 rfl) ?_
      refine lv_iadd hx hb dX11_copies_30 ?_
      have c2 := h.1
      have h := h.2
      refine x_iald C hw (xoM_273 hM) c2 dX11_copies_31 ?_
      have c3 := h.1
      have h := h.2
      obtain ⟨u4, eu4⟩ : ∃ q : xM, q = si u 273 (((524 : Int32) * v2) + v3).toNatClampNeg (gi u 273 (((524 : Int32) * v1) + v3).toNatClampNeg) := ⟨_, rfl⟩
      have h := h u4 eu4
      refine x_iast C hw (xoM_273 hM) c3 dX11_copies_32 eu4 (fun H locs hw => ?_)
      obtain ⟨x5, ex5⟩ : ∃ y : Int32, y = v3 + 1 := ⟨_, rfl⟩
      have h := h x5 ex5
      refine lv_iinc (v := x5) (lv' := [(3, .int x5), (0, .ref (xad g 272)), (1, .int v1), (2, .int v2)]) hx hb dX11_copies_33 hl (k := 3) rfl (by rw [ex5]; rfl) (by decide) rfl (fun ls hl => ?_)
      refine lv_goto (tgt := 2) hx hb dX11_copies_36 (by decide) ?_
      exact ih hw (lv_sub hl [1, 2, 3, 0] rfl) h
set_option maxHeartbeats 4000000 in
set_option maxRecDepth 100000 in
theorem s_X11_copies {Qf : xM → Prop} {a1 : Int32} {a2 : Int32} (C : x_C p s m args meth c g RX11 cX11_copies 4 none) (hM : xpM g) {u : xM} {H : Heap} {locs : List Loc} {ls : Array Slot} (hw : x_W g s.heap H locs u) (hl : lv_has ls 4 [(0, .ref (xad g 272)), (1, .int a1), (2, .int a2)]) (h : p_X11_copies a1 a2 u Qf) : W p l e (x_rm 0 0) s m args below meth c H locs 0 0 (MQ below (x_Qv g Qf) args s 0 0 (x_A g)) (F0 m 0 ls []) := by
  unfold p_X11_copies at h
  have hx := C.1
  have hb := C.2.1
  refine lv_iconst (v := 0) hx hb dX11_copies_0 (by decide) ?_
  refine lv_istore_n (lv' := [(3, .int 0), (0, .ref (xad g 272)), (1, .int a1), (2, .int a2)]) hx hb dX11_copies_1 rfl hl (by decide) rfl (fun ls hl => ?_)
  obtain ⟨n9, h⟩ := h
  exact s_X11_copies_L2 C hM n9 hw (lv_sub hl [1, 2, 3, 0] rfl) h
set_option maxHeartbeats 4000000 in
set_option maxRecDepth 100000 in
theorem m_X11_copies (l : Launch) {g : xG} (hD : x_D g) (hM : xpM g) {a1 : Int32} {a2 : Int32} {u : xM} {Qf : xM → Prop} (h : p_X11_copies a1 a2 u Qf) : Met l yX11_copies (Cond.code yX11_copies cX11_copies 4 none :: wsL_law) (x_rm 0 0) (va_Pc [.ref (xad g 272), .int a1, .int a2] (x_B g u)) (x_Qv g Qf) 0 0 (x_A g) := by
  refine Met.ofW (cc := cX11_copies) (maxL := 4) (ret := none) (by decide) rfl ?_
  intro p e s m args below meth c s₁ B hml hv
  obtain ⟨rfl, hB⟩ := hv
  obtain ⟨C, hw⟩ := x_start B hml hD hB
  have hl := lv_entry [.ref (xad g 272), .int a1, .int a2] (n := 4) (Nat.le_of_ble_eq_true rfl)
  rw [lg_entry_eq]
  exact s_X11_copies C hM hw hl h
set_option maxHeartbeats 4000000 in
set_option maxRecDepth 100000 in
theorem s_X11_mark {Qf : Int32 → xM → Prop} (C : x_C p s m args meth c g RX11 cX11_mark 1 (some .int)) (hM : xpM g) {u : xM} {H : Heap} {locs : List Loc} {ls : Array Slot} (hw : x_W g s.heap H locs u) (hl : lv_has ls 1 [(0, .ref (xad g 272))]) (h : p_X11_mark  u Qf) : W p l e (x_rm 1 23) s m args below meth c H locs 0 0 (MQ below (x_Qi g Qf) args s 0 0 (x_A g)) (F0 m 0 ls []) := by
  unfold p_X11_mark at h
  have hx := C.1
  have hb := C.2.1
  refine lv_aload_n hx hb dX11_mark_0 rfl (lv_at hl 0 rfl) ?_
  refine x_geti (ci := 11) C hw 43 (xoM_272 hM) rfl inlX11 (by decide) rfl rfl xw_1969 dX11_mark_1 ?_
  refine lv_iconst (v := 3) hx hb dX11_mark_4 (by decide) ?_
  refine lv_icmp_ne (tgt := 14) hx hb dX11_mark_5 (by decide) (fun c1 => ?_) (fun c1 => ?_)
  · have h := h.1 c1
    refine lv_aload_n hx hb dX11_mark_14 rfl (lv_at hl 0 rfl) ?_
    refine lv_dup hx hb dX11_mark_15 rfl ?_
    refine x_geti (ci := 11) C hw 43 (xoM_272 hM) rfl inlX11 (by decide) rfl rfl xw_1969 dX11_mark_16 ?_
    refine lv_iconst (v := 1) hx hb dX11_mark_19 (by decide) ?_
    refine lv_iadd hx hb dX11_mark_20 ?_
    obtain ⟨u2, eu2⟩ : ∃ q : xM, q = si u 272 43 ((gi u 272 43) + (1 : Int32)) := ⟨_, rfl⟩
    have h := h u2 eu2
    refine x_puti (ci := 11) (ty := .int) C hw 43 (xoM_272 hM) rfl inlX11 tyX11_ok nmX11 (by decide) rfl rfl xw_1969 rfl (by decide +kernel) rfl rfl dX11_mark_21 eu2 (fun H locs hw => ?_)
    refine lv_aload_n hx hb dX11_mark_24 rfl (lv_at hl 0 rfl) ?_
    refine lv_iconst (v := 0) hx hb dX11_mark_25 (by decide) ?_
    refine lv_aload_n hx hb dX11_mark_26 rfl (lv_at hl 0 rfl) ?_
    refine x_geti (ci := 11) C hw 43 (xoM_272 hM) rfl inlX11 (by decide) rfl rfl xw_1969 dX11_mark_27 ?_
    refine x_callv hw (x_runV (ci := 11) C hw (m_X11_copies l C.2.2.2.2.2.2.2.2.1 hM h) (xoM_272 hM) rfl (x_gV xw_1970 xw_1971 xw_1972 xw_5 xw_1973) rfl rfl qX11_copies ⟨(Nat.le_of_ble_eq_true rfl), (Nat.le_of_ble_eq_true rfl)⟩ rfl hl.1 rfl (Nat.le_of_ble_eq_true rfl) dX11_mark_30) (fun u3 H locs hw h => ?_)
    refine lv_aload_n hx hb dX11_mark_33 rfl (lv_at hl 0 rfl) ?_
    refine lv_aload_n hx hb dX11_mark_34 rfl (lv_at hl 0 rfl) ?_
    refine x_geti (ci := 11) C hw 43 (xoM_272 hM) rfl inlX11 (by decide) rfl rfl xw_1969 dX11_mark_35 ?_
    refine x_calli hw (x_runV (ci := 11) C hw (m_X11_gives l C.2.2.2.2.2.2.2.2.1 hM h) (xoM_272 hM) rfl (x_gV xw_731 xw_732 xw_733 xw_5 xw_734) rfl rfl qX11_gives ⟨(Nat.le_of_ble_eq_true rfl), (Nat.le_of_ble_eq_true rfl)⟩ rfl hl.1 rfl (Nat.le_of_ble_eq_true rfl) dX11_mark_38) (fun r5 u4 H locs hw h => ?_)
    exact x_iret C hw h dX11_mark_41
  · have h := h.2 c1
    refine lv_aload_n hx hb dX11_mark_8 rfl (lv_at hl 0 rfl) ?_
    refine lv_iconst (v := 4) hx hb dX11_mark_9 (by decide) ?_
    refine x_calli hw (x_runV (ci := 11) C hw (m_X11_refuse l C.2.2.2.2.2.2.2.2.1 hM h) (xoM_272 hM) rfl (x_gV xw_657 xw_658 xw_659 xw_5 xw_660) rfl rfl qX11_refuse ⟨(Nat.le_of_ble_eq_true rfl), (Nat.le_of_ble_eq_true rfl)⟩ rfl hl.1 rfl (Nat.le_of_ble_eq_true rfl) dX11_mark_10) (fun r7 u6 H locs hw h => ?_)
    exact x_iret C hw h dX11_mark_13
set_option maxHeartbeats 4000000 in
set_option maxRecDepth 100000 in
theorem m_X11_mark (l : Launch) {g : xG} (hD : x_D g) (hM : xpM g) {u : xM} {Qf : Int32 → xM → Prop} (h : p_X11_mark  u Qf) : Met l yX11_mark (Cond.code yX11_mark cX11_mark 1 (some .int) :: wsL_law) (x_rm 1 23) (va_Pc [.ref (xad g 272)] (x_B g u)) (x_Qi g Qf) 0 0 (x_A g) := by
  refine Met.ofW (cc := cX11_mark) (maxL := 1) (ret := (some .int)) (by decide) rfl ?_
  intro p e s m args below meth c s₁ B hml hv
  obtain ⟨rfl, hB⟩ := hv
  obtain ⟨C, hw⟩ := x_start B hml hD hB
  have hl := lv_entry [.ref (xad g 272)] (n := 1) (Nat.le_of_ble_eq_true rfl)
  rw [lg_entry_eq]
  exact s_X11_mark C hM hw hl h
set_option maxHeartbeats 4000000 in
set_option maxRecDepth 100000 in
theorem s_X11_undo {Qf : Int32 → xM → Prop} (C : x_C p s m args meth c g RX11 cX11_undo 1 (some .int)) (hM : xpM g) {u : xM} {H : Heap} {locs : List Loc} {ls : Array Slot} (hw : x_W g s.heap H locs u) (hl : lv_has ls 1 [(0, .ref (xad g 272))]) (h : p_X11_undo  u Qf) : W p l e (x_rm 1 23) s m args below meth c H locs 0 0 (MQ below (x_Qi g Qf) args s 0 0 (x_A g)) (F0 m 0 ls []) := by
  unfold p_X11_undo at h
  have hx := C.1
  have hb := C.2.1
  refine lv_aload_n hx hb dX11_undo_0 rfl (lv_at hl 0 rfl) ?_
  refine x_geti (ci := 11) C hw 43 (xoM_272 hM) rfl inlX11 (by decide) rfl rfl xw_1969 dX11_undo_1 ?_
  refine lv_if_ne (tgt := 14) hx hb dX11_undo_4 (by decide) (fun c1 => ?_) (fun c1 => ?_)
  · have h := h.1 c1
    refine lv_aload_n hx hb dX11_undo_14 rfl (lv_at hl 0 rfl) ?_
    refine lv_aload_n hx hb dX11_undo_15 rfl (lv_at hl 0 rfl) ?_
    refine x_geti (ci := 11) C hw 43 (xoM_272 hM) rfl inlX11 (by decide) rfl rfl xw_1969 dX11_undo_16 ?_
    refine lv_iconst (v := 0) hx hb dX11_undo_19 (by decide) ?_
    refine x_callv hw (x_runV (ci := 11) C hw (m_X11_copies l C.2.2.2.2.2.2.2.2.1 hM h) (xoM_272 hM) rfl (x_gV xw_1970 xw_1971 xw_1972 xw_5 xw_1973) rfl rfl qX11_copies ⟨(Nat.le_of_ble_eq_true rfl), (Nat.le_of_ble_eq_true rfl)⟩ rfl hl.1 rfl (Nat.le_of_ble_eq_true rfl) dX11_undo_20) (fun u2 H locs hw h => ?_)
    refine lv_aload_n hx hb dX11_undo_23 rfl (lv_at hl 0 rfl) ?_
    refine lv_dup hx hb dX11_undo_24 rfl ?_
    refine x_geti (ci := 11) C hw 43 (xoM_272 hM) rfl inlX11 (by decide) rfl rfl xw_1969 dX11_undo_25 ?_
    refine lv_iconst (v := 1) hx hb dX11_undo_28 (by decide) ?_
    refine lv_isub hx hb dX11_undo_29 ?_
    obtain ⟨u3, eu3⟩ : ∃ q : xM, q = si u2 272 43 ((gi u2 272 43) - (1 : Int32)) := ⟨_, rfl⟩
    have h := h u3 eu3
    refine x_puti (ci := 11) (ty := .int) C hw 43 (xoM_272 hM) rfl inlX11 tyX11_ok nmX11 (by decide) rfl rfl xw_1969 rfl (by decide +kernel) rfl rfl dX11_undo_30 eu3 (fun H locs hw => ?_)
    refine lv_aload_n hx hb dX11_undo_33 rfl (lv_at hl 0 rfl) ?_
    refine lv_aload_n hx hb dX11_undo_34 rfl (lv_at hl 0 rfl) ?_
    refine x_geti (ci := 11) C hw 43 (xoM_272 hM) rfl inlX11 (by decide) rfl rfl xw_1969 dX11_undo_35 ?_
    refine x_calli hw (x_runV (ci := 11) C hw (m_X11_gives l C.2.2.2.2.2.2.2.2.1 hM h) (xoM_272 hM) rfl (x_gV xw_731 xw_732 xw_733 xw_5 xw_734) rfl rfl qX11_gives ⟨(Nat.le_of_ble_eq_true rfl), (Nat.le_of_ble_eq_true rfl)⟩ rfl hl.1 rfl (Nat.le_of_ble_eq_true rfl) dX11_undo_38) (fun r5 u4 H locs hw h => ?_)
    exact x_iret C hw h dX11_undo_41
  · have h := h.2 c1
    refine lv_aload_n hx hb dX11_undo_7 rfl (lv_at hl 0 rfl) ?_
    refine lv_bipush (v := 6) hx hb dX11_undo_8 (by decide) ?_
    refine x_calli hw (x_runV (ci := 11) C hw (m_X11_refuse l C.2.2.2.2.2.2.2.2.1 hM h) (xoM_272 hM) rfl (x_gV xw_657 xw_658 xw_659 xw_5 xw_660) rfl rfl qX11_refuse ⟨(Nat.le_of_ble_eq_true rfl), (Nat.le_of_ble_eq_true rfl)⟩ rfl hl.1 rfl (Nat.le_of_ble_eq_true rfl) dX11_undo_10) (fun r7 u6 H locs hw h => ?_)
    exact x_iret C hw h dX11_undo_13
set_option maxHeartbeats 4000000 in
set_option maxRecDepth 100000 in
theorem m_X11_undo (l : Launch) {g : xG} (hD : x_D g) (hM : xpM g) {u : xM} {Qf : Int32 → xM → Prop} (h : p_X11_undo  u Qf) : Met l yX11_undo (Cond.code yX11_undo cX11_undo 1 (some .int) :: wsL_law) (x_rm 1 23) (va_Pc [.ref (xad g 272)] (x_B g u)) (x_Qi g Qf) 0 0 (x_A g) := by
  refine Met.ofW (cc := cX11_undo) (maxL := 1) (ret := (some .int)) (by decide) rfl ?_
  intro p e s m args below meth c s₁ B hml hv
  obtain ⟨rfl, hB⟩ := hv
  obtain ⟨C, hw⟩ := x_start B hml hD hB
  have hl := lv_entry [.ref (xad g 272)] (n := 1) (Nat.le_of_ble_eq_true rfl)
  rw [lg_entry_eq]
  exact s_X11_undo C hM hw hl h
set_option maxHeartbeats 4000000 in
set_option maxRecDepth 100000 in
theorem s_X8_reserve_L8 {o : Nat} {s1 : Nat} {Qf : Int32 → xM → Prop} (C : x_C p s m args meth c g RX8 cX8_reserve 8 (some .int)) (ho : xpT g o) (hs1 : s1 < 3) : ∀ (nn : Nat) {v3 : Int32} {v4 : Int64} {v6 : Int32} {u : xM} {H : Heap} {locs : List Loc} {ls : Array Slot} (hw : x_W g s.heap H locs u) (hl : lv_has ls 8 [(0, .ref (xad g o)), (1, .ref (xsK g s1)), (3, .int v3), (4, .long v4), (6, .int v6)]) (h : p_X8_reserve_L8 o s1 Qf nn v3 v4 v6 u), W p l e (x_rm 5 181) s m args below meth c H locs 0 0 (MQ below (x_Qi g Qf) args s 0 0 (x_A g)) (F0 m 8 ls []) := by
  intro nn
  induction nn with
  | zero => intro v3 v4 v6 u H locs ls hw hl h; exact h.elim
  | succ nn ih =>
    intro v3 v4 v6 u H locs ls hw hl h
    unfold p_X8_reserve_L8 at h
    have hx := C.1
    have hb := C.2.1
    refine lv_iload hx hb dX8_reserve_8 (lv_at hl 4 rfl) ?_
    refine lv_aload_n hx hb dX8_reserve_10 rfl (lv_at hl 1 rfl) ?_
    refine x_strlen C hw hs1 hl.1 xw_144 (Nat.le_of_ble_eq_true rfl) (Nat.le_of_ble_eq_true rfl) (Nat.le_of_ble_eq_true rfl) dX8_reserve_11 (fun H locs hw => ?_)
    refine lv_icmp_ge (tgt := 70) hx hb dX8_reserve_14 (by decide) (fun c1 => ?_) (fun c1 => ?_)
    · have h := h.1 c1
      refine lv_iload_n hx hb dX8_reserve_70 rfl (lv_at hl 2 rfl) ?_
      exact x_iret C hw h dX8_reserve_71
    · have h := h.2 c1
      refine lv_iload_n hx hb dX8_reserve_17 rfl (lv_at hl 2 rfl) ?_
      refine lv_bipush (v := 28) hx hb dX8_reserve_18 (by decide) ?_
      refine lv_icmp_ge (tgt := 70) hx hb dX8_reserve_20 (by decide) (fun c2 => ?_) (fun c2 => ?_)
      · have h := h.1 c2
        refine lv_iload_n hx hb dX8_reserve_70 rfl (lv_at hl 2 rfl) ?_
        exact x_iret C hw h dX8_reserve_71
      · have h := h.2 c2
        refine lv_aload_n hx hb dX8_reserve_23 rfl (lv_at hl 1 rfl) ?_
        refine lv_iload hx hb dX8_reserve_24 (lv_at hl 4 rfl) ?_
        have c3 := h.1
        have h := h.2
        refine x_strchar C hw hs1 c3 hl.1 xw_156 (Nat.le_of_ble_eq_true rfl) (Nat.le_of_ble_eq_true rfl) (Nat.le_of_ble_eq_true rfl) dX8_reserve_26 (fun H locs hw => ?_)
        refine lv_topi (fun x4 ex4 => ?_)
        have h := h x4 ex4
        refine lv_istore (lv' := [(7, .int x4), (0, .ref (xad g o)), (1, .ref (xsK g s1)), (3, .int v3), (4, .long v4), (6, .int v6)]) hx hb dX8_reserve_29 hl (by decide) rfl (fun ls hl => ?_)
        refine lv_iload hx hb dX8_reserve_31 (lv_at hl 0 rfl) ?_
        refine lv_bipush (v := 32) hx hb dX8_reserve_33 (by decide) ?_
        refine lv_icmp_ne (tgt := 55) hx hb dX8_reserve_35 (by decide) (fun c5 => ?_) (fun c5 => ?_)
        · have h := h.1 c5
          refine lv_lload hx hb dX8_reserve_55 (lv_at hl 4 rfl) ?_
          refine lv_iload hx hb dX8_reserve_57 (lv_at hl 0 rfl) ?_
          refine x_calll hw (x_runS C hw (m_X8_withLetter l C.2.2.2.2.2.2.2.2.1  h) (x_gS xw_193 xw_194 xw_122 xw_195) rfl rfl qX8_withLetter ⟨(Nat.le_of_ble_eq_true rfl), (Nat.le_of_ble_eq_true rfl)⟩ rfl hl.1 rfl (Nat.le_of_ble_eq_true rfl) dX8_reserve_59) (fun r7 u6 H locs hw h => ?_)
          refine lv_lstore (lv' := [(4, .long r7), (7, .int x4), (0, .ref (xad g o)), (1, .ref (xsK g s1)), (3, .int v3), (6, .int v6)]) hx hb dX8_reserve_62 hl (by decide) rfl (fun ls hl => ?_)
          obtain ⟨x8, ex8⟩ : ∃ y : Int32, y = v6 + 1 := ⟨_, rfl⟩
          have h := h x8 ex8
          refine lv_iinc (v := x8) (lv' := [(6, .int x8), (4, .long r7), (7, .int x4), (0, .ref (xad g o)), (1, .ref (xsK g s1)), (3, .int v3)]) hx hb dX8_reserve_64 hl (k := 5) rfl (by rw [ex8]; rfl) (by decide) rfl (fun ls hl => ?_)
          refine lv_goto (tgt := 8) hx hb dX8_reserve_67 (by decide) ?_
          exact ih hw (lv_sub hl [3, 4, 5, 1, 0] rfl) h
        · have h := h.2 c5
          refine lv_aload_n hx hb dX8_reserve_38 rfl (lv_at hl 1 rfl) ?_
          refine x_getr (ci := 8) C hw 0 (xoT_0 ho) rfl inlX8 (by decide) rfl rfl (xrT_0_0 ho) xw_130 dX8_reserve_39 ?_
          refine lv_iload_n hx hb dX8_reserve_42 rfl (lv_at hl 3 rfl) ?_
          refine lv_lload hx hb dX8_reserve_43 (lv_at hl 4 rfl) ?_
          have c9 := h.1
          have h := h.2
          obtain ⟨u10, eu10⟩ : ∃ q : xM, q = sl u (o + 1) v3.toNatClampNeg v4 := ⟨_, rfl⟩
          have h := h u10 eu10
          refine x_last C hw (xoT_1 ho) c9 dX8_reserve_45 eu10 (fun H locs hw => ?_)
          obtain ⟨x11, ex11⟩ : ∃ y : Int32, y = v3 + 1 := ⟨_, rfl⟩
          have h := h x11 ex11
          refine lv_iinc (v := x11) (lv' := [(3, .int x11), (7, .int x4), (0, .ref (xad g o)), (1, .ref (xsK g s1)), (4, .long v4), (6, .int v6)]) hx hb dX8_reserve_46 hl (k := 3) rfl (by rw [ex11]; rfl) (by decide) rfl (fun ls hl => ?_)
          refine lv_lconst (v := 0) hx hb dX8_reserve_49 (by decide) ?_
          refine lv_lstore (lv' := [(4, .long 0), (3, .int x11), (7, .int x4), (0, .ref (xad g o)), (1, .ref (xsK g s1)), (6, .int v6)]) hx hb dX8_reserve_50 hl (by decide) rfl (fun ls hl => ?_)
          refine lv_goto (tgt := 64) hx hb dX8_reserve_52 (by decide) ?_
          obtain ⟨x12, ex12⟩ : ∃ y : Int32, y = v6 + 1 := ⟨_, rfl⟩
          have h := h x12 ex12
          refine lv_iinc (v := x12) (lv' := [(6, .int x12), (4, .long 0), (3, .int x11), (7, .int x4), (0, .ref (xad g o)), (1, .ref (xsK g s1))]) hx hb dX8_reserve_64 hl (k := 5) rfl (by rw [ex12]; rfl) (by decide) rfl (fun ls hl => ?_)
          refine lv_goto (tgt := 8) hx hb dX8_reserve_67 (by decide) ?_
          exact ih hw (lv_sub hl [4, 5, 2, 1, 0] rfl) h
set_option maxHeartbeats 4000000 in
set_option maxRecDepth 100000 in
theorem s_X8_reserve {o : Nat} {s1 : Nat} {Qf : Int32 → xM → Prop} {a2 : Int32} (C : x_C p s m args meth c g RX8 cX8_reserve 8 (some .int)) (ho : xpT g o) (hs1 : s1 < 3) {u : xM} {H : Heap} {locs : List Loc} {ls : Array Slot} (hw : x_W g s.heap H locs u) (hl : lv_has ls 8 [(0, .ref (xad g o)), (1, .ref (xsK g s1)), (2, .int a2)]) (h : p_X8_reserve o s1 a2 u Qf) : W p l e (x_rm 5 181) s m args below meth c H locs 0 0 (MQ below (x_Qi g Qf) args s 0 0 (x_A g)) (F0 m 0 ls []) := by
  unfold p_X8_reserve at h
  have hx := C.1
  have hb := C.2.1
  refine lv_iload_n hx hb dX8_reserve_0 rfl (lv_at hl 2 rfl) ?_
  refine lv_istore_n (lv' := [(3, .int a2), (0, .ref (xad g o)), (1, .ref (xsK g s1)), (2, .int a2)]) hx hb dX8_reserve_1 rfl hl (by decide) rfl (fun ls hl => ?_)
  refine lv_lconst (v := 0) hx hb dX8_reserve_2 (by decide) ?_
  refine lv_lstore (lv' := [(4, .long 0), (3, .int a2), (0, .ref (xad g o)), (1, .ref (xsK g s1)), (2, .int a2)]) hx hb dX8_reserve_3 hl (by decide) rfl (fun ls hl => ?_)
  refine lv_iconst (v := 0) hx hb dX8_reserve_5 (by decide) ?_
  refine lv_istore (lv' := [(6, .int 0), (4, .long 0), (3, .int a2), (0, .ref (xad g o)), (1, .ref (xsK g s1)), (2, .int a2)]) hx hb dX8_reserve_6 hl (by decide) rfl (fun ls hl => ?_)
  obtain ⟨n9, h⟩ := h
  exact s_X8_reserve_L8 C ho hs1 n9 hw (lv_sub hl [3, 4, 2, 1, 0] rfl) h
set_option maxHeartbeats 4000000 in
set_option maxRecDepth 100000 in
theorem m_X8_reserve (l : Launch) {g : xG} (hD : x_D g) {o : Nat} {s1 : Nat} (ho : xpT g o) (hs1 : s1 < 3) {a2 : Int32} {u : xM} {Qf : Int32 → xM → Prop} (h : p_X8_reserve o s1 a2 u Qf) : Met l yX8_reserve (Cond.code yX8_reserve cX8_reserve 8 (some .int) :: wsL_law) (x_rm 5 181) (va_Pc [.ref (xad g o), .ref (xsK g s1), .int a2] (x_B g u)) (x_Qi g Qf) 0 0 (x_A g) := by
  refine Met.ofW (cc := cX8_reserve) (maxL := 8) (ret := (some .int)) (by decide) rfl ?_
  intro p e s m args below meth c s₁ B hml hv
  obtain ⟨rfl, hB⟩ := hv
  obtain ⟨C, hw⟩ := x_start B hml hD hB
  have hl := lv_entry [.ref (xad g o), .ref (xsK g s1), .int a2] (n := 8) (Nat.le_of_ble_eq_true rfl)
  rw [lg_entry_eq]
  exact s_X8_reserve C ho hs1 hw hl h
end
