section
variable {p : Program} {l : Launch} {e : Env} {s : State} {m : MethodId} {args : Array Value} {below : List Frame} {meth : Method} {c : Code} {g : xG}
set_option maxHeartbeats 4000000 in
set_option maxRecDepth 100000 in
theorem s_X11_pumpAt_L27 {Qf : Int32 → xM → Prop} (C : x_C p s m args meth c g RX11 cX11_pumpAt 7 (some .int)) (hM : xpM g) : ∀ (nn : Nat) {v1 : Int32} {v2 : Int32} {v3 : Int32} {v4 : Int32} {u : xM} {H : Heap} {locs : List Loc} {ls : Array Slot} (hw : x_W g s.heap H locs u) (hl : lv_has ls 7 [(0, .ref (xad g 272)), (1, .int v1), (2, .int v2), (3, .int v3), (4, .int v4)]) (h : p_X11_pumpAt_L27 Qf nn v1 v2 v3 v4 u), W p l e (x_rm 10 222) s m args below meth c H locs 0 0 (MQ below (x_Qi g Qf) args s 0 0 (x_A g)) (F0 m 27 ls []) := by
  intro nn
  induction nn with
  | zero => intro v1 v2 v3 v4 u H locs ls hw hl h; exact h.elim
  | succ nn ih =>
    intro v1 v2 v3 v4 u H locs ls hw hl h
    unfold p_X11_pumpAt_L27 at h
    have hx := C.1
    have hb := C.2.1
    refine lv_iload hx hb dX11_pumpAt_27 (lv_at hl 4 rfl) ?_
    refine lv_aload_n hx hb dX11_pumpAt_29 rfl (lv_at hl 0 rfl) ?_
    refine x_getr (ci := 11) C hw 0 (xoM_272 hM) rfl inlX11 (by decide) rfl rfl xrM_272_0 xw_219 dX11_pumpAt_30 ?_
    refine lv_iconst (v := 0) hx hb dX11_pumpAt_33 (by decide) ?_
    have c1 := h.1
    have h := h.2
    refine x_iald C hw (xoM_273 hM) c1 dX11_pumpAt_34 ?_
    refine lv_icmp_ge (tgt := 112) hx hb dX11_pumpAt_35 (by decide) (fun c2 => ?_) (fun c2 => ?_)
    · have h := h.1 c2
      refine lv_aload_n hx hb dX11_pumpAt_112 rfl (lv_at hl 0 rfl) ?_
      refine lv_iload_n hx hb dX11_pumpAt_113 rfl (lv_at hl 2 rfl) ?_
      refine x_calli hw (x_runV (ci := 11) C hw (m_X11_orNone l C.2.2.2.2.2.2.2.2.1 hM h) (xoM_272 hM) rfl (x_gV xw_1094 xw_1095 xw_1096 xw_5 xw_1097) rfl rfl qX11_orNone ⟨(Nat.le_of_ble_eq_true rfl), (Nat.le_of_ble_eq_true rfl)⟩ rfl hl.1 rfl (Nat.le_of_ble_eq_true rfl) dX11_pumpAt_114) (fun r4 u3 H locs hw h => ?_)
      exact x_iret C hw h dX11_pumpAt_117
    · have h := h.2 c2
      refine lv_aload_n hx hb dX11_pumpAt_38 rfl (lv_at hl 0 rfl) ?_
      refine lv_iload hx hb dX11_pumpAt_39 (lv_at hl 4 rfl) ?_
      refine lv_iconst (v := 3) hx hb dX11_pumpAt_41 (by decide) ?_
      refine x_calli hw (x_runV (ci := 11) C hw (m_X11_roomOf l C.2.2.2.2.2.2.2.2.1 hM h) (xoM_272 hM) rfl (x_gV xw_892 xw_893 xw_894 xw_5 xw_895) rfl rfl qX11_roomOf ⟨(Nat.le_of_ble_eq_true rfl), (Nat.le_of_ble_eq_true rfl)⟩ rfl hl.1 rfl (Nat.le_of_ble_eq_true rfl) dX11_pumpAt_42) (fun r6 u5 H locs hw h => ?_)
      refine lv_istore (lv' := [(5, .int r6), (0, .ref (xad g 272)), (1, .int v1), (2, .int v2), (3, .int v3), (4, .int v4)]) hx hb dX11_pumpAt_45 hl (by decide) rfl (fun ls hl => ?_)
      refine lv_aload_n hx hb dX11_pumpAt_47 rfl (lv_at hl 1 rfl) ?_
      refine x_getr (ci := 11) C hw 0 (xoM_272 hM) rfl inlX11 (by decide) rfl rfl xrM_272_0 xw_219 dX11_pumpAt_48 ?_
      refine lv_iload hx hb dX11_pumpAt_51 (lv_at hl 5 rfl) ?_
      refine x_calli hw (x_runS C hw (m_X11_roomRow l C.2.2.2.2.2.2.2.2.1  h) (x_gS xw_896 xw_897 xw_5 xw_898) rfl rfl qX11_roomRow ⟨(Nat.le_of_ble_eq_true rfl), (Nat.le_of_ble_eq_true rfl)⟩ rfl hl.1 rfl (Nat.le_of_ble_eq_true rfl) dX11_pumpAt_53) (fun r8 u7 H locs hw h => ?_)
      refine lv_iconst (v := 3) hx hb dX11_pumpAt_56 (by decide) ?_
      refine lv_iadd hx hb dX11_pumpAt_57 ?_
      refine lv_bipush (v := 99) hx hb dX11_pumpAt_58 (by decide) ?_
      refine lv_iload hx hb dX11_pumpAt_60 (lv_at hl 0 rfl) ?_
      refine lv_iload_n hx hb dX11_pumpAt_62 rfl (lv_at hl 2 rfl) ?_
      refine lv_iadd hx hb dX11_pumpAt_63 ?_
      refine x_mmin C hl.1 xw_646 (Nat.le_of_ble_eq_true rfl) (Nat.le_of_ble_eq_true rfl) dX11_pumpAt_64 ?_
      refine lv_topi (fun x9 ex9 => ?_)
      have h := h x9 ex9
      have c10 := h.1
      have h := h.2
      obtain ⟨u11, eu11⟩ : ∃ q : xM, q = si u7 273 (r8 + (3 : Int32)).toNatClampNeg x9 := ⟨_, rfl⟩
      have h := h u11 eu11
      refine x_iast C hw (xoM_273 hM) c10 dX11_pumpAt_67 eu11 (fun H locs hw => ?_)
      refine lv_aload_n hx hb dX11_pumpAt_68 rfl (lv_at hl 1 rfl) ?_
      refine lv_iconst (v := -1) hx hb dX11_pumpAt_69 (by decide) ?_
      refine lv_bipush (v := 12) hx hb dX11_pumpAt_70 (by decide) ?_
      refine x_calli hw (x_runV (ci := 11) C hw (m_X11_waterIn l C.2.2.2.2.2.2.2.2.1 hM h) (xoM_272 hM) rfl (x_gV xw_1338 xw_1339 xw_1340 xw_5 xw_1341) rfl rfl qX11_waterIn ⟨(Nat.le_of_ble_eq_true rfl), (Nat.le_of_ble_eq_true rfl)⟩ rfl hl.1 rfl (Nat.le_of_ble_eq_true rfl) dX11_pumpAt_72) (fun r13 u12 H locs hw h => ?_)
      refine lv_istore (lv' := [(6, .int r13), (5, .int r6), (0, .ref (xad g 272)), (1, .int v1), (2, .int v2), (3, .int v3), (4, .int v4)]) hx hb dX11_pumpAt_75 hl (by decide) rfl (fun ls hl => ?_)
      refine lv_aload_n hx hb dX11_pumpAt_77 rfl (lv_at hl 2 rfl) ?_
      refine x_getr (ci := 11) C hw 0 (xoM_272 hM) rfl inlX11 (by decide) rfl rfl xrM_272_0 xw_219 dX11_pumpAt_78 ?_
      refine lv_iload hx hb dX11_pumpAt_81 (lv_at hl 6 rfl) ?_
      refine x_calli hw (x_runS C hw (m_X11_roomRow l C.2.2.2.2.2.2.2.2.1  h) (x_gS xw_896 xw_897 xw_5 xw_898) rfl rfl qX11_roomRow ⟨(Nat.le_of_ble_eq_true rfl), (Nat.le_of_ble_eq_true rfl)⟩ rfl hl.1 rfl (Nat.le_of_ble_eq_true rfl) dX11_pumpAt_83) (fun r15 u14 H locs hw h => ?_)
      refine lv_iconst (v := 3) hx hb dX11_pumpAt_86 (by decide) ?_
      refine lv_iadd hx hb dX11_pumpAt_87 ?_
      refine lv_iload hx hb dX11_pumpAt_88 (lv_at hl 1 rfl) ?_
      have c16 := h.1
      have h := h.2
      obtain ⟨u17, eu17⟩ : ∃ q : xM, q = si u14 273 (r15 + (3 : Int32)).toNatClampNeg r6 := ⟨_, rfl⟩
      have h := h u17 eu17
      refine x_iast C hw (xoM_273 hM) c16 dX11_pumpAt_90 eu17 (fun H locs hw => ?_)
      refine lv_iload hx hb dX11_pumpAt_91 (lv_at hl 0 rfl) ?_
      refine lv_iload_n hx hb dX11_pumpAt_93 rfl (lv_at hl 5 rfl) ?_
      refine lv_icmp_lt (tgt := 100) hx hb dX11_pumpAt_94 (by decide) (fun c18 => ?_) (fun c18 => ?_)
      · have h := h.1 c18
        refine lv_iload hx hb dX11_pumpAt_100 (lv_at hl 0 rfl) ?_
        refine lv_istore_n (lv' := [(3, .int r13), (6, .int r13), (5, .int r6), (0, .ref (xad g 272)), (1, .int v1), (2, .int v2), (4, .int v4)]) hx hb dX11_pumpAt_102 rfl hl (by decide) rfl (fun ls hl => ?_)
        refine lv_iload hx hb dX11_pumpAt_103 (lv_at hl 6 rfl) ?_
        refine lv_istore_n (lv' := [(2, .int v4), (3, .int r13), (6, .int r13), (5, .int r6), (0, .ref (xad g 272)), (1, .int v1), (4, .int v4)]) hx hb dX11_pumpAt_105 rfl hl (by decide) rfl (fun ls hl => ?_)
        obtain ⟨x19, ex19⟩ : ∃ y : Int32, y = v4 + 1 := ⟨_, rfl⟩
        have h := h x19 ex19
        refine lv_iinc (v := x19) (lv' := [(4, .int x19), (2, .int v4), (3, .int r13), (6, .int r13), (5, .int r6), (0, .ref (xad g 272)), (1, .int v1)]) hx hb dX11_pumpAt_106 hl (k := 6) rfl (by rw [ex19]; rfl) (by decide) rfl (fun ls hl => ?_)
        refine lv_goto (tgt := 27) hx hb dX11_pumpAt_109 (by decide) ?_
        exact ih hw (lv_sub hl [5, 6, 1, 2, 0] rfl) h
      · have h := h.2 c18
        refine lv_goto (tgt := 106) hx hb dX11_pumpAt_97 (by decide) ?_
        obtain ⟨x20, ex20⟩ : ∃ y : Int32, y = v4 + 1 := ⟨_, rfl⟩
        have h := h x20 ex20
        refine lv_iinc (v := x20) (lv' := [(4, .int x20), (6, .int r13), (5, .int r6), (0, .ref (xad g 272)), (1, .int v1), (2, .int v2), (3, .int v3)]) hx hb dX11_pumpAt_106 hl (k := 6) rfl (by rw [ex20]; rfl) (by decide) rfl (fun ls hl => ?_)
        refine lv_goto (tgt := 27) hx hb dX11_pumpAt_109 (by decide) ?_
        exact ih hw (lv_sub hl [3, 4, 5, 6, 0] rfl) h
set_option maxHeartbeats 4000000 in
set_option maxRecDepth 100000 in
theorem s_X11_pumpAt {Qf : Int32 → xM → Prop} {a1 : Int32} (C : x_C p s m args meth c g RX11 cX11_pumpAt 7 (some .int)) (hM : xpM g) {u : xM} {H : Heap} {locs : List Loc} {ls : Array Slot} (hw : x_W g s.heap H locs u) (hl : lv_has ls 7 [(0, .ref (xad g 272)), (1, .int a1)]) (h : p_X11_pumpAt a1 u Qf) : W p l e (x_rm 10 222) s m args below meth c H locs 0 0 (MQ below (x_Qi g Qf) args s 0 0 (x_A g)) (F0 m 0 ls []) := by
  unfold p_X11_pumpAt at h
  have hx := C.1
  have hb := C.2.1
  refine lv_iload_n hx hb dX11_pumpAt_0 rfl (lv_at hl 1 rfl) ?_
  refine lv_i2l hx hb dX11_pumpAt_1 rfl ?_
  refine lv_lconst (v := 1) hx hb dX11_pumpAt_2 (by decide) ?_
  refine lv_ldc2 (v := 99) hx hb C.2.2.2.1 (C.2.2.2.2.1 _ xw_1196) dX11_pumpAt_3 ?_
  refine x_callz hw (x_runS C hw (m_X11_isFrom l C.2.2.2.2.2.2.2.2.1  h) (x_gS xw_1197 xw_1198 xw_5 xw_1199) rfl rfl qX11_isFrom ⟨(Nat.le_of_ble_eq_true rfl), (Nat.le_of_ble_eq_true rfl)⟩ rfl hl.1 rfl (Nat.le_of_ble_eq_true rfl) dX11_pumpAt_6) (fun r2 u1 H locs hw h => ?_)
  refine lv_if_ne (tgt := 18) hx hb dX11_pumpAt_9 (by decide) (fun c3 => ?_) (fun c3 => ?_)
  · have h := h.1 (xb_t c3)
    refine lv_iconst (v := -1) hx hb dX11_pumpAt_18 (by decide) ?_
    refine lv_istore_n (lv' := [(2, .int (-1)), (0, .ref (xad g 272)), (1, .int a1)]) hx hb dX11_pumpAt_19 rfl hl (by decide) rfl (fun ls hl => ?_)
    refine lv_ldcw (v := 1000000) hx hb C.2.2.2.1 (C.2.2.2.2.1 _ xw_1465) dX11_pumpAt_20 ?_
    refine lv_istore_n (lv' := [(3, .int 1000000), (2, .int (-1)), (0, .ref (xad g 272)), (1, .int a1)]) hx hb dX11_pumpAt_23 rfl hl (by decide) rfl (fun ls hl => ?_)
    refine lv_iconst (v := 0) hx hb dX11_pumpAt_24 (by decide) ?_
    refine lv_istore (lv' := [(4, .int 0), (3, .int 1000000), (2, .int (-1)), (0, .ref (xad g 272)), (1, .int a1)]) hx hb dX11_pumpAt_25 hl (by decide) rfl (fun ls hl => ?_)
    obtain ⟨n9, h⟩ := h
    exact s_X11_pumpAt_L27 C hM n9 hw (lv_sub hl [3, 4, 2, 1, 0] rfl) h
  · have h := h.2 (xb_f c3)
    refine lv_aload_n hx hb dX11_pumpAt_12 rfl (lv_at hl 0 rfl) ?_
    refine lv_iconst (v := 1) hx hb dX11_pumpAt_13 (by decide) ?_
    refine x_calli hw (x_runV (ci := 11) C hw (m_X11_refuse l C.2.2.2.2.2.2.2.2.1 hM h) (xoM_272 hM) rfl (x_gV xw_657 xw_658 xw_659 xw_5 xw_660) rfl rfl qX11_refuse ⟨(Nat.le_of_ble_eq_true rfl), (Nat.le_of_ble_eq_true rfl)⟩ rfl hl.1 rfl (Nat.le_of_ble_eq_true rfl) dX11_pumpAt_14) (fun r5 u4 H locs hw h => ?_)
    exact x_iret C hw h dX11_pumpAt_17
set_option maxHeartbeats 4000000 in
set_option maxRecDepth 100000 in
theorem m_X11_pumpAt (l : Launch) {g : xG} (hD : x_D g) (hM : xpM g) {a1 : Int32} {u : xM} {Qf : Int32 → xM → Prop} (h : p_X11_pumpAt a1 u Qf) : Met l yX11_pumpAt (Cond.code yX11_pumpAt cX11_pumpAt 7 (some .int) :: wsL_law) (x_rm 10 222) (va_Pc [.ref (xad g 272), .int a1] (x_B g u)) (x_Qi g Qf) 0 0 (x_A g) := by
  refine Met.ofW (cc := cX11_pumpAt) (maxL := 7) (ret := (some .int)) (by decide) rfl ?_
  intro p e s m args below meth c s₁ B hml hv
  obtain ⟨rfl, hB⟩ := hv
  obtain ⟨C, hw⟩ := x_start B hml hD hB
  have hl := lv_entry [.ref (xad g 272), .int a1] (n := 7) (Nat.le_of_ble_eq_true rfl)
  rw [lg_entry_eq]
  exact s_X11_pumpAt C hM hw hl h
set_option maxHeartbeats 4000000 in
set_option maxRecDepth 100000 in
theorem s_X11_waterWalled {Qf : Int32 → xM → Prop} {a1 : Int32} {a2 : Int32} (C : x_C p s m args meth c g RX11 cX11_waterWalled 6 (some .int)) (hM : xpM g) {u : xM} {H : Heap} {locs : List Loc} {ls : Array Slot} (hw : x_W g s.heap H locs u) (hl : lv_has ls 6 [(0, .ref (xad g 272)), (1, .int a1), (2, .int a2)]) (h : p_X11_waterWalled a1 a2 u Qf) : W p l e (x_rm 10 222) s m args below meth c H locs 0 0 (MQ below (x_Qi g Qf) args s 0 0 (x_A g)) (F0 m 0 ls []) := by
  unfold p_X11_waterWalled at h
  have hx := C.1
  have hb := C.2.1
  refine lv_aload_n hx hb dX11_waterWalled_0 rfl (lv_at hl 0 rfl) ?_
  refine lv_iload_n hx hb dX11_waterWalled_1 rfl (lv_at hl 1 rfl) ?_
  refine lv_bipush (v := 7) hx hb dX11_waterWalled_2 (by decide) ?_
  refine x_calli hw (x_runV (ci := 11) C hw (m_X11_doorOf l C.2.2.2.2.2.2.2.2.1 hM h) (xoM_272 hM) rfl (x_gV xw_911 xw_912 xw_913 xw_5 xw_914) rfl rfl qX11_doorOf ⟨(Nat.le_of_ble_eq_true rfl), (Nat.le_of_ble_eq_true rfl)⟩ rfl hl.1 rfl (Nat.le_of_ble_eq_true rfl) dX11_waterWalled_4) (fun r2 u1 H locs hw h => ?_)
  refine lv_istore_n (lv' := [(3, .int r2), (0, .ref (xad g 272)), (1, .int a1), (2, .int a2)]) hx hb dX11_waterWalled_7 rfl hl (by decide) rfl (fun ls hl => ?_)
  refine lv_aload_n hx hb dX11_waterWalled_8 rfl (lv_at hl 1 rfl) ?_
  refine lv_iload_n hx hb dX11_waterWalled_9 rfl (lv_at hl 3 rfl) ?_
  refine lv_bipush (v := 7) hx hb dX11_waterWalled_10 (by decide) ?_
  refine x_calli hw (x_runV (ci := 11) C hw (m_X11_doorOf l C.2.2.2.2.2.2.2.2.1 hM h) (xoM_272 hM) rfl (x_gV xw_911 xw_912 xw_913 xw_5 xw_914) rfl rfl qX11_doorOf ⟨(Nat.le_of_ble_eq_true rfl), (Nat.le_of_ble_eq_true rfl)⟩ rfl hl.1 rfl (Nat.le_of_ble_eq_true rfl) dX11_waterWalled_12) (fun r4 u3 H locs hw h => ?_)
  refine lv_istore (lv' := [(4, .int r4), (3, .int r2), (0, .ref (xad g 272)), (1, .int a1), (2, .int a2)]) hx hb dX11_waterWalled_15 hl (by decide) rfl (fun ls hl => ?_)
  refine lv_aload_n hx hb dX11_waterWalled_17 rfl (lv_at hl 2 rfl) ?_
  refine x_getr (ci := 11) C hw 0 (xoM_272 hM) rfl inlX11 (by decide) rfl rfl xrM_272_0 xw_219 dX11_waterWalled_18 ?_
  refine lv_iload_n hx hb dX11_waterWalled_21 rfl (lv_at hl 3 rfl) ?_
  refine x_calli hw (x_runS C hw (m_X11_doorRow l C.2.2.2.2.2.2.2.2.1  h) (x_gS xw_915 xw_916 xw_5 xw_917) rfl rfl qX11_doorRow ⟨(Nat.le_of_ble_eq_true rfl), (Nat.le_of_ble_eq_true rfl)⟩ rfl hl.1 rfl (Nat.le_of_ble_eq_true rfl) dX11_waterWalled_22) (fun r6 u5 H locs hw h => ?_)
  refine lv_bipush (v := 7) hx hb dX11_waterWalled_25 (by decide) ?_
  refine lv_iadd hx hb dX11_waterWalled_27 ?_
  refine lv_iconst (v := 1) hx hb dX11_waterWalled_28 (by decide) ?_
  have c7 := h.1
  have h := h.2
  obtain ⟨u8, eu8⟩ : ∃ q : xM, q = si u5 273 (r6 + (7 : Int32)).toNatClampNeg (1 : Int32) := ⟨_, rfl⟩
  have h := h u8 eu8
  refine x_iast C hw (xoM_273 hM) c7 dX11_waterWalled_29 eu8 (fun H locs hw => ?_)
  refine lv_aload_n hx hb dX11_waterWalled_30 rfl (lv_at hl 2 rfl) ?_
  refine x_getr (ci := 11) C hw 0 (xoM_272 hM) rfl inlX11 (by decide) rfl rfl xrM_272_0 xw_219 dX11_waterWalled_31 ?_
  refine lv_iload_n hx hb dX11_waterWalled_34 rfl (lv_at hl 4 rfl) ?_
  refine x_calli hw (x_runS C hw (m_X11_doorRow l C.2.2.2.2.2.2.2.2.1  h) (x_gS xw_915 xw_916 xw_5 xw_917) rfl rfl qX11_doorRow ⟨(Nat.le_of_ble_eq_true rfl), (Nat.le_of_ble_eq_true rfl)⟩ rfl hl.1 rfl (Nat.le_of_ble_eq_true rfl) dX11_waterWalled_35) (fun r10 u9 H locs hw h => ?_)
  refine lv_bipush (v := 7) hx hb dX11_waterWalled_38 (by decide) ?_
  refine lv_iadd hx hb dX11_waterWalled_40 ?_
  refine lv_iconst (v := 1) hx hb dX11_waterWalled_41 (by decide) ?_
  have c11 := h.1
  have h := h.2
  obtain ⟨u12, eu12⟩ : ∃ q : xM, q = si u9 273 (r10 + (7 : Int32)).toNatClampNeg (1 : Int32) := ⟨_, rfl⟩
  have h := h u12 eu12
  refine x_iast C hw (xoM_273 hM) c11 dX11_waterWalled_42 eu12 (fun H locs hw => ?_)
  refine lv_aload_n hx hb dX11_waterWalled_43 rfl (lv_at hl 2 rfl) ?_
  refine lv_iconst (v := -1) hx hb dX11_waterWalled_44 (by decide) ?_
  refine lv_bipush (v := 12) hx hb dX11_waterWalled_45 (by decide) ?_
  refine x_calli hw (x_runV (ci := 11) C hw (m_X11_waterIn l C.2.2.2.2.2.2.2.2.1 hM h) (xoM_272 hM) rfl (x_gV xw_1338 xw_1339 xw_1340 xw_5 xw_1341) rfl rfl qX11_waterIn ⟨(Nat.le_of_ble_eq_true rfl), (Nat.le_of_ble_eq_true rfl)⟩ rfl hl.1 rfl (Nat.le_of_ble_eq_true rfl) dX11_waterWalled_47) (fun r14 u13 H locs hw h => ?_)
  refine lv_istore (lv' := [(5, .int r14), (4, .int r4), (3, .int r2), (0, .ref (xad g 272)), (1, .int a1), (2, .int a2)]) hx hb dX11_waterWalled_50 hl (by decide) rfl (fun ls hl => ?_)
  refine lv_aload_n hx hb dX11_waterWalled_52 rfl (lv_at hl 3 rfl) ?_
  refine x_getr (ci := 11) C hw 0 (xoM_272 hM) rfl inlX11 (by decide) rfl rfl xrM_272_0 xw_219 dX11_waterWalled_53 ?_
  refine lv_iload_n hx hb dX11_waterWalled_56 rfl (lv_at hl 5 rfl) ?_
  refine x_calli hw (x_runS C hw (m_X11_doorRow l C.2.2.2.2.2.2.2.2.1  h) (x_gS xw_915 xw_916 xw_5 xw_917) rfl rfl qX11_doorRow ⟨(Nat.le_of_ble_eq_true rfl), (Nat.le_of_ble_eq_true rfl)⟩ rfl hl.1 rfl (Nat.le_of_ble_eq_true rfl) dX11_waterWalled_57) (fun r16 u15 H locs hw h => ?_)
  refine lv_bipush (v := 7) hx hb dX11_waterWalled_60 (by decide) ?_
  refine lv_iadd hx hb dX11_waterWalled_62 ?_
  refine lv_iload hx hb dX11_waterWalled_63 (lv_at hl 1 rfl) ?_
  have c17 := h.1
  have h := h.2
  obtain ⟨u18, eu18⟩ : ∃ q : xM, q = si u15 273 (r16 + (7 : Int32)).toNatClampNeg r4 := ⟨_, rfl⟩
  have h := h u18 eu18
  refine x_iast C hw (xoM_273 hM) c17 dX11_waterWalled_65 eu18 (fun H locs hw => ?_)
  refine lv_aload_n hx hb dX11_waterWalled_66 rfl (lv_at hl 3 rfl) ?_
  refine x_getr (ci := 11) C hw 0 (xoM_272 hM) rfl inlX11 (by decide) rfl rfl xrM_272_0 xw_219 dX11_waterWalled_67 ?_
  refine lv_iload_n hx hb dX11_waterWalled_70 rfl (lv_at hl 4 rfl) ?_
  refine x_calli hw (x_runS C hw (m_X11_doorRow l C.2.2.2.2.2.2.2.2.1  h) (x_gS xw_915 xw_916 xw_5 xw_917) rfl rfl qX11_doorRow ⟨(Nat.le_of_ble_eq_true rfl), (Nat.le_of_ble_eq_true rfl)⟩ rfl hl.1 rfl (Nat.le_of_ble_eq_true rfl) dX11_waterWalled_71) (fun r20 u19 H locs hw h => ?_)
  refine lv_bipush (v := 7) hx hb dX11_waterWalled_74 (by decide) ?_
  refine lv_iadd hx hb dX11_waterWalled_76 ?_
  refine lv_iload_n hx hb dX11_waterWalled_77 rfl (lv_at hl 2 rfl) ?_
  have c21 := h.1
  have h := h.2
  obtain ⟨u22, eu22⟩ : ∃ q : xM, q = si u19 273 (r20 + (7 : Int32)).toNatClampNeg r2 := ⟨_, rfl⟩
  have h := h u22 eu22
  refine x_iast C hw (xoM_273 hM) c21 dX11_waterWalled_78 eu22 (fun H locs hw => ?_)
  refine lv_iload hx hb dX11_waterWalled_79 (lv_at hl 0 rfl) ?_
  exact x_iret C hw h dX11_waterWalled_81
set_option maxHeartbeats 4000000 in
set_option maxRecDepth 100000 in
theorem m_X11_waterWalled (l : Launch) {g : xG} (hD : x_D g) (hM : xpM g) {a1 : Int32} {a2 : Int32} {u : xM} {Qf : Int32 → xM → Prop} (h : p_X11_waterWalled a1 a2 u Qf) : Met l yX11_waterWalled (Cond.code yX11_waterWalled cX11_waterWalled 6 (some .int) :: wsL_law) (x_rm 10 222) (va_Pc [.ref (xad g 272), .int a1, .int a2] (x_B g u)) (x_Qi g Qf) 0 0 (x_A g) := by
  refine Met.ofW (cc := cX11_waterWalled) (maxL := 6) (ret := (some .int)) (by decide) rfl ?_
  intro p e s m args below meth c s₁ B hml hv
  obtain ⟨rfl, hB⟩ := hv
  obtain ⟨C, hw⟩ := x_start B hml hD hB
  have hl := lv_entry [.ref (xad g 272), .int a1, .int a2] (n := 6) (Nat.le_of_ble_eq_true rfl)
  rw [lg_entry_eq]
  exact s_X11_waterWalled C hM hw hl h
set_option maxHeartbeats 4000000 in
set_option maxRecDepth 100000 in
theorem s_X11_twoWalls_L23 {Qf : Int32 → xM → Prop} {K8 : Int32 → Int32 → Int32 → xM → Prop} (C : x_C p s m args meth c g RX11 cX11_twoWalls 6 (some .int)) (hM : xpM g) (hK8 : ∀ {v1 : Int32} {v2 : Int32} {v3 : Int32} {u : xM} {H : Heap} {locs : List Loc} {ls : Array Slot}, x_W g s.heap H locs u → lv_has ls 6 [(0, .ref (xad g 272)), (1, .int v1), (2, .int v2), (3, .int v3)] → K8 v1 v2 v3 u → W p l e (x_rm 11 247) s m args below meth c H locs 0 0 (MQ below (x_Qi g Qf) args s 0 0 (x_A g)) (F0 m 8 ls [])) : ∀ (nn : Nat) {v1 : Int32} {v2 : Int32} {v3 : Int32} {v4 : Int32} {u : xM} {H : Heap} {locs : List Loc} {ls : Array Slot} (hw : x_W g s.heap H locs u) (hl : lv_has ls 6 [(0, .ref (xad g 272)), (1, .int v1), (2, .int v2), (3, .int v3), (4, .int v4)]) (h : p_X11_twoWalls_L23 Qf K8 nn v1 v2 v3 v4 u), W p l e (x_rm 11 247) s m args below meth c H locs 0 0 (MQ below (x_Qi g Qf) args s 0 0 (x_A g)) (F0 m 23 ls []) := by
  intro nn
  induction nn with
  | zero => intro v1 v2 v3 v4 u H locs ls hw hl h; exact h.elim
  | succ nn ih =>
    intro v1 v2 v3 v4 u H locs ls hw hl h
    unfold p_X11_twoWalls_L23 at h
    have hx := C.1
    have hb := C.2.1
    refine lv_iload hx hb dX11_twoWalls_23 (lv_at hl 4 rfl) ?_
    refine lv_aload_n hx hb dX11_twoWalls_25 rfl (lv_at hl 0 rfl) ?_
    refine x_getr (ci := 11) C hw 0 (xoM_272 hM) rfl inlX11 (by decide) rfl rfl xrM_272_0 xw_219 dX11_twoWalls_26 ?_
    refine lv_iconst (v := 1) hx hb dX11_twoWalls_29 (by decide) ?_
    have c1 := h.1
    have h := h.2
    refine x_iald C hw (xoM_273 hM) c1 dX11_twoWalls_30 ?_
    refine lv_icmp_ge (tgt := 95) hx hb dX11_twoWalls_31 (by decide) (fun c2 => ?_) (fun c2 => ?_)
    · have h := h.1 c2
      obtain ⟨x3, ex3⟩ : ∃ y : Int32, y = v3 + 1 := ⟨_, rfl⟩
      have h := h x3 ex3
      refine lv_iinc (v := x3) (lv' := [(3, .int x3), (0, .ref (xad g 272)), (1, .int v1), (2, .int v2), (4, .int v4)]) hx hb dX11_twoWalls_95 hl (k := 3) rfl (by rw [ex3]; rfl) (by decide) rfl (fun ls hl => ?_)
      refine lv_goto (tgt := 8) hx hb dX11_twoWalls_98 (by decide) ?_
      exact hK8 hw (lv_sub hl [1, 2, 3, 0] rfl) h
    · have h := h.2 c2
      refine lv_aload_n hx hb dX11_twoWalls_34 rfl (lv_at hl 0 rfl) ?_
      refine lv_iload_n hx hb dX11_twoWalls_35 rfl (lv_at hl 3 rfl) ?_
      refine lv_bipush (v := 7) hx hb dX11_twoWalls_36 (by decide) ?_
      refine x_calli hw (x_runV (ci := 11) C hw (m_X11_doorOf l C.2.2.2.2.2.2.2.2.1 hM h) (xoM_272 hM) rfl (x_gV xw_911 xw_912 xw_913 xw_5 xw_914) rfl rfl qX11_doorOf ⟨(Nat.le_of_ble_eq_true rfl), (Nat.le_of_ble_eq_true rfl)⟩ rfl hl.1 rfl (Nat.le_of_ble_eq_true rfl) dX11_twoWalls_38) (fun r5 u4 H locs hw h => ?_)
      refine lv_iconst (v := 1) hx hb dX11_twoWalls_41 (by decide) ?_
      refine lv_icmp_eq (tgt := 89) hx hb dX11_twoWalls_42 (by decide) (fun c6 => ?_) (fun c6 => ?_)
      · have h := h.1 c6
        obtain ⟨x7, ex7⟩ : ∃ y : Int32, y = v4 + 1 := ⟨_, rfl⟩
        have h := h x7 ex7
        refine lv_iinc (v := x7) (lv' := [(4, .int x7), (0, .ref (xad g 272)), (1, .int v1), (2, .int v2), (3, .int v3)]) hx hb dX11_twoWalls_89 hl (k := 4) rfl (by rw [ex7]; rfl) (by decide) rfl (fun ls hl => ?_)
        refine lv_goto (tgt := 23) hx hb dX11_twoWalls_92 (by decide) ?_
        exact ih hw (lv_sub hl [1, 2, 3, 4, 0] rfl) h
      · have h := h.2 c6
        refine lv_aload_n hx hb dX11_twoWalls_45 rfl (lv_at hl 0 rfl) ?_
        refine lv_iload hx hb dX11_twoWalls_46 (lv_at hl 4 rfl) ?_
        refine lv_bipush (v := 7) hx hb dX11_twoWalls_48 (by decide) ?_
        refine x_calli hw (x_runV (ci := 11) C hw (m_X11_doorOf l C.2.2.2.2.2.2.2.2.1 hM h) (xoM_272 hM) rfl (x_gV xw_911 xw_912 xw_913 xw_5 xw_914) rfl rfl qX11_doorOf ⟨(Nat.le_of_ble_eq_true rfl), (Nat.le_of_ble_eq_true rfl)⟩ rfl hl.1 rfl (Nat.le_of_ble_eq_true rfl) dX11_twoWalls_50) (fun r9 u8 H locs hw h => ?_)
        refine lv_iconst (v := 1) hx hb dX11_twoWalls_53 (by decide) ?_
        refine lv_icmp_ne (tgt := 60) hx hb dX11_twoWalls_54 (by decide) (fun c10 => ?_) (fun c10 => ?_)
        · have h := h.1 c10
          refine lv_aload_n hx hb dX11_twoWalls_60 rfl (lv_at hl 0 rfl) ?_
          refine lv_iload_n hx hb dX11_twoWalls_61 rfl (lv_at hl 3 rfl) ?_
          refine lv_iload hx hb dX11_twoWalls_62 (lv_at hl 4 rfl) ?_
          refine x_calli hw (x_runV (ci := 11) C hw (m_X11_waterWalled l C.2.2.2.2.2.2.2.2.1 hM h) (xoM_272 hM) rfl (x_gV xw_1495 xw_1496 xw_1497 xw_5 xw_1498) rfl rfl qX11_waterWalled ⟨(Nat.le_of_ble_eq_true rfl), (Nat.le_of_ble_eq_true rfl)⟩ rfl hl.1 rfl (Nat.le_of_ble_eq_true rfl) dX11_twoWalls_64) (fun r12 u11 H locs hw h => ?_)
          refine lv_istore (lv' := [(5, .int r12), (0, .ref (xad g 272)), (1, .int v1), (2, .int v2), (3, .int v3), (4, .int v4)]) hx hb dX11_twoWalls_67 hl (by decide) rfl (fun ls hl => ?_)
          refine lv_iload hx hb dX11_twoWalls_69 (lv_at hl 0 rfl) ?_
          refine lv_iload_n hx hb dX11_twoWalls_71 rfl (lv_at hl 3 rfl) ?_
          refine lv_icmp_lt (tgt := 78) hx hb dX11_twoWalls_72 (by decide) (fun c13 => ?_) (fun c13 => ?_)
          · have h := h.1 c13
            refine lv_iload hx hb dX11_twoWalls_78 (lv_at hl 0 rfl) ?_
            refine lv_istore_n (lv' := [(2, .int r12), (5, .int r12), (0, .ref (xad g 272)), (1, .int v1), (3, .int v3), (4, .int v4)]) hx hb dX11_twoWalls_80 rfl hl (by decide) rfl (fun ls hl => ?_)
            refine lv_bipush (v := 10) hx hb dX11_twoWalls_81 (by decide) ?_
            refine lv_iload_n hx hb dX11_twoWalls_83 rfl (lv_at hl 4 rfl) ?_
            refine lv_imul hx hb dX11_twoWalls_84 ?_
            refine lv_iload hx hb dX11_twoWalls_85 (lv_at hl 5 rfl) ?_
            refine lv_iadd hx hb dX11_twoWalls_87 ?_
            refine lv_topi (fun x14 ex14 => ?_)
            have h := h x14 ex14
            refine lv_istore_n (lv' := [(1, .int x14), (2, .int r12), (5, .int r12), (0, .ref (xad g 272)), (3, .int v3), (4, .int v4)]) hx hb dX11_twoWalls_88 rfl hl (by decide) rfl (fun ls hl => ?_)
            obtain ⟨x15, ex15⟩ : ∃ y : Int32, y = v4 + 1 := ⟨_, rfl⟩
            have h := h x15 ex15
            refine lv_iinc (v := x15) (lv' := [(4, .int x15), (1, .int x14), (2, .int r12), (5, .int r12), (0, .ref (xad g 272)), (3, .int v3)]) hx hb dX11_twoWalls_89 hl (k := 5) rfl (by rw [ex15]; rfl) (by decide) rfl (fun ls hl => ?_)
            refine lv_goto (tgt := 23) hx hb dX11_twoWalls_92 (by decide) ?_
            exact ih hw (lv_sub hl [4, 1, 2, 5, 0] rfl) h
          · have h := h.2 c13
            refine lv_goto (tgt := 89) hx hb dX11_twoWalls_75 (by decide) ?_
            obtain ⟨x16, ex16⟩ : ∃ y : Int32, y = v4 + 1 := ⟨_, rfl⟩
            have h := h x16 ex16
            refine lv_iinc (v := x16) (lv' := [(4, .int x16), (5, .int r12), (0, .ref (xad g 272)), (1, .int v1), (2, .int v2), (3, .int v3)]) hx hb dX11_twoWalls_89 hl (k := 5) rfl (by rw [ex16]; rfl) (by decide) rfl (fun ls hl => ?_)
            refine lv_goto (tgt := 23) hx hb dX11_twoWalls_92 (by decide) ?_
            exact ih hw (lv_sub hl [2, 3, 4, 5, 0] rfl) h
        · have h := h.2 c10
          refine lv_goto (tgt := 89) hx hb dX11_twoWalls_57 (by decide) ?_
          obtain ⟨x17, ex17⟩ : ∃ y : Int32, y = v4 + 1 := ⟨_, rfl⟩
          have h := h x17 ex17
          refine lv_iinc (v := x17) (lv' := [(4, .int x17), (0, .ref (xad g 272)), (1, .int v1), (2, .int v2), (3, .int v3)]) hx hb dX11_twoWalls_89 hl (k := 4) rfl (by rw [ex17]; rfl) (by decide) rfl (fun ls hl => ?_)
          refine lv_goto (tgt := 23) hx hb dX11_twoWalls_92 (by decide) ?_
          exact ih hw (lv_sub hl [1, 2, 3, 4, 0] rfl) h
set_option maxHeartbeats 4000000 in
set_option maxRecDepth 100000 in
theorem s_X11_twoWalls_L8 {Qf : Int32 → xM → Prop} (C : x_C p s m args meth c g RX11 cX11_twoWalls 6 (some .int)) (hM : xpM g) : ∀ (nn : Nat) {v1 : Int32} {v2 : Int32} {v3 : Int32} {u : xM} {H : Heap} {locs : List Loc} {ls : Array Slot} (hw : x_W g s.heap H locs u) (hl : lv_has ls 6 [(0, .ref (xad g 272)), (1, .int v1), (2, .int v2), (3, .int v3)]) (h : p_X11_twoWalls_L8 Qf nn v1 v2 v3 u), W p l e (x_rm 11 247) s m args below meth c H locs 0 0 (MQ below (x_Qi g Qf) args s 0 0 (x_A g)) (F0 m 8 ls []) := by
  intro nn
  induction nn with
  | zero => intro v1 v2 v3 u H locs ls hw hl h; exact h.elim
  | succ nn ih =>
    intro v1 v2 v3 u H locs ls hw hl h
    unfold p_X11_twoWalls_L8 at h
    have hx := C.1
    have hb := C.2.1
    refine lv_iload_n hx hb dX11_twoWalls_8 rfl (lv_at hl 3 rfl) ?_
    refine lv_aload_n hx hb dX11_twoWalls_9 rfl (lv_at hl 0 rfl) ?_
    refine x_getr (ci := 11) C hw 0 (xoM_272 hM) rfl inlX11 (by decide) rfl rfl xrM_272_0 xw_219 dX11_twoWalls_10 ?_
    refine lv_iconst (v := 1) hx hb dX11_twoWalls_13 (by decide) ?_
    have c1 := h.1
    have h := h.2
    refine x_iald C hw (xoM_273 hM) c1 dX11_twoWalls_14 ?_
    refine lv_icmp_ge (tgt := 101) hx hb dX11_twoWalls_15 (by decide) (fun c2 => ?_) (fun c2 => ?_)
    · have h := h.1 c2
      refine lv_aload_n hx hb dX11_twoWalls_101 rfl (lv_at hl 0 rfl) ?_
      refine lv_iload_n hx hb dX11_twoWalls_102 rfl (lv_at hl 1 rfl) ?_
      refine x_calli hw (x_runV (ci := 11) C hw (m_X11_orNone l C.2.2.2.2.2.2.2.2.1 hM h) (xoM_272 hM) rfl (x_gV xw_1094 xw_1095 xw_1096 xw_5 xw_1097) rfl rfl qX11_orNone ⟨(Nat.le_of_ble_eq_true rfl), (Nat.le_of_ble_eq_true rfl)⟩ rfl hl.1 rfl (Nat.le_of_ble_eq_true rfl) dX11_twoWalls_103) (fun r4 u3 H locs hw h => ?_)
      exact x_iret C hw h dX11_twoWalls_106
    · have h := h.2 c2
      refine lv_iload_n hx hb dX11_twoWalls_18 rfl (lv_at hl 3 rfl) ?_
      refine lv_iconst (v := 1) hx hb dX11_twoWalls_19 (by decide) ?_
      refine lv_iadd hx hb dX11_twoWalls_20 ?_
      refine lv_topi (fun x5 ex5 => ?_)
      have h := h x5 ex5
      refine lv_istore (lv' := [(4, .int x5), (0, .ref (xad g 272)), (1, .int v1), (2, .int v2), (3, .int v3)]) hx hb dX11_twoWalls_21 hl (by decide) rfl (fun ls hl => ?_)
      obtain ⟨n9, h⟩ := h
      exact s_X11_twoWalls_L23 C hM (fun hw hl h => ih hw hl h) n9 hw (lv_sub hl [1, 2, 3, 4, 0] rfl) h
set_option maxHeartbeats 4000000 in
set_option maxRecDepth 100000 in
theorem s_X11_twoWalls {Qf : Int32 → xM → Prop} (C : x_C p s m args meth c g RX11 cX11_twoWalls 6 (some .int)) (hM : xpM g) {u : xM} {H : Heap} {locs : List Loc} {ls : Array Slot} (hw : x_W g s.heap H locs u) (hl : lv_has ls 6 [(0, .ref (xad g 272))]) (h : p_X11_twoWalls  u Qf) : W p l e (x_rm 11 247) s m args below meth c H locs 0 0 (MQ below (x_Qi g Qf) args s 0 0 (x_A g)) (F0 m 0 ls []) := by
  unfold p_X11_twoWalls at h
  have hx := C.1
  have hb := C.2.1
  refine lv_iconst (v := -1) hx hb dX11_twoWalls_0 (by decide) ?_
  refine lv_istore_n (lv' := [(1, .int (-1)), (0, .ref (xad g 272))]) hx hb dX11_twoWalls_1 rfl hl (by decide) rfl (fun ls hl => ?_)
  refine lv_ldcw (v := 1000000) hx hb C.2.2.2.1 (C.2.2.2.2.1 _ xw_1465) dX11_twoWalls_2 ?_
  refine lv_istore_n (lv' := [(2, .int 1000000), (1, .int (-1)), (0, .ref (xad g 272))]) hx hb dX11_twoWalls_5 rfl hl (by decide) rfl (fun ls hl => ?_)
  refine lv_iconst (v := 0) hx hb dX11_twoWalls_6 (by decide) ?_
  refine lv_istore_n (lv' := [(3, .int 0), (2, .int 1000000), (1, .int (-1)), (0, .ref (xad g 272))]) hx hb dX11_twoWalls_7 rfl hl (by decide) rfl (fun ls hl => ?_)
  obtain ⟨n9, h⟩ := h
  exact s_X11_twoWalls_L8 C hM n9 hw (lv_sub hl [3, 2, 1, 0] rfl) h
set_option maxHeartbeats 4000000 in
set_option maxRecDepth 100000 in
theorem m_X11_twoWalls (l : Launch) {g : xG} (hD : x_D g) (hM : xpM g) {u : xM} {Qf : Int32 → xM → Prop} (h : p_X11_twoWalls  u Qf) : Met l yX11_twoWalls (Cond.code yX11_twoWalls cX11_twoWalls 6 (some .int) :: wsL_law) (x_rm 11 247) (va_Pc [.ref (xad g 272)] (x_B g u)) (x_Qi g Qf) 0 0 (x_A g) := by
  refine Met.ofW (cc := cX11_twoWalls) (maxL := 6) (ret := (some .int)) (by decide) rfl ?_
  intro p e s m args below meth c s₁ B hml hv
  obtain ⟨rfl, hB⟩ := hv
  obtain ⟨C, hw⟩ := x_start B hml hD hB
  have hl := lv_entry [.ref (xad g 272)] (n := 6) (Nat.le_of_ble_eq_true rfl)
  rw [lg_entry_eq]
  exact s_X11_twoWalls C hM hw hl h
set_option maxHeartbeats 4000000 in
set_option maxRecDepth 100000 in
theorem s_X11_gain {Qf : Int32 → xM → Prop} {a1 : Int32} (C : x_C p s m args meth c g RX11 cX11_gain 2 (some .int)) (hM : xpM g) {u : xM} {H : Heap} {locs : List Loc} {ls : Array Slot} (hw : x_W g s.heap H locs u) (hl : lv_has ls 2 [(0, .ref (xad g 272)), (1, .int a1)]) (h : p_X11_gain a1 u Qf) : W p l e (x_rm 11 247) s m args below meth c H locs 0 0 (MQ below (x_Qi g Qf) args s 0 0 (x_A g)) (F0 m 0 ls []) := by
  unfold p_X11_gain at h
  have hx := C.1
  have hb := C.2.1
  refine lv_aload_n hx hb dX11_gain_0 rfl (lv_at hl 0 rfl) ?_
  refine lv_iload_n hx hb dX11_gain_1 rfl (lv_at hl 1 rfl) ?_
  refine x_callz hw (x_runV (ci := 11) C hw (m_X11_isDoor l C.2.2.2.2.2.2.2.2.1 hM h) (xoM_272 hM) rfl (x_gV xw_977 xw_978 xw_979 xw_5 xw_980) rfl rfl qX11_isDoor ⟨(Nat.le_of_ble_eq_true rfl), (Nat.le_of_ble_eq_true rfl)⟩ rfl hl.1 rfl (Nat.le_of_ble_eq_true rfl) dX11_gain_2) (fun r2 u1 H locs hw h => ?_)
  refine lv_if_eq (tgt := 29) hx hb dX11_gain_5 (by decide) (fun c3 => ?_) (fun c3 => ?_)
  · have h := h.1 (xb_f c3)
    refine lv_aload_n hx hb dX11_gain_29 rfl (lv_at hl 0 rfl) ?_
    refine lv_iconst (v := 1) hx hb dX11_gain_30 (by decide) ?_
    refine x_calli hw (x_runV (ci := 11) C hw (m_X11_refuse l C.2.2.2.2.2.2.2.2.1 hM h) (xoM_272 hM) rfl (x_gV xw_657 xw_658 xw_659 xw_5 xw_660) rfl rfl qX11_refuse ⟨(Nat.le_of_ble_eq_true rfl), (Nat.le_of_ble_eq_true rfl)⟩ rfl hl.1 rfl (Nat.le_of_ble_eq_true rfl) dX11_gain_31) (fun r5 u4 H locs hw h => ?_)
    exact x_iret C hw h dX11_gain_34
  · have h := h.2 (xb_t c3)
    refine lv_aload_n hx hb dX11_gain_8 rfl (lv_at hl 0 rfl) ?_
    refine lv_aload_n hx hb dX11_gain_9 rfl (lv_at hl 0 rfl) ?_
    refine lv_iconst (v := -1) hx hb dX11_gain_10 (by decide) ?_
    refine lv_bipush (v := 12) hx hb dX11_gain_11 (by decide) ?_
    refine x_calli hw (x_runV (ci := 11) C hw (m_X11_waterIn l C.2.2.2.2.2.2.2.2.1 hM h) (xoM_272 hM) rfl (x_gV xw_1338 xw_1339 xw_1340 xw_5 xw_1341) rfl rfl qX11_waterIn ⟨(Nat.le_of_ble_eq_true rfl), (Nat.le_of_ble_eq_true rfl)⟩ rfl hl.1 rfl (Nat.le_of_ble_eq_true rfl) dX11_gain_13) (fun r7 u6 H locs hw h => ?_)
    refine lv_aload_n hx hb dX11_gain_16 rfl (lv_at hl 0 rfl) ?_
    refine lv_iload_n hx hb dX11_gain_17 rfl (lv_at hl 1 rfl) ?_
    refine lv_iload_n hx hb dX11_gain_18 rfl (lv_at hl 1 rfl) ?_
    refine x_calli hw (x_runV (ci := 11) C hw (m_X11_waterWalled l C.2.2.2.2.2.2.2.2.1 hM h) (xoM_272 hM) rfl (x_gV xw_1495 xw_1496 xw_1497 xw_5 xw_1498) rfl rfl qX11_waterWalled ⟨(Nat.le_of_ble_eq_true rfl), (Nat.le_of_ble_eq_true rfl)⟩ rfl hl.1 rfl (Nat.le_of_ble_eq_true rfl) dX11_gain_19) (fun r9 u8 H locs hw h => ?_)
    refine lv_isub hx hb dX11_gain_22 ?_
    refine x_calli hw (x_runV (ci := 11) C hw (m_X11_gives l C.2.2.2.2.2.2.2.2.1 hM h) (xoM_272 hM) rfl (x_gV xw_731 xw_732 xw_733 xw_5 xw_734) rfl rfl qX11_gives ⟨(Nat.le_of_ble_eq_true rfl), (Nat.le_of_ble_eq_true rfl)⟩ rfl hl.1 rfl (Nat.le_of_ble_eq_true rfl) dX11_gain_23) (fun r11 u10 H locs hw h => ?_)
    refine lv_goto (tgt := 34) hx hb dX11_gain_26 (by decide) ?_
    exact x_iret C hw h dX11_gain_34
set_option maxHeartbeats 4000000 in
set_option maxRecDepth 100000 in
theorem m_X11_gain (l : Launch) {g : xG} (hD : x_D g) (hM : xpM g) {a1 : Int32} {u : xM} {Qf : Int32 → xM → Prop} (h : p_X11_gain a1 u Qf) : Met l yX11_gain (Cond.code yX11_gain cX11_gain 2 (some .int) :: wsL_law) (x_rm 11 247) (va_Pc [.ref (xad g 272), .int a1] (x_B g u)) (x_Qi g Qf) 0 0 (x_A g) := by
  refine Met.ofW (cc := cX11_gain) (maxL := 2) (ret := (some .int)) (by decide) rfl ?_
  intro p e s m args below meth c s₁ B hml hv
  obtain ⟨rfl, hB⟩ := hv
  obtain ⟨C, hw⟩ := x_start B hml hD hB
  have hl := lv_entry [.ref (xad g 272), .int a1] (n := 2) (Nat.le_of_ble_eq_true rfl)
  rw [lg_entry_eq]
  exact s_X11_gain C hM hw hl h
set_option maxHeartbeats 4000000 in
set_option maxRecDepth 100000 in
theorem s_X11_bailFor_L92 {Qf : Int32 → xM → Prop} {K46 : Int32 → Int32 → Int32 → Int32 → Int32 → xM → Prop} (C : x_C p s m args meth c g RX11 cX11_bailFor 6 (some .int)) (hM : xpM g) (hK46 : ∀ {v1 : Int32} {v2 : Int32} {v3 : Int32} {v4 : Int32} {v5 : Int32} {u : xM} {H : Heap} {locs : List Loc} {ls : Array Slot}, x_W g s.heap H locs u → lv_has ls 6 [(0, .ref (xad g 272)), (1, .int v1), (2, .int v2), (3, .int v3), (4, .int v4), (5, .int v5)] → K46 v1 v2 v3 v4 v5 u → W p l e (x_rm 9 199) s m args below meth c H locs 0 0 (MQ below (x_Qi g Qf) args s 0 0 (x_A g)) (F0 m 46 ls [])) {v1 : Int32} {v2 : Int32} {v3 : Int32} {v4 : Int32} {v5 : Int32} {u : xM} {H : Heap} {locs : List Loc} {ls : Array Slot} (hw : x_W g s.heap H locs u) (hl : lv_has ls 6 [(0, .ref (xad g 272)), (1, .int v1), (2, .int v2), (3, .int v3), (4, .int v4), (5, .int v5)]) (h : p_X11_bailFor_L92 Qf K46 v1 v2 v3 v4 v5 u) : W p l e (x_rm 9 199) s m args below meth c H locs 0 0 (MQ below (x_Qi g Qf) args s 0 0 (x_A g)) (F0 m 92 ls []) := by
  unfold p_X11_bailFor_L92 at h
  have hx := C.1
  have hb := C.2.1
  refine lv_aload_n hx hb dX11_bailFor_92 rfl (lv_at hl 0 rfl) ?_
  refine lv_sipush (v := 3144) hx hb dX11_bailFor_93 (by decide) ?_
  refine x_callv hw (x_runV (ci := 11) C hw (m_X11_restores l C.2.2.2.2.2.2.2.2.1 hM h) (xoM_272 hM) rfl (x_gV xw_1346 xw_1347 xw_1348 xw_5 xw_1349) rfl rfl qX11_restores ⟨(Nat.le_of_ble_eq_true rfl), (Nat.le_of_ble_eq_true rfl)⟩ rfl hl.1 rfl (Nat.le_of_ble_eq_true rfl) dX11_bailFor_96) (fun u1 H locs hw h => ?_)
  obtain ⟨x2, ex2⟩ : ∃ y : Int32, y = v5 + 1 := ⟨_, rfl⟩
  have h := h x2 ex2
  refine lv_iinc (v := x2) (lv' := [(5, .int x2), (0, .ref (xad g 272)), (1, .int v1), (2, .int v2), (3, .int v3), (4, .int v4)]) hx hb dX11_bailFor_99 hl (k := 5) rfl (by rw [ex2]; rfl) (by decide) rfl (fun ls hl => ?_)
  refine lv_goto (tgt := 46) hx hb dX11_bailFor_102 (by decide) ?_
  exact hK46 hw (lv_sub hl [1, 2, 3, 4, 5, 0] rfl) h
set_option maxHeartbeats 4000000 in
set_option maxRecDepth 100000 in
theorem s_X11_bailFor_L46 {Qf : Int32 → xM → Prop} (C : x_C p s m args meth c g RX11 cX11_bailFor 6 (some .int)) (hM : xpM g) : ∀ (nn : Nat) {v1 : Int32} {v2 : Int32} {v3 : Int32} {v4 : Int32} {v5 : Int32} {u : xM} {H : Heap} {locs : List Loc} {ls : Array Slot} (hw : x_W g s.heap H locs u) (hl : lv_has ls 6 [(0, .ref (xad g 272)), (1, .int v1), (2, .int v2), (3, .int v3), (4, .int v4), (5, .int v5)]) (h : p_X11_bailFor_L46 Qf nn v1 v2 v3 v4 v5 u), W p l e (x_rm 9 199) s m args below meth c H locs 0 0 (MQ below (x_Qi g Qf) args s 0 0 (x_A g)) (F0 m 46 ls []) := by
  intro nn
  induction nn with
  | zero => intro v1 v2 v3 v4 v5 u H locs ls hw hl h; exact h.elim
  | succ nn ih =>
    intro v1 v2 v3 v4 v5 u H locs ls hw hl h
    unfold p_X11_bailFor_L46 at h
    have hx := C.1
    have hb := C.2.1
    refine lv_iload hx hb dX11_bailFor_46 (lv_at hl 5 rfl) ?_
    refine lv_iload_n hx hb dX11_bailFor_48 rfl (lv_at hl 3 rfl) ?_
    refine lv_icmp_gt (tgt := 105) hx hb dX11_bailFor_49 (by decide) (fun c1 => ?_) (fun c1 => ?_)
    · have h := h.1 c1
      refine lv_aload_n hx hb dX11_bailFor_105 rfl (lv_at hl 0 rfl) ?_
      refine lv_iload hx hb dX11_bailFor_106 (lv_at hl 4 rfl) ?_
      refine x_calli hw (x_runV (ci := 11) C hw (m_X11_orNone l C.2.2.2.2.2.2.2.2.1 hM h) (xoM_272 hM) rfl (x_gV xw_1094 xw_1095 xw_1096 xw_5 xw_1097) rfl rfl qX11_orNone ⟨(Nat.le_of_ble_eq_true rfl), (Nat.le_of_ble_eq_true rfl)⟩ rfl hl.1 rfl (Nat.le_of_ble_eq_true rfl) dX11_bailFor_108) (fun r3 u2 H locs hw h => ?_)
      exact x_iret C hw h dX11_bailFor_111
    · have h := h.2 c1
      refine lv_iload hx hb dX11_bailFor_52 (lv_at hl 4 rfl) ?_
      refine lv_iconst (v := -1) hx hb dX11_bailFor_54 (by decide) ?_
      refine lv_icmp_ne (tgt := 105) hx hb dX11_bailFor_55 (by decide) (fun c4 => ?_) (fun c4 => ?_)
      · have h := h.1 c4
        refine lv_aload_n hx hb dX11_bailFor_105 rfl (lv_at hl 0 rfl) ?_
        refine lv_iload hx hb dX11_bailFor_106 (lv_at hl 4 rfl) ?_
        refine x_calli hw (x_runV (ci := 11) C hw (m_X11_orNone l C.2.2.2.2.2.2.2.2.1 hM h) (xoM_272 hM) rfl (x_gV xw_1094 xw_1095 xw_1096 xw_5 xw_1097) rfl rfl qX11_orNone ⟨(Nat.le_of_ble_eq_true rfl), (Nat.le_of_ble_eq_true rfl)⟩ rfl hl.1 rfl (Nat.le_of_ble_eq_true rfl) dX11_bailFor_108) (fun r6 u5 H locs hw h => ?_)
        exact x_iret C hw h dX11_bailFor_111
      · have h := h.2 c4
        refine lv_aload_n hx hb dX11_bailFor_58 rfl (lv_at hl 0 rfl) ?_
        refine x_getr (ci := 11) C hw 0 (xoM_272 hM) rfl inlX11 (by decide) rfl rfl xrM_272_0 xw_219 dX11_bailFor_59 ?_
        refine lv_iload_n hx hb dX11_bailFor_62 rfl (lv_at hl 1 rfl) ?_
        refine x_calli hw (x_runS C hw (m_X11_roomRow l C.2.2.2.2.2.2.2.2.1  h) (x_gS xw_896 xw_897 xw_5 xw_898) rfl rfl qX11_roomRow ⟨(Nat.le_of_ble_eq_true rfl), (Nat.le_of_ble_eq_true rfl)⟩ rfl hl.1 rfl (Nat.le_of_ble_eq_true rfl) dX11_bailFor_63) (fun r8 u7 H locs hw h => ?_)
        refine lv_iconst (v := 4) hx hb dX11_bailFor_66 (by decide) ?_
        refine lv_iadd hx hb dX11_bailFor_67 ?_
        refine lv_dup2_11 hx hb dX11_bailFor_68 rfl rfl ?_
        have c9 := h.1
        have h := h.2
        refine x_iald C hw (xoM_273 hM) c9 dX11_bailFor_69 ?_
        refine lv_iload hx hb dX11_bailFor_70 (lv_at hl 5 rfl) ?_
        refine lv_isub hx hb dX11_bailFor_72 ?_
        have c10 := h.1
        have h := h.2
        obtain ⟨u11, eu11⟩ : ∃ q : xM, q = si u7 273 (r8 + (4 : Int32)).toNatClampNeg ((gi u7 273 (r8 + (4 : Int32)).toNatClampNeg) - v5) := ⟨_, rfl⟩
        have h := h u11 eu11
        refine x_iast C hw (xoM_273 hM) c10 dX11_bailFor_73 eu11 (fun H locs hw => ?_)
        refine lv_aload_n hx hb dX11_bailFor_74 rfl (lv_at hl 0 rfl) ?_
        refine lv_iload_n hx hb dX11_bailFor_75 rfl (lv_at hl 2 rfl) ?_
        refine x_calli hw (x_runV (ci := 11) C hw (m_X11_goes l C.2.2.2.2.2.2.2.2.1 hM h) (xoM_272 hM) rfl (x_gV xw_1200 xw_1201 xw_1202 xw_5 xw_1203) rfl rfl qX11_goes ⟨(Nat.le_of_ble_eq_true rfl), (Nat.le_of_ble_eq_true rfl)⟩ rfl hl.1 rfl (Nat.le_of_ble_eq_true rfl) dX11_bailFor_76) (fun r13 u12 H locs hw h => ?_)
        refine lv_pop hx hb dX11_bailFor_79 rfl ?_
        refine lv_aload_n hx hb dX11_bailFor_80 rfl (lv_at hl 0 rfl) ?_
        refine lv_iload_n hx hb dX11_bailFor_81 rfl (lv_at hl 1 rfl) ?_
        refine x_calli hw (x_runV (ci := 11) C hw (m_X11_depthOf l C.2.2.2.2.2.2.2.2.1 hM h) (xoM_272 hM) rfl (x_gV xw_903 xw_904 xw_905 xw_5 xw_906) rfl rfl qX11_depthOf ⟨(Nat.le_of_ble_eq_true rfl), (Nat.le_of_ble_eq_true rfl)⟩ rfl hl.1 rfl (Nat.le_of_ble_eq_true rfl) dX11_bailFor_82) (fun r15 u14 H locs hw h => ?_)
        refine lv_if_ne (tgt := 92) hx hb dX11_bailFor_85 (by decide) (fun c16 => ?_) (fun c16 => ?_)
        · have h := h.1 c16
          exact s_X11_bailFor_L92 C hM (fun hw hl h => ih hw hl h) hw (lv_sub hl [0, 1, 2, 3, 4, 5] rfl) h
        · have h := h.2 c16
          refine lv_iload hx hb dX11_bailFor_88 (lv_at hl 5 rfl) ?_
          refine lv_istore (lv' := [(4, .int v5), (0, .ref (xad g 272)), (1, .int v1), (2, .int v2), (3, .int v3), (5, .int v5)]) hx hb dX11_bailFor_90 hl (by decide) rfl (fun ls hl => ?_)
          exact s_X11_bailFor_L92 C hM (fun hw hl h => ih hw hl h) hw (lv_sub hl [1, 2, 3, 4, 0, 5] rfl) h
set_option maxHeartbeats 4000000 in
set_option maxRecDepth 100000 in
theorem s_X11_bailFor {Qf : Int32 → xM → Prop} {a1 : Int32} {a2 : Int32} (C : x_C p s m args meth c g RX11 cX11_bailFor 6 (some .int)) (hM : xpM g) {u : xM} {H : Heap} {locs : List Loc} {ls : Array Slot} (hw : x_W g s.heap H locs u) (hl : lv_has ls 6 [(0, .ref (xad g 272)), (1, .int a1), (2, .int a2)]) (h : p_X11_bailFor a1 a2 u Qf) : W p l e (x_rm 9 199) s m args below meth c H locs 0 0 (MQ below (x_Qi g Qf) args s 0 0 (x_A g)) (F0 m 0 ls []) := by
  unfold p_X11_bailFor at h
  have hx := C.1
  have hb := C.2.1
  refine lv_aload_n hx hb dX11_bailFor_0 rfl (lv_at hl 0 rfl) ?_
  refine lv_iload_n hx hb dX11_bailFor_1 rfl (lv_at hl 1 rfl) ?_
  refine x_callz hw (x_runV (ci := 11) C hw (m_X11_isRoom l C.2.2.2.2.2.2.2.2.1 hM h) (xoM_272 hM) rfl (x_gV xw_945 xw_946 xw_947 xw_5 xw_948) rfl rfl qX11_isRoom ⟨(Nat.le_of_ble_eq_true rfl), (Nat.le_of_ble_eq_true rfl)⟩ rfl hl.1 rfl (Nat.le_of_ble_eq_true rfl) dX11_bailFor_2) (fun r2 u1 H locs hw h => ?_)
  refine lv_if_eq (tgt := 20) hx hb dX11_bailFor_5 (by decide) (fun c3 => ?_) (fun c3 => ?_)
  · have h := h.1 (xb_f c3)
    refine lv_aload_n hx hb dX11_bailFor_20 rfl (lv_at hl 0 rfl) ?_
    refine lv_iconst (v := 1) hx hb dX11_bailFor_21 (by decide) ?_
    refine x_calli hw (x_runV (ci := 11) C hw (m_X11_refuse l C.2.2.2.2.2.2.2.2.1 hM h) (xoM_272 hM) rfl (x_gV xw_657 xw_658 xw_659 xw_5 xw_660) rfl rfl qX11_refuse ⟨(Nat.le_of_ble_eq_true rfl), (Nat.le_of_ble_eq_true rfl)⟩ rfl hl.1 rfl (Nat.le_of_ble_eq_true rfl) dX11_bailFor_22) (fun r5 u4 H locs hw h => ?_)
    exact x_iret C hw h dX11_bailFor_25
  · have h := h.2 (xb_t c3)
    refine lv_iload_n hx hb dX11_bailFor_8 rfl (lv_at hl 2 rfl) ?_
    refine lv_i2l hx hb dX11_bailFor_9 rfl ?_
    refine lv_lconst (v := 1) hx hb dX11_bailFor_10 (by decide) ?_
    refine lv_ldc2 (v := 24) hx hb C.2.2.2.1 (C.2.2.2.2.1 _ xw_1521) dX11_bailFor_11 ?_
    refine x_callz hw (x_runS C hw (m_X11_isFrom l C.2.2.2.2.2.2.2.2.1  h) (x_gS xw_1197 xw_1198 xw_5 xw_1199) rfl rfl qX11_isFrom ⟨(Nat.le_of_ble_eq_true rfl), (Nat.le_of_ble_eq_true rfl)⟩ rfl hl.1 rfl (Nat.le_of_ble_eq_true rfl) dX11_bailFor_14) (fun r7 u6 H locs hw h => ?_)
    refine lv_if_ne (tgt := 26) hx hb dX11_bailFor_17 (by decide) (fun c8 => ?_) (fun c8 => ?_)
    · have h := h.1 (xb_t c8)
      refine lv_aload_n hx hb dX11_bailFor_26 rfl (lv_at hl 0 rfl) ?_
      refine lv_sipush (v := 3144) hx hb dX11_bailFor_27 (by decide) ?_
      refine x_callv hw (x_runV (ci := 11) C hw (m_X11_keeps l C.2.2.2.2.2.2.2.2.1 hM h) (xoM_272 hM) rfl (x_gV xw_1342 xw_1343 xw_1344 xw_5 xw_1345) rfl rfl qX11_keeps ⟨(Nat.le_of_ble_eq_true rfl), (Nat.le_of_ble_eq_true rfl)⟩ rfl hl.1 rfl (Nat.le_of_ble_eq_true rfl) dX11_bailFor_30) (fun u9 H locs hw h => ?_)
      refine lv_aload_n hx hb dX11_bailFor_33 rfl (lv_at hl 0 rfl) ?_
      refine lv_iload_n hx hb dX11_bailFor_34 rfl (lv_at hl 1 rfl) ?_
      refine lv_iconst (v := 4) hx hb dX11_bailFor_35 (by decide) ?_
      refine x_calli hw (x_runV (ci := 11) C hw (m_X11_roomOf l C.2.2.2.2.2.2.2.2.1 hM h) (xoM_272 hM) rfl (x_gV xw_892 xw_893 xw_894 xw_5 xw_895) rfl rfl qX11_roomOf ⟨(Nat.le_of_ble_eq_true rfl), (Nat.le_of_ble_eq_true rfl)⟩ rfl hl.1 rfl (Nat.le_of_ble_eq_true rfl) dX11_bailFor_36) (fun r11 u10 H locs hw h => ?_)
      refine lv_istore_n (lv' := [(3, .int r11), (0, .ref (xad g 272)), (1, .int a1), (2, .int a2)]) hx hb dX11_bailFor_39 rfl hl (by decide) rfl (fun ls hl => ?_)
      refine lv_iconst (v := -1) hx hb dX11_bailFor_40 (by decide) ?_
      refine lv_istore (lv' := [(4, .int (-1)), (3, .int r11), (0, .ref (xad g 272)), (1, .int a1), (2, .int a2)]) hx hb dX11_bailFor_41 hl (by decide) rfl (fun ls hl => ?_)
      refine lv_iconst (v := 0) hx hb dX11_bailFor_43 (by decide) ?_
      refine lv_istore (lv' := [(5, .int 0), (4, .int (-1)), (3, .int r11), (0, .ref (xad g 272)), (1, .int a1), (2, .int a2)]) hx hb dX11_bailFor_44 hl (by decide) rfl (fun ls hl => ?_)
      obtain ⟨n9, h⟩ := h
      exact s_X11_bailFor_L46 C hM n9 hw (lv_sub hl [3, 4, 5, 2, 1, 0] rfl) h
    · have h := h.2 (xb_f c8)
      refine lv_aload_n hx hb dX11_bailFor_20 rfl (lv_at hl 0 rfl) ?_
      refine lv_iconst (v := 1) hx hb dX11_bailFor_21 (by decide) ?_
      refine x_calli hw (x_runV (ci := 11) C hw (m_X11_refuse l C.2.2.2.2.2.2.2.2.1 hM h) (xoM_272 hM) rfl (x_gV xw_657 xw_658 xw_659 xw_5 xw_660) rfl rfl qX11_refuse ⟨(Nat.le_of_ble_eq_true rfl), (Nat.le_of_ble_eq_true rfl)⟩ rfl hl.1 rfl (Nat.le_of_ble_eq_true rfl) dX11_bailFor_22) (fun r13 u12 H locs hw h => ?_)
      exact x_iret C hw h dX11_bailFor_25
set_option maxHeartbeats 4000000 in
set_option maxRecDepth 100000 in
theorem m_X11_bailFor (l : Launch) {g : xG} (hD : x_D g) (hM : xpM g) {a1 : Int32} {a2 : Int32} {u : xM} {Qf : Int32 → xM → Prop} (h : p_X11_bailFor a1 a2 u Qf) : Met l yX11_bailFor (Cond.code yX11_bailFor cX11_bailFor 6 (some .int) :: wsL_law) (x_rm 9 199) (va_Pc [.ref (xad g 272), .int a1, .int a2] (x_B g u)) (x_Qi g Qf) 0 0 (x_A g) := by
  refine Met.ofW (cc := cX11_bailFor) (maxL := 6) (ret := (some .int)) (by decide) rfl ?_
  intro p e s m args below meth c s₁ B hml hv
  obtain ⟨rfl, hB⟩ := hv
  obtain ⟨C, hw⟩ := x_start B hml hD hB
  have hl := lv_entry [.ref (xad g 272), .int a1, .int a2] (n := 6) (Nat.le_of_ble_eq_true rfl)
  rw [lg_entry_eq]
  exact s_X11_bailFor C hM hw hl h
set_option maxHeartbeats 4000000 in
set_option maxRecDepth 100000 in
theorem s_X11_siegeOf_L9 {Qf : Int32 → xM → Prop} (C : x_C p s m args meth c g RX11 cX11_siegeOf 3 (some .int)) (hM : xpM g) : ∀ (nn : Nat) {v1 : Int32} {v2 : Int32} {u : xM} {H : Heap} {locs : List Loc} {ls : Array Slot} (hw : x_W g s.heap H locs u) (hl : lv_has ls 3 [(0, .ref (xad g 272)), (1, .int v1), (2, .int v2)]) (h : p_X11_siegeOf_L9 Qf nn v1 v2 u), W p l e (x_rm 9 199) s m args below meth c H locs 0 0 (MQ below (x_Qi g Qf) args s 0 0 (x_A g)) (F0 m 9 ls []) := by
  intro nn
  induction nn with
  | zero => intro v1 v2 u H locs ls hw hl h; exact h.elim
  | succ nn ih =>
    intro v1 v2 u H locs ls hw hl h
    unfold p_X11_siegeOf_L9 at h
    have hx := C.1
    have hb := C.2.1
    refine lv_iload_n hx hb dX11_siegeOf_9 rfl (lv_at hl 2 rfl) ?_
    refine lv_bipush (v := 12) hx hb dX11_siegeOf_10 (by decide) ?_
    refine lv_icmp_ge (tgt := 32) hx hb dX11_siegeOf_12 (by decide) (fun c1 => ?_) (fun c1 => ?_)
    · have h := h.1 c1
      refine lv_aload_n hx hb dX11_siegeOf_32 rfl (lv_at hl 0 rfl) ?_
      refine lv_bipush (v := 12) hx hb dX11_siegeOf_33 (by decide) ?_
      refine x_calli hw (x_runV (ci := 11) C hw (m_X11_goes l C.2.2.2.2.2.2.2.2.1 hM h) (xoM_272 hM) rfl (x_gV xw_1200 xw_1201 xw_1202 xw_5 xw_1203) rfl rfl qX11_goes ⟨(Nat.le_of_ble_eq_true rfl), (Nat.le_of_ble_eq_true rfl)⟩ rfl hl.1 rfl (Nat.le_of_ble_eq_true rfl) dX11_siegeOf_35) (fun r3 u2 H locs hw h => ?_)
      refine lv_pop hx hb dX11_siegeOf_38 rfl ?_
      refine lv_aload_n hx hb dX11_siegeOf_39 rfl (lv_at hl 0 rfl) ?_
      refine lv_iconst (v := 1) hx hb dX11_siegeOf_40 (by decide) ?_
      refine x_calli hw (x_runV (ci := 11) C hw (m_X11_setOf l C.2.2.2.2.2.2.2.2.1 hM h) (xoM_272 hM) rfl (x_gV xw_899 xw_900 xw_901 xw_5 xw_902) rfl rfl qX11_setOf ⟨(Nat.le_of_ble_eq_true rfl), (Nat.le_of_ble_eq_true rfl)⟩ rfl hl.1 rfl (Nat.le_of_ble_eq_true rfl) dX11_siegeOf_41) (fun r5 u4 H locs hw h => ?_)
      refine lv_istore_n (lv' := [(2, .int r5), (0, .ref (xad g 272)), (1, .int v1)]) hx hb dX11_siegeOf_44 rfl hl (by decide) rfl (fun ls hl => ?_)
      refine lv_aload_n hx hb dX11_siegeOf_45 rfl (lv_at hl 1 rfl) ?_
      refine lv_sipush (v := 3144) hx hb dX11_siegeOf_46 (by decide) ?_
      refine x_callv hw (x_runV (ci := 11) C hw (m_X11_restores l C.2.2.2.2.2.2.2.2.1 hM h) (xoM_272 hM) rfl (x_gV xw_1346 xw_1347 xw_1348 xw_5 xw_1349) rfl rfl qX11_restores ⟨(Nat.le_of_ble_eq_true rfl), (Nat.le_of_ble_eq_true rfl)⟩ rfl hl.1 rfl (Nat.le_of_ble_eq_true rfl) dX11_siegeOf_49) (fun u6 H locs hw h => ?_)
      refine lv_iload_n hx hb dX11_siegeOf_52 rfl (lv_at hl 0 rfl) ?_
      exact x_iret C hw h dX11_siegeOf_53
    · have h := h.2 c1
      refine lv_aload_n hx hb dX11_siegeOf_15 rfl (lv_at hl 0 rfl) ?_
      refine x_getr (ci := 11) C hw 0 (xoM_272 hM) rfl inlX11 (by decide) rfl rfl xrM_272_0 xw_219 dX11_siegeOf_16 ?_
      refine lv_sipush (v := 135) hx hb dX11_siegeOf_19 (by decide) ?_
      refine lv_iload_n hx hb dX11_siegeOf_22 rfl (lv_at hl 2 rfl) ?_
      refine lv_iadd hx hb dX11_siegeOf_23 ?_
      refine lv_iload_n hx hb dX11_siegeOf_24 rfl (lv_at hl 1 rfl) ?_
      have c7 := h.1
      have h := h.2
      obtain ⟨u8, eu8⟩ : ∃ q : xM, q = si u 273 ((135 : Int32) + v2).toNatClampNeg v1 := ⟨_, rfl⟩
      have h := h u8 eu8
      refine x_iast C hw (xoM_273 hM) c7 dX11_siegeOf_25 eu8 (fun H locs hw => ?_)
      obtain ⟨x9, ex9⟩ : ∃ y : Int32, y = v2 + 1 := ⟨_, rfl⟩
      have h := h x9 ex9
      refine lv_iinc (v := x9) (lv' := [(2, .int x9), (0, .ref (xad g 272)), (1, .int v1)]) hx hb dX11_siegeOf_26 hl (k := 2) rfl (by rw [ex9]; rfl) (by decide) rfl (fun ls hl => ?_)
      refine lv_goto (tgt := 9) hx hb dX11_siegeOf_29 (by decide) ?_
      exact ih hw (lv_sub hl [1, 2, 0] rfl) h
set_option maxHeartbeats 4000000 in
set_option maxRecDepth 100000 in
theorem s_X11_siegeOf {Qf : Int32 → xM → Prop} {a1 : Int32} (C : x_C p s m args meth c g RX11 cX11_siegeOf 3 (some .int)) (hM : xpM g) {u : xM} {H : Heap} {locs : List Loc} {ls : Array Slot} (hw : x_W g s.heap H locs u) (hl : lv_has ls 3 [(0, .ref (xad g 272)), (1, .int a1)]) (h : p_X11_siegeOf a1 u Qf) : W p l e (x_rm 9 199) s m args below meth c H locs 0 0 (MQ below (x_Qi g Qf) args s 0 0 (x_A g)) (F0 m 0 ls []) := by
  unfold p_X11_siegeOf at h
  have hx := C.1
  have hb := C.2.1
  refine lv_aload_n hx hb dX11_siegeOf_0 rfl (lv_at hl 0 rfl) ?_
  refine lv_sipush (v := 3144) hx hb dX11_siegeOf_1 (by decide) ?_
  refine x_callv hw (x_runV (ci := 11) C hw (m_X11_keeps l C.2.2.2.2.2.2.2.2.1 hM h) (xoM_272 hM) rfl (x_gV xw_1342 xw_1343 xw_1344 xw_5 xw_1345) rfl rfl qX11_keeps ⟨(Nat.le_of_ble_eq_true rfl), (Nat.le_of_ble_eq_true rfl)⟩ rfl hl.1 rfl (Nat.le_of_ble_eq_true rfl) dX11_siegeOf_4) (fun u1 H locs hw h => ?_)
  refine lv_iconst (v := 0) hx hb dX11_siegeOf_7 (by decide) ?_
  refine lv_istore_n (lv' := [(2, .int 0), (0, .ref (xad g 272)), (1, .int a1)]) hx hb dX11_siegeOf_8 rfl hl (by decide) rfl (fun ls hl => ?_)
  obtain ⟨n9, h⟩ := h
  exact s_X11_siegeOf_L9 C hM n9 hw (lv_sub hl [1, 2, 0] rfl) h
set_option maxHeartbeats 4000000 in
set_option maxRecDepth 100000 in
theorem m_X11_siegeOf (l : Launch) {g : xG} (hD : x_D g) (hM : xpM g) {a1 : Int32} {u : xM} {Qf : Int32 → xM → Prop} (h : p_X11_siegeOf a1 u Qf) : Met l yX11_siegeOf (Cond.code yX11_siegeOf cX11_siegeOf 3 (some .int) :: wsL_law) (x_rm 9 199) (va_Pc [.ref (xad g 272), .int a1] (x_B g u)) (x_Qi g Qf) 0 0 (x_A g) := by
  refine Met.ofW (cc := cX11_siegeOf) (maxL := 3) (ret := (some .int)) (by decide) rfl ?_
  intro p e s m args below meth c s₁ B hml hv
  obtain ⟨rfl, hB⟩ := hv
  obtain ⟨C, hw⟩ := x_start B hml hD hB
  have hl := lv_entry [.ref (xad g 272), .int a1] (n := 3) (Nat.le_of_ble_eq_true rfl)
  rw [lg_entry_eq]
  exact s_X11_siegeOf C hM hw hl h
set_option maxHeartbeats 4000000 in
set_option maxRecDepth 100000 in
theorem s_X11_siege {Qf : Int32 → xM → Prop} {a1 : Int32} (C : x_C p s m args meth c g RX11 cX11_siege 2 (some .int)) (hM : xpM g) {u : xM} {H : Heap} {locs : List Loc} {ls : Array Slot} (hw : x_W g s.heap H locs u) (hl : lv_has ls 2 [(0, .ref (xad g 272)), (1, .int a1)]) (h : p_X11_siege a1 u Qf) : W p l e (x_rm 10 221) s m args below meth c H locs 0 0 (MQ below (x_Qi g Qf) args s 0 0 (x_A g)) (F0 m 0 ls []) := by
  unfold p_X11_siege at h
  have hx := C.1
  have hb := C.2.1
  refine lv_iload_n hx hb dX11_siege_0 rfl (lv_at hl 1 rfl) ?_
  refine lv_i2l hx hb dX11_siege_1 rfl ?_
  refine lv_lconst (v := 0) hx hb dX11_siege_2 (by decide) ?_
  refine lv_ldc2 (v := 99) hx hb C.2.2.2.1 (C.2.2.2.2.1 _ xw_1196) dX11_siege_3 ?_
  refine x_callz hw (x_runS C hw (m_X11_isFrom l C.2.2.2.2.2.2.2.2.1  h) (x_gS xw_1197 xw_1198 xw_5 xw_1199) rfl rfl qX11_isFrom ⟨(Nat.le_of_ble_eq_true rfl), (Nat.le_of_ble_eq_true rfl)⟩ rfl hl.1 rfl (Nat.le_of_ble_eq_true rfl) dX11_siege_6) (fun r2 u1 H locs hw h => ?_)
  refine lv_if_eq (tgt := 24) hx hb dX11_siege_9 (by decide) (fun c3 => ?_) (fun c3 => ?_)
  · have h := h.1 (xb_f c3)
    refine lv_aload_n hx hb dX11_siege_24 rfl (lv_at hl 0 rfl) ?_
    refine lv_iconst (v := 1) hx hb dX11_siege_25 (by decide) ?_
    refine x_calli hw (x_runV (ci := 11) C hw (m_X11_refuse l C.2.2.2.2.2.2.2.2.1 hM h) (xoM_272 hM) rfl (x_gV xw_657 xw_658 xw_659 xw_5 xw_660) rfl rfl qX11_refuse ⟨(Nat.le_of_ble_eq_true rfl), (Nat.le_of_ble_eq_true rfl)⟩ rfl hl.1 rfl (Nat.le_of_ble_eq_true rfl) dX11_siege_26) (fun r5 u4 H locs hw h => ?_)
    exact x_iret C hw h dX11_siege_29
  · have h := h.2 (xb_t c3)
    refine lv_aload_n hx hb dX11_siege_12 rfl (lv_at hl 0 rfl) ?_
    refine lv_aload_n hx hb dX11_siege_13 rfl (lv_at hl 0 rfl) ?_
    refine lv_iload_n hx hb dX11_siege_14 rfl (lv_at hl 1 rfl) ?_
    refine x_calli hw (x_runV (ci := 11) C hw (m_X11_siegeOf l C.2.2.2.2.2.2.2.2.1 hM h) (xoM_272 hM) rfl (x_gV xw_1535 xw_1536 xw_1537 xw_5 xw_1538) rfl rfl qX11_siegeOf ⟨(Nat.le_of_ble_eq_true rfl), (Nat.le_of_ble_eq_true rfl)⟩ rfl hl.1 rfl (Nat.le_of_ble_eq_true rfl) dX11_siege_15) (fun r7 u6 H locs hw h => ?_)
    refine x_calli hw (x_runV (ci := 11) C hw (m_X11_gives l C.2.2.2.2.2.2.2.2.1 hM h) (xoM_272 hM) rfl (x_gV xw_731 xw_732 xw_733 xw_5 xw_734) rfl rfl qX11_gives ⟨(Nat.le_of_ble_eq_true rfl), (Nat.le_of_ble_eq_true rfl)⟩ rfl hl.1 rfl (Nat.le_of_ble_eq_true rfl) dX11_siege_18) (fun r9 u8 H locs hw h => ?_)
    refine lv_goto (tgt := 29) hx hb dX11_siege_21 (by decide) ?_
    exact x_iret C hw h dX11_siege_29
set_option maxHeartbeats 4000000 in
set_option maxRecDepth 100000 in
theorem m_X11_siege (l : Launch) {g : xG} (hD : x_D g) (hM : xpM g) {a1 : Int32} {u : xM} {Qf : Int32 → xM → Prop} (h : p_X11_siege a1 u Qf) : Met l yX11_siege (Cond.code yX11_siege cX11_siege 2 (some .int) :: wsL_law) (x_rm 10 221) (va_Pc [.ref (xad g 272), .int a1] (x_B g u)) (x_Qi g Qf) 0 0 (x_A g) := by
  refine Met.ofW (cc := cX11_siege) (maxL := 2) (ret := (some .int)) (by decide) rfl ?_
  intro p e s m args below meth c s₁ B hml hv
  obtain ⟨rfl, hB⟩ := hv
  obtain ⟨C, hw⟩ := x_start B hml hD hB
  have hl := lv_entry [.ref (xad g 272), .int a1] (n := 2) (Nat.le_of_ble_eq_true rfl)
  rw [lg_entry_eq]
  exact s_X11_siege C hM hw hl h
set_option maxHeartbeats 4000000 in
set_option maxRecDepth 100000 in
theorem s_X11_borne_L26 {Qf : Int32 → xM → Prop} (C : x_C p s m args meth c g RX11 cX11_borne 2 (some .int)) (hM : xpM g) {v1 : Int32} {u : xM} {H : Heap} {locs : List Loc} {ls : Array Slot} (hw : x_W g s.heap H locs u) (hl : lv_has ls 2 [(0, .ref (xad g 272)), (1, .int v1)]) (h : p_X11_borne_L26 Qf v1 u) : W p l e (x_rm 10 221) s m args below meth c H locs 0 0 (MQ below (x_Qi g Qf) args s 0 0 (x_A g)) (F0 m 26 ls []) := by
  unfold p_X11_borne_L26 at h
  have hx := C.1
  have hb := C.2.1
  refine lv_iload_n hx hb dX11_borne_26 rfl (lv_at hl 1 rfl) ?_
  refine lv_if_ge (tgt := 39) hx hb dX11_borne_27 (by decide) (fun c1 => ?_) (fun c1 => ?_)
  · have h := h.1 c1
    refine lv_aload_n hx hb dX11_borne_39 rfl (lv_at hl 0 rfl) ?_
    refine lv_iload_n hx hb dX11_borne_40 rfl (lv_at hl 1 rfl) ?_
    refine x_calli hw (x_runV (ci := 11) C hw (m_X11_gives l C.2.2.2.2.2.2.2.2.1 hM h) (xoM_272 hM) rfl (x_gV xw_731 xw_732 xw_733 xw_5 xw_734) rfl rfl qX11_gives ⟨(Nat.le_of_ble_eq_true rfl), (Nat.le_of_ble_eq_true rfl)⟩ rfl hl.1 rfl (Nat.le_of_ble_eq_true rfl) dX11_borne_41) (fun r3 u2 H locs hw h => ?_)
    exact x_iret C hw h dX11_borne_44
  · have h := h.2 c1
    refine lv_aload_n hx hb dX11_borne_30 rfl (lv_at hl 0 rfl) ?_
    refine lv_bipush (v := 6) hx hb dX11_borne_31 (by decide) ?_
    refine x_calli hw (x_runV (ci := 11) C hw (m_X11_refuse l C.2.2.2.2.2.2.2.2.1 hM h) (xoM_272 hM) rfl (x_gV xw_657 xw_658 xw_659 xw_5 xw_660) rfl rfl qX11_refuse ⟨(Nat.le_of_ble_eq_true rfl), (Nat.le_of_ble_eq_true rfl)⟩ rfl hl.1 rfl (Nat.le_of_ble_eq_true rfl) dX11_borne_33) (fun r5 u4 H locs hw h => ?_)
    refine lv_goto (tgt := 44) hx hb dX11_borne_36 (by decide) ?_
    exact x_iret C hw h dX11_borne_44
set_option maxHeartbeats 4000000 in
set_option maxRecDepth 100000 in
theorem s_X11_borne_L3 {Qf : Int32 → xM → Prop} (C : x_C p s m args meth c g RX11 cX11_borne 2 (some .int)) (hM : xpM g) : ∀ (nn : Nat) {v1 : Int32} {u : xM} {H : Heap} {locs : List Loc} {ls : Array Slot} (hw : x_W g s.heap H locs u) (hl : lv_has ls 2 [(0, .ref (xad g 272)), (1, .int v1)]) (h : p_X11_borne_L3 Qf nn v1 u), W p l e (x_rm 10 221) s m args below meth c H locs 0 0 (MQ below (x_Qi g Qf) args s 0 0 (x_A g)) (F0 m 3 ls []) := by
  intro nn
  induction nn with
  | zero => intro v1 u H locs ls hw hl h; exact h.elim
  | succ nn ih =>
    intro v1 u H locs ls hw hl h
    unfold p_X11_borne_L3 at h
    have hx := C.1
    have hb := C.2.1
    refine lv_iload_n hx hb dX11_borne_3 rfl (lv_at hl 1 rfl) ?_
    refine lv_if_lt (tgt := 26) hx hb dX11_borne_4 (by decide) (fun c1 => ?_) (fun c1 => ?_)
    · have h := h.1 c1
      exact s_X11_borne_L26 C hM hw (lv_sub hl [0, 1] rfl) h
    · have h := h.2 c1
      refine lv_aload_n hx hb dX11_borne_7 rfl (lv_at hl 0 rfl) ?_
      refine lv_iload_n hx hb dX11_borne_8 rfl (lv_at hl 1 rfl) ?_
      refine x_calli hw (x_runV (ci := 11) C hw (m_X11_siegeOf l C.2.2.2.2.2.2.2.2.1 hM h) (xoM_272 hM) rfl (x_gV xw_1535 xw_1536 xw_1537 xw_5 xw_1538) rfl rfl qX11_siegeOf ⟨(Nat.le_of_ble_eq_true rfl), (Nat.le_of_ble_eq_true rfl)⟩ rfl hl.1 rfl (Nat.le_of_ble_eq_true rfl) dX11_borne_9) (fun r3 u2 H locs hw h => ?_)
      refine lv_aload_n hx hb dX11_borne_12 rfl (lv_at hl 0 rfl) ?_
      refine lv_iconst (v := 1) hx hb dX11_borne_13 (by decide) ?_
      refine x_calli hw (x_runV (ci := 11) C hw (m_X11_setOf l C.2.2.2.2.2.2.2.2.1 hM h) (xoM_272 hM) rfl (x_gV xw_899 xw_900 xw_901 xw_5 xw_902) rfl rfl qX11_setOf ⟨(Nat.le_of_ble_eq_true rfl), (Nat.le_of_ble_eq_true rfl)⟩ rfl hl.1 rfl (Nat.le_of_ble_eq_true rfl) dX11_borne_14) (fun r5 u4 H locs hw h => ?_)
      refine lv_icmp_eq (tgt := 26) hx hb dX11_borne_17 (by decide) (fun c6 => ?_) (fun c6 => ?_)
      · have h := h.1 c6
        exact s_X11_borne_L26 C hM hw (lv_sub hl [0, 1] rfl) h
      · have h := h.2 c6
        obtain ⟨x7, ex7⟩ : ∃ y : Int32, y = v1 + (-1) := ⟨_, rfl⟩
        have h := h x7 ex7
        refine lv_iinc (v := x7) (lv' := [(1, .int x7), (0, .ref (xad g 272))]) hx hb dX11_borne_20 hl (k := 1) rfl (by rw [ex7]; rfl) (by decide) rfl (fun ls hl => ?_)
        refine lv_goto (tgt := 3) hx hb dX11_borne_23 (by decide) ?_
        exact ih hw (lv_sub hl [1, 0] rfl) h
set_option maxHeartbeats 4000000 in
set_option maxRecDepth 100000 in
theorem s_X11_borne {Qf : Int32 → xM → Prop} (C : x_C p s m args meth c g RX11 cX11_borne 2 (some .int)) (hM : xpM g) {u : xM} {H : Heap} {locs : List Loc} {ls : Array Slot} (hw : x_W g s.heap H locs u) (hl : lv_has ls 2 [(0, .ref (xad g 272))]) (h : p_X11_borne  u Qf) : W p l e (x_rm 10 221) s m args below meth c H locs 0 0 (MQ below (x_Qi g Qf) args s 0 0 (x_A g)) (F0 m 0 ls []) := by
  unfold p_X11_borne at h
  have hx := C.1
  have hb := C.2.1
  refine lv_bipush (v := 99) hx hb dX11_borne_0 (by decide) ?_
  refine lv_istore_n (lv' := [(1, .int 99), (0, .ref (xad g 272))]) hx hb dX11_borne_2 rfl hl (by decide) rfl (fun ls hl => ?_)
  obtain ⟨n9, h⟩ := h
  exact s_X11_borne_L3 C hM n9 hw (lv_sub hl [1, 0] rfl) h
set_option maxHeartbeats 4000000 in
set_option maxRecDepth 100000 in
theorem m_X11_borne (l : Launch) {g : xG} (hD : x_D g) (hM : xpM g) {u : xM} {Qf : Int32 → xM → Prop} (h : p_X11_borne  u Qf) : Met l yX11_borne (Cond.code yX11_borne cX11_borne 2 (some .int) :: wsL_law) (x_rm 10 221) (va_Pc [.ref (xad g 272)] (x_B g u)) (x_Qi g Qf) 0 0 (x_A g) := by
  refine Met.ofW (cc := cX11_borne) (maxL := 2) (ret := (some .int)) (by decide) rfl ?_
  intro p e s m args below meth c s₁ B hml hv
  obtain ⟨rfl, hB⟩ := hv
  obtain ⟨C, hw⟩ := x_start B hml hD hB
  have hl := lv_entry [.ref (xad g 272)] (n := 2) (Nat.le_of_ble_eq_true rfl)
  rw [lg_entry_eq]
  exact s_X11_borne C hM hw hl h
set_option maxHeartbeats 4000000 in
set_option maxRecDepth 100000 in
theorem s_X11_keepOf_L48 {Qf : Int32 → xM → Prop} {K11 : Int32 → Int32 → Int32 → Int32 → xM → Prop} (C : x_C p s m args meth c g RX11 cX11_keepOf 5 (some .int)) (hM : xpM g) (hK11 : ∀ {v1 : Int32} {v2 : Int32} {v3 : Int32} {v4 : Int32} {u : xM} {H : Heap} {locs : List Loc} {ls : Array Slot}, x_W g s.heap H locs u → lv_has ls 5 [(0, .ref (xad g 272)), (1, .int v1), (2, .int v2), (3, .int v3), (4, .int v4)] → K11 v1 v2 v3 v4 u → W p l e (x_rm 4 86) s m args below meth c H locs 0 0 (MQ below (x_Qi g Qf) args s 0 0 (x_A g)) (F0 m 11 ls [])) {v1 : Int32} {v2 : Int32} {v3 : Int32} {v4 : Int32} {u : xM} {H : Heap} {locs : List Loc} {ls : Array Slot} (hw : x_W g s.heap H locs u) (hl : lv_has ls 5 [(0, .ref (xad g 272)), (1, .int v1), (2, .int v2), (3, .int v3), (4, .int v4)]) (h : p_X11_keepOf_L48 Qf K11 v1 v2 v3 v4 u) : W p l e (x_rm 4 86) s m args below meth c H locs 0 0 (MQ below (x_Qi g Qf) args s 0 0 (x_A g)) (F0 m 48 ls []) := by
  unfold p_X11_keepOf_L48 at h
  have hx := C.1
  have hb := C.2.1
  refine lv_aload_n hx hb dX11_keepOf_48 rfl (lv_at hl 0 rfl) ?_
  refine lv_aload_n hx hb dX11_keepOf_49 rfl (lv_at hl 0 rfl) ?_
  refine lv_sipush (v := 128) hx hb dX11_keepOf_50 (by decide) ?_
  refine lv_iload_n hx hb dX11_keepOf_53 rfl (lv_at hl 2 rfl) ?_
  refine lv_iload hx hb dX11_keepOf_54 (lv_at hl 4 rfl) ?_
  refine lv_ior hx hb dX11_keepOf_56 ?_
  refine lv_iconst (v := 1) hx hb dX11_keepOf_57 (by decide) ?_
  refine x_calli hw (x_runV (ci := 11) C hw (m_X11_linkedFrom l C.2.2.2.2.2.2.2.2.1 hM h) (xoM_272 hM) rfl (x_gV xw_1152 xw_1153 xw_1154 xw_5 xw_1155) rfl rfl qX11_linkedFrom ⟨(Nat.le_of_ble_eq_true rfl), (Nat.le_of_ble_eq_true rfl)⟩ rfl hl.1 rfl (Nat.le_of_ble_eq_true rfl) dX11_keepOf_58) (fun r2 u1 H locs hw h => ?_)
  refine lv_iload_n hx hb dX11_keepOf_61 rfl (lv_at hl 1 rfl) ?_
  refine x_callz hw (x_runV (ci := 11) C hw (m_X11_isIn l C.2.2.2.2.2.2.2.2.1 hM h) (xoM_272 hM) rfl (x_gV xw_918 xw_919 xw_920 xw_5 xw_921) rfl rfl qX11_isIn ⟨(Nat.le_of_ble_eq_true rfl), (Nat.le_of_ble_eq_true rfl)⟩ rfl hl.1 rfl (Nat.le_of_ble_eq_true rfl) dX11_keepOf_62) (fun r4 u3 H locs hw h => ?_)
  refine lv_if_ne (tgt := 71) hx hb dX11_keepOf_65 (by decide) (fun c5 => ?_) (fun c5 => ?_)
  · have h := h.1 (xb_t c5)
    obtain ⟨x6, ex6⟩ : ∃ y : Int32, y = v4 + 1 := ⟨_, rfl⟩
    have h := h x6 ex6
    refine lv_iinc (v := x6) (lv' := [(4, .int x6), (0, .ref (xad g 272)), (1, .int v1), (2, .int v2), (3, .int v3)]) hx hb dX11_keepOf_71 hl (k := 4) rfl (by rw [ex6]; rfl) (by decide) rfl (fun ls hl => ?_)
    refine lv_goto (tgt := 11) hx hb dX11_keepOf_74 (by decide) ?_
    exact hK11 hw (lv_sub hl [1, 2, 3, 4, 0] rfl) h
  · have h := h.2 (xb_f c5)
    refine lv_iload hx hb dX11_keepOf_68 (lv_at hl 4 rfl) ?_
    refine lv_istore_n (lv' := [(3, .int v4), (0, .ref (xad g 272)), (1, .int v1), (2, .int v2), (4, .int v4)]) hx hb dX11_keepOf_70 rfl hl (by decide) rfl (fun ls hl => ?_)
    obtain ⟨x7, ex7⟩ : ∃ y : Int32, y = v4 + 1 := ⟨_, rfl⟩
    have h := h x7 ex7
    refine lv_iinc (v := x7) (lv' := [(4, .int x7), (3, .int v4), (0, .ref (xad g 272)), (1, .int v1), (2, .int v2)]) hx hb dX11_keepOf_71 hl (k := 4) rfl (by rw [ex7]; rfl) (by decide) rfl (fun ls hl => ?_)
    refine lv_goto (tgt := 11) hx hb dX11_keepOf_74 (by decide) ?_
    exact hK11 hw (lv_sub hl [2, 3, 4, 1, 0] rfl) h
set_option maxHeartbeats 4000000 in
set_option maxRecDepth 100000 in
theorem s_X11_keepOf_L11 {Qf : Int32 → xM → Prop} (C : x_C p s m args meth c g RX11 cX11_keepOf 5 (some .int)) (hM : xpM g) : ∀ (nn : Nat) {v1 : Int32} {v2 : Int32} {v3 : Int32} {v4 : Int32} {u : xM} {H : Heap} {locs : List Loc} {ls : Array Slot} (hw : x_W g s.heap H locs u) (hl : lv_has ls 5 [(0, .ref (xad g 272)), (1, .int v1), (2, .int v2), (3, .int v3), (4, .int v4)]) (h : p_X11_keepOf_L11 Qf nn v1 v2 v3 v4 u), W p l e (x_rm 4 86) s m args below meth c H locs 0 0 (MQ below (x_Qi g Qf) args s 0 0 (x_A g)) (F0 m 11 ls []) := by
  intro nn
  induction nn with
  | zero => intro v1 v2 v3 v4 u H locs ls hw hl h; exact h.elim
  | succ nn ih =>
    intro v1 v2 v3 v4 u H locs ls hw hl h
    unfold p_X11_keepOf_L11 at h
    have hx := C.1
    have hb := C.2.1
    refine lv_iload hx hb dX11_keepOf_11 (lv_at hl 4 rfl) ?_
    refine lv_iconst (v := 1) hx hb dX11_keepOf_13 (by decide) ?_
    refine lv_aload_n hx hb dX11_keepOf_14 rfl (lv_at hl 0 rfl) ?_
    refine x_getr (ci := 11) C hw 0 (xoM_272 hM) rfl inlX11 (by decide) rfl rfl xrM_272_0 xw_219 dX11_keepOf_15 ?_
    refine lv_iconst (v := 1) hx hb dX11_keepOf_18 (by decide) ?_
    have c1 := h.1
    have h := h.2
    refine x_iald C hw (xoM_273 hM) c1 dX11_keepOf_19 ?_
    refine lv_ishl hx hb dX11_keepOf_20 ?_
    refine lv_icmp_ge (tgt := 77) hx hb dX11_keepOf_21 (by decide) (fun c2 => ?_) (fun c2 => ?_)
    · have h := h.1 c2
      refine lv_iload_n hx hb dX11_keepOf_77 rfl (lv_at hl 3 rfl) ?_
      exact x_iret C hw h dX11_keepOf_78
    · have h := h.2 c2
      refine lv_iload hx hb dX11_keepOf_24 (lv_at hl 4 rfl) ?_
      refine lv_iload_n hx hb dX11_keepOf_26 rfl (lv_at hl 2 rfl) ?_
      refine lv_iand hx hb dX11_keepOf_27 ?_
      refine lv_if_ne (tgt := 71) hx hb dX11_keepOf_28 (by decide) (fun c3 => ?_) (fun c3 => ?_)
      · have h := h.1 c3
        obtain ⟨x4, ex4⟩ : ∃ y : Int32, y = v4 + 1 := ⟨_, rfl⟩
        have h := h x4 ex4
        refine lv_iinc (v := x4) (lv' := [(4, .int x4), (0, .ref (xad g 272)), (1, .int v1), (2, .int v2), (3, .int v3)]) hx hb dX11_keepOf_71 hl (k := 4) rfl (by rw [ex4]; rfl) (by decide) rfl (fun ls hl => ?_)
        refine lv_goto (tgt := 11) hx hb dX11_keepOf_74 (by decide) ?_
        exact ih hw (lv_sub hl [1, 2, 3, 4, 0] rfl) h
      · have h := h.2 c3
        refine lv_iload_n hx hb dX11_keepOf_31 rfl (lv_at hl 3 rfl) ?_
        refine lv_iconst (v := -1) hx hb dX11_keepOf_32 (by decide) ?_
        refine lv_icmp_eq (tgt := 48) hx hb dX11_keepOf_33 (by decide) (fun c5 => ?_) (fun c5 => ?_)
        · have h := h.1 c5
          exact s_X11_keepOf_L48 C hM (fun hw hl h => ih hw hl h) hw (lv_sub hl [0, 1, 2, 3, 4] rfl) h
        · have h := h.2 c5
          refine lv_iload hx hb dX11_keepOf_36 (lv_at hl 4 rfl) ?_
          refine x_calli hw (x_runS C hw (m_X11_bits l C.2.2.2.2.2.2.2.2.1  h) (x_gS xw_1320 xw_1321 xw_5 xw_1322) rfl rfl qX11_bits ⟨(Nat.le_of_ble_eq_true rfl), (Nat.le_of_ble_eq_true rfl)⟩ rfl hl.1 rfl (Nat.le_of_ble_eq_true rfl) dX11_keepOf_38) (fun r7 u6 H locs hw h => ?_)
          refine lv_iload_n hx hb dX11_keepOf_41 rfl (lv_at hl 3 rfl) ?_
          refine x_calli hw (x_runS C hw (m_X11_bits l C.2.2.2.2.2.2.2.2.1  h) (x_gS xw_1320 xw_1321 xw_5 xw_1322) rfl rfl qX11_bits ⟨(Nat.le_of_ble_eq_true rfl), (Nat.le_of_ble_eq_true rfl)⟩ rfl hl.1 rfl (Nat.le_of_ble_eq_true rfl) dX11_keepOf_42) (fun r9 u8 H locs hw h => ?_)
          refine lv_icmp_ge (tgt := 71) hx hb dX11_keepOf_45 (by decide) (fun c10 => ?_) (fun c10 => ?_)
          · have h := h.1 c10
            obtain ⟨x11, ex11⟩ : ∃ y : Int32, y = v4 + 1 := ⟨_, rfl⟩
            have h := h x11 ex11
            refine lv_iinc (v := x11) (lv' := [(4, .int x11), (0, .ref (xad g 272)), (1, .int v1), (2, .int v2), (3, .int v3)]) hx hb dX11_keepOf_71 hl (k := 4) rfl (by rw [ex11]; rfl) (by decide) rfl (fun ls hl => ?_)
            refine lv_goto (tgt := 11) hx hb dX11_keepOf_74 (by decide) ?_
            exact ih hw (lv_sub hl [1, 2, 3, 4, 0] rfl) h
          · have h := h.2 c10
            exact s_X11_keepOf_L48 C hM (fun hw hl h => ih hw hl h) hw (lv_sub hl [0, 1, 2, 3, 4] rfl) h
set_option maxHeartbeats 4000000 in
set_option maxRecDepth 100000 in
theorem s_X11_keepOf {Qf : Int32 → xM → Prop} {a1 : Int32} (C : x_C p s m args meth c g RX11 cX11_keepOf 5 (some .int)) (hM : xpM g) {u : xM} {H : Heap} {locs : List Loc} {ls : Array Slot} (hw : x_W g s.heap H locs u) (hl : lv_has ls 5 [(0, .ref (xad g 272)), (1, .int a1)]) (h : p_X11_keepOf a1 u Qf) : W p l e (x_rm 4 86) s m args below meth c H locs 0 0 (MQ below (x_Qi g Qf) args s 0 0 (x_A g)) (F0 m 0 ls []) := by
  unfold p_X11_keepOf at h
  have hx := C.1
  have hb := C.2.1
  refine lv_aload_n hx hb dX11_keepOf_0 rfl (lv_at hl 0 rfl) ?_
  refine lv_iconst (v := 4) hx hb dX11_keepOf_1 (by decide) ?_
  refine x_calli hw (x_runV (ci := 11) C hw (m_X11_setOf l C.2.2.2.2.2.2.2.2.1 hM h) (xoM_272 hM) rfl (x_gV xw_899 xw_900 xw_901 xw_5 xw_902) rfl rfl qX11_setOf ⟨(Nat.le_of_ble_eq_true rfl), (Nat.le_of_ble_eq_true rfl)⟩ rfl hl.1 rfl (Nat.le_of_ble_eq_true rfl) dX11_keepOf_2) (fun r2 u1 H locs hw h => ?_)
  refine lv_istore_n (lv' := [(2, .int r2), (0, .ref (xad g 272)), (1, .int a1)]) hx hb dX11_keepOf_5 rfl hl (by decide) rfl (fun ls hl => ?_)
  refine lv_iconst (v := -1) hx hb dX11_keepOf_6 (by decide) ?_
  refine lv_istore_n (lv' := [(3, .int (-1)), (2, .int r2), (0, .ref (xad g 272)), (1, .int a1)]) hx hb dX11_keepOf_7 rfl hl (by decide) rfl (fun ls hl => ?_)
  refine lv_iconst (v := 0) hx hb dX11_keepOf_8 (by decide) ?_
  refine lv_istore (lv' := [(4, .int 0), (3, .int (-1)), (2, .int r2), (0, .ref (xad g 272)), (1, .int a1)]) hx hb dX11_keepOf_9 hl (by decide) rfl (fun ls hl => ?_)
  obtain ⟨n9, h⟩ := h
  exact s_X11_keepOf_L11 C hM n9 hw (lv_sub hl [3, 4, 2, 1, 0] rfl) h
set_option maxHeartbeats 4000000 in
set_option maxRecDepth 100000 in
theorem m_X11_keepOf (l : Launch) {g : xG} (hD : x_D g) (hM : xpM g) {a1 : Int32} {u : xM} {Qf : Int32 → xM → Prop} (h : p_X11_keepOf a1 u Qf) : Met l yX11_keepOf (Cond.code yX11_keepOf cX11_keepOf 5 (some .int) :: wsL_law) (x_rm 4 86) (va_Pc [.ref (xad g 272), .int a1] (x_B g u)) (x_Qi g Qf) 0 0 (x_A g) := by
  refine Met.ofW (cc := cX11_keepOf) (maxL := 5) (ret := (some .int)) (by decide) rfl ?_
  intro p e s m args below meth c s₁ B hml hv
  obtain ⟨rfl, hB⟩ := hv
  obtain ⟨C, hw⟩ := x_start B hml hD hB
  have hl := lv_entry [.ref (xad g 272), .int a1] (n := 5) (Nat.le_of_ble_eq_true rfl)
  rw [lg_entry_eq]
  exact s_X11_keepOf C hM hw hl h
set_option maxHeartbeats 4000000 in
set_option maxRecDepth 100000 in
theorem s_X11_keep {Qf : Int32 → xM → Prop} {a1 : Int32} (C : x_C p s m args meth c g RX11 cX11_keep 2 (some .int)) (hM : xpM g) {u : xM} {H : Heap} {locs : List Loc} {ls : Array Slot} (hw : x_W g s.heap H locs u) (hl : lv_has ls 2 [(0, .ref (xad g 272)), (1, .int a1)]) (h : p_X11_keep a1 u Qf) : W p l e (x_rm 5 110) s m args below meth c H locs 0 0 (MQ below (x_Qi g Qf) args s 0 0 (x_A g)) (F0 m 0 ls []) := by
  unfold p_X11_keep at h
  have hx := C.1
  have hb := C.2.1
  refine lv_aload_n hx hb dX11_keep_0 rfl (lv_at hl 0 rfl) ?_
  refine lv_iload_n hx hb dX11_keep_1 rfl (lv_at hl 1 rfl) ?_
  refine x_callz hw (x_runV (ci := 11) C hw (m_X11_isRoom l C.2.2.2.2.2.2.2.2.1 hM h) (xoM_272 hM) rfl (x_gV xw_945 xw_946 xw_947 xw_5 xw_948) rfl rfl qX11_isRoom ⟨(Nat.le_of_ble_eq_true rfl), (Nat.le_of_ble_eq_true rfl)⟩ rfl hl.1 rfl (Nat.le_of_ble_eq_true rfl) dX11_keep_2) (fun r2 u1 H locs hw h => ?_)
  refine lv_if_eq (tgt := 23) hx hb dX11_keep_5 (by decide) (fun c3 => ?_) (fun c3 => ?_)
  · have h := h.1 (xb_f c3)
    refine lv_aload_n hx hb dX11_keep_23 rfl (lv_at hl 0 rfl) ?_
    refine lv_iconst (v := 1) hx hb dX11_keep_24 (by decide) ?_
    refine x_calli hw (x_runV (ci := 11) C hw (m_X11_refuse l C.2.2.2.2.2.2.2.2.1 hM h) (xoM_272 hM) rfl (x_gV xw_657 xw_658 xw_659 xw_5 xw_660) rfl rfl qX11_refuse ⟨(Nat.le_of_ble_eq_true rfl), (Nat.le_of_ble_eq_true rfl)⟩ rfl hl.1 rfl (Nat.le_of_ble_eq_true rfl) dX11_keep_25) (fun r5 u4 H locs hw h => ?_)
    exact x_iret C hw h dX11_keep_28
  · have h := h.2 (xb_t c3)
    refine lv_aload_n hx hb dX11_keep_8 rfl (lv_at hl 0 rfl) ?_
    refine lv_aload_n hx hb dX11_keep_9 rfl (lv_at hl 0 rfl) ?_
    refine lv_iload_n hx hb dX11_keep_10 rfl (lv_at hl 1 rfl) ?_
    refine x_calli hw (x_runV (ci := 11) C hw (m_X11_keepOf l C.2.2.2.2.2.2.2.2.1 hM h) (xoM_272 hM) rfl (x_gV xw_1562 xw_1563 xw_1564 xw_5 xw_1565) rfl rfl qX11_keepOf ⟨(Nat.le_of_ble_eq_true rfl), (Nat.le_of_ble_eq_true rfl)⟩ rfl hl.1 rfl (Nat.le_of_ble_eq_true rfl) dX11_keep_11) (fun r7 u6 H locs hw h => ?_)
    refine x_calli hw (x_runS C hw (m_X11_bits l C.2.2.2.2.2.2.2.2.1  h) (x_gS xw_1320 xw_1321 xw_5 xw_1322) rfl rfl qX11_bits ⟨(Nat.le_of_ble_eq_true rfl), (Nat.le_of_ble_eq_true rfl)⟩ rfl hl.1 rfl (Nat.le_of_ble_eq_true rfl) dX11_keep_14) (fun r9 u8 H locs hw h => ?_)
    refine x_calli hw (x_runV (ci := 11) C hw (m_X11_gives l C.2.2.2.2.2.2.2.2.1 hM h) (xoM_272 hM) rfl (x_gV xw_731 xw_732 xw_733 xw_5 xw_734) rfl rfl qX11_gives ⟨(Nat.le_of_ble_eq_true rfl), (Nat.le_of_ble_eq_true rfl)⟩ rfl hl.1 rfl (Nat.le_of_ble_eq_true rfl) dX11_keep_17) (fun r11 u10 H locs hw h => ?_)
    refine lv_goto (tgt := 28) hx hb dX11_keep_20 (by decide) ?_
    exact x_iret C hw h dX11_keep_28
set_option maxHeartbeats 4000000 in
set_option maxRecDepth 100000 in
theorem m_X11_keep (l : Launch) {g : xG} (hD : x_D g) (hM : xpM g) {a1 : Int32} {u : xM} {Qf : Int32 → xM → Prop} (h : p_X11_keep a1 u Qf) : Met l yX11_keep (Cond.code yX11_keep cX11_keep 2 (some .int) :: wsL_law) (x_rm 5 110) (va_Pc [.ref (xad g 272), .int a1] (x_B g u)) (x_Qi g Qf) 0 0 (x_A g) := by
  refine Met.ofW (cc := cX11_keep) (maxL := 2) (ret := (some .int)) (by decide) rfl ?_
  intro p e s m args below meth c s₁ B hml hv
  obtain ⟨rfl, hB⟩ := hv
  obtain ⟨C, hw⟩ := x_start B hml hD hB
  have hl := lv_entry [.ref (xad g 272), .int a1] (n := 2) (Nat.le_of_ble_eq_true rfl)
  rw [lg_entry_eq]
  exact s_X11_keep C hM hw hl h
set_option maxHeartbeats 4000000 in
set_option maxRecDepth 100000 in
theorem s_X11_keepSet {Qf : Int32 → xM → Prop} {a1 : Int32} (C : x_C p s m args meth c g RX11 cX11_keepSet 2 (some .int)) (hM : xpM g) {u : xM} {H : Heap} {locs : List Loc} {ls : Array Slot} (hw : x_W g s.heap H locs u) (hl : lv_has ls 2 [(0, .ref (xad g 272)), (1, .int a1)]) (h : p_X11_keepSet a1 u Qf) : W p l e (x_rm 5 110) s m args below meth c H locs 0 0 (MQ below (x_Qi g Qf) args s 0 0 (x_A g)) (F0 m 0 ls []) := by
  unfold p_X11_keepSet at h
  have hx := C.1
  have hb := C.2.1
  refine lv_aload_n hx hb dX11_keepSet_0 rfl (lv_at hl 0 rfl) ?_
  refine lv_iload_n hx hb dX11_keepSet_1 rfl (lv_at hl 1 rfl) ?_
  refine x_callz hw (x_runV (ci := 11) C hw (m_X11_isRoom l C.2.2.2.2.2.2.2.2.1 hM h) (xoM_272 hM) rfl (x_gV xw_945 xw_946 xw_947 xw_5 xw_948) rfl rfl qX11_isRoom ⟨(Nat.le_of_ble_eq_true rfl), (Nat.le_of_ble_eq_true rfl)⟩ rfl hl.1 rfl (Nat.le_of_ble_eq_true rfl) dX11_keepSet_2) (fun r2 u1 H locs hw h => ?_)
  refine lv_if_eq (tgt := 20) hx hb dX11_keepSet_5 (by decide) (fun c3 => ?_) (fun c3 => ?_)
  · have h := h.1 (xb_f c3)
    refine lv_aload_n hx hb dX11_keepSet_20 rfl (lv_at hl 0 rfl) ?_
    refine lv_iconst (v := 1) hx hb dX11_keepSet_21 (by decide) ?_
    refine x_calli hw (x_runV (ci := 11) C hw (m_X11_refuse l C.2.2.2.2.2.2.2.2.1 hM h) (xoM_272 hM) rfl (x_gV xw_657 xw_658 xw_659 xw_5 xw_660) rfl rfl qX11_refuse ⟨(Nat.le_of_ble_eq_true rfl), (Nat.le_of_ble_eq_true rfl)⟩ rfl hl.1 rfl (Nat.le_of_ble_eq_true rfl) dX11_keepSet_22) (fun r5 u4 H locs hw h => ?_)
    exact x_iret C hw h dX11_keepSet_25
  · have h := h.2 (xb_t c3)
    refine lv_aload_n hx hb dX11_keepSet_8 rfl (lv_at hl 0 rfl) ?_
    refine lv_aload_n hx hb dX11_keepSet_9 rfl (lv_at hl 0 rfl) ?_
    refine lv_iload_n hx hb dX11_keepSet_10 rfl (lv_at hl 1 rfl) ?_
    refine x_calli hw (x_runV (ci := 11) C hw (m_X11_keepOf l C.2.2.2.2.2.2.2.2.1 hM h) (xoM_272 hM) rfl (x_gV xw_1562 xw_1563 xw_1564 xw_5 xw_1565) rfl rfl qX11_keepOf ⟨(Nat.le_of_ble_eq_true rfl), (Nat.le_of_ble_eq_true rfl)⟩ rfl hl.1 rfl (Nat.le_of_ble_eq_true rfl) dX11_keepSet_11) (fun r7 u6 H locs hw h => ?_)
    refine x_calli hw (x_runV (ci := 11) C hw (m_X11_gives l C.2.2.2.2.2.2.2.2.1 hM h) (xoM_272 hM) rfl (x_gV xw_731 xw_732 xw_733 xw_5 xw_734) rfl rfl qX11_gives ⟨(Nat.le_of_ble_eq_true rfl), (Nat.le_of_ble_eq_true rfl)⟩ rfl hl.1 rfl (Nat.le_of_ble_eq_true rfl) dX11_keepSet_14) (fun r9 u8 H locs hw h => ?_)
    refine lv_goto (tgt := 25) hx hb dX11_keepSet_17 (by decide) ?_
    exact x_iret C hw h dX11_keepSet_25
set_option maxHeartbeats 4000000 in
set_option maxRecDepth 100000 in
theorem m_X11_keepSet (l : Launch) {g : xG} (hD : x_D g) (hM : xpM g) {a1 : Int32} {u : xM} {Qf : Int32 → xM → Prop} (h : p_X11_keepSet a1 u Qf) : Met l yX11_keepSet (Cond.code yX11_keepSet cX11_keepSet 2 (some .int) :: wsL_law) (x_rm 5 110) (va_Pc [.ref (xad g 272), .int a1] (x_B g u)) (x_Qi g Qf) 0 0 (x_A g) := by
  refine Met.ofW (cc := cX11_keepSet) (maxL := 2) (ret := (some .int)) (by decide) rfl ?_
  intro p e s m args below meth c s₁ B hml hv
  obtain ⟨rfl, hB⟩ := hv
  obtain ⟨C, hw⟩ := x_start B hml hD hB
  have hl := lv_entry [.ref (xad g 272), .int a1] (n := 2) (Nat.le_of_ble_eq_true rfl)
  rw [lg_entry_eq]
  exact s_X11_keepSet C hM hw hl h
set_option maxHeartbeats 4000000 in
set_option maxRecDepth 100000 in
theorem s_X11_errandOf {Qf : Int32 → xM → Prop} {a1 : Int32} {a2 : Int32} (C : x_C p s m args meth c g RX11 cX11_errandOf 3 (some .int)) (hM : xpM g) {u : xM} {H : Heap} {locs : List Loc} {ls : Array Slot} (hw : x_W g s.heap H locs u) (hl : lv_has ls 3 [(0, .ref (xad g 272)), (1, .int a1), (2, .int a2)]) (h : p_X11_errandOf a1 a2 u Qf) : W p l e (x_rm 0 0) s m args below meth c H locs 0 0 (MQ below (x_Qi g Qf) args s 0 0 (x_A g)) (F0 m 0 ls []) := by
  unfold p_X11_errandOf at h
  have hx := C.1
  have hb := C.2.1
  refine lv_aload_n hx hb dX11_errandOf_0 rfl (lv_at hl 0 rfl) ?_
  refine x_getr (ci := 11) C hw 0 (xoM_272 hM) rfl inlX11 (by decide) rfl rfl xrM_272_0 xw_219 dX11_errandOf_1 ?_
  refine lv_sipush (v := 147) hx hb dX11_errandOf_4 (by decide) ?_
  refine lv_iconst (v := 3) hx hb dX11_errandOf_7 (by decide) ?_
  refine lv_iload_n hx hb dX11_errandOf_8 rfl (lv_at hl 1 rfl) ?_
  refine lv_imul hx hb dX11_errandOf_9 ?_
  refine lv_iadd hx hb dX11_errandOf_10 ?_
  refine lv_iload_n hx hb dX11_errandOf_11 rfl (lv_at hl 2 rfl) ?_
  refine lv_iadd hx hb dX11_errandOf_12 ?_
  have c1 := h.1
  have h := h.2
  refine x_iald C hw (xoM_273 hM) c1 dX11_errandOf_13 ?_
  exact x_iret C hw h dX11_errandOf_14
set_option maxHeartbeats 4000000 in
set_option maxRecDepth 100000 in
theorem m_X11_errandOf (l : Launch) {g : xG} (hD : x_D g) (hM : xpM g) {a1 : Int32} {a2 : Int32} {u : xM} {Qf : Int32 → xM → Prop} (h : p_X11_errandOf a1 a2 u Qf) : Met l yX11_errandOf (Cond.code yX11_errandOf cX11_errandOf 3 (some .int) :: wsL_law) (x_rm 0 0) (va_Pc [.ref (xad g 272), .int a1, .int a2] (x_B g u)) (x_Qi g Qf) 0 0 (x_A g) := by
  refine Met.ofW (cc := cX11_errandOf) (maxL := 3) (ret := (some .int)) (by decide) rfl ?_
  intro p e s m args below meth c s₁ B hml hv
  obtain ⟨rfl, hB⟩ := hv
  obtain ⟨C, hw⟩ := x_start B hml hD hB
  have hl := lv_entry [.ref (xad g 272), .int a1, .int a2] (n := 3) (Nat.le_of_ble_eq_true rfl)
  rw [lg_entry_eq]
  exact s_X11_errandOf C hM hw hl h
set_option maxHeartbeats 4000000 in
set_option maxRecDepth 100000 in
theorem s_X11_hoursOn_L9 {Qf : Bool → xM → Prop} (C : x_C p s m args meth c g RX11 cX11_hoursOn 2 (some .boolean)) (hM : xpM g) : ∀ (nn : Nat) {v1 : Int32} {u : xM} {H : Heap} {locs : List Loc} {ls : Array Slot} (hw : x_W g s.heap H locs u) (hl : lv_has ls 2 [(0, .ref (xad g 272)), (1, .int v1)]) (h : p_X11_hoursOn_L9 Qf nn v1 u), W p l e (x_rm 1 22) s m args below meth c H locs 0 0 (MQ below (x_Qz g Qf) args s 0 0 (x_A g)) (F0 m 9 ls []) := by
  intro nn
  induction nn with
  | zero => intro v1 u H locs ls hw hl h; exact h.elim
  | succ nn ih =>
    intro v1 u H locs ls hw hl h
    unfold p_X11_hoursOn_L9 at h
    have hx := C.1
    have hb := C.2.1
    refine lv_iload_n hx hb dX11_hoursOn_9 rfl (lv_at hl 1 rfl) ?_
    refine lv_if_lt (tgt := 58) hx hb dX11_hoursOn_10 (by decide) (fun c1 => ?_) (fun c1 => ?_)
    · have h := h.1 c1
      refine lv_iconst (v := 0) hx hb dX11_hoursOn_58 (by decide) ?_
      exact x_zret false C hw h rfl dX11_hoursOn_59
    · have h := h.2 c1
      refine lv_aload_n hx hb dX11_hoursOn_13 rfl (lv_at hl 0 rfl) ?_
      refine x_getr (ci := 11) C hw 30 (xoM_272 hM) rfl inlX11 (by decide) rfl rfl xrM_272_30 xw_234 dX11_hoursOn_14 ?_
      refine lv_iload_n hx hb dX11_hoursOn_17 rfl (lv_at hl 1 rfl) ?_
      have c2 := h.1
      have h := h.2
      refine x_iald C hw (xoM_283 hM) c2 dX11_hoursOn_18 ?_
      refine lv_aload_n hx hb dX11_hoursOn_19 rfl (lv_at hl 0 rfl) ?_
      refine lv_iload_n hx hb dX11_hoursOn_20 rfl (lv_at hl 1 rfl) ?_
      refine lv_iconst (v := 2) hx hb dX11_hoursOn_21 (by decide) ?_
      refine x_calli hw (x_runV (ci := 11) C hw (m_X11_errandOf l C.2.2.2.2.2.2.2.2.1 hM h) (xoM_272 hM) rfl (x_gV xw_1647 xw_1648 xw_1649 xw_5 xw_1650) rfl rfl qX11_errandOf ⟨(Nat.le_of_ble_eq_true rfl), (Nat.le_of_ble_eq_true rfl)⟩ rfl hl.1 rfl (Nat.le_of_ble_eq_true rfl) dX11_hoursOn_22) (fun r4 u3 H locs hw h => ?_)
      refine lv_icmp_ge (tgt := 40) hx hb dX11_hoursOn_25 (by decide) (fun c5 => ?_) (fun c5 => ?_)
      · have h := h.1 c5
        refine lv_aload_n hx hb dX11_hoursOn_40 rfl (lv_at hl 0 rfl) ?_
        refine x_getr (ci := 11) C hw 30 (xoM_272 hM) rfl inlX11 (by decide) rfl rfl xrM_272_30 xw_234 dX11_hoursOn_41 ?_
        refine lv_iload_n hx hb dX11_hoursOn_44 rfl (lv_at hl 1 rfl) ?_
        refine lv_aload_n hx hb dX11_hoursOn_45 rfl (lv_at hl 0 rfl) ?_
        refine lv_iload_n hx hb dX11_hoursOn_46 rfl (lv_at hl 1 rfl) ?_
        refine lv_iconst (v := 1) hx hb dX11_hoursOn_47 (by decide) ?_
        refine x_calli hw (x_runV (ci := 11) C hw (m_X11_errandOf l C.2.2.2.2.2.2.2.2.1 hM h) (xoM_272 hM) rfl (x_gV xw_1647 xw_1648 xw_1649 xw_5 xw_1650) rfl rfl qX11_errandOf ⟨(Nat.le_of_ble_eq_true rfl), (Nat.le_of_ble_eq_true rfl)⟩ rfl hl.1 rfl (Nat.le_of_ble_eq_true rfl) dX11_hoursOn_48) (fun r7 u6 H locs hw h => ?_)
        have c8 := h.1
        have h := h.2
        obtain ⟨u9, eu9⟩ : ∃ q : xM, q = si u6 283 v1.toNatClampNeg r7 := ⟨_, rfl⟩
        have h := h u9 eu9
        refine x_iast C hw (xoM_283 hM) c8 dX11_hoursOn_51 eu9 (fun H locs hw => ?_)
        obtain ⟨x10, ex10⟩ : ∃ y : Int32, y = v1 + (-1) := ⟨_, rfl⟩
        have h := h x10 ex10
        refine lv_iinc (v := x10) (lv' := [(1, .int x10), (0, .ref (xad g 272))]) hx hb dX11_hoursOn_52 hl (k := 1) rfl (by rw [ex10]; rfl) (by decide) rfl (fun ls hl => ?_)
        refine lv_goto (tgt := 9) hx hb dX11_hoursOn_55 (by decide) ?_
        exact ih hw (lv_sub hl [1, 0] rfl) h
      · have h := h.2 c5
        refine lv_aload_n hx hb dX11_hoursOn_28 rfl (lv_at hl 0 rfl) ?_
        refine x_getr (ci := 11) C hw 30 (xoM_272 hM) rfl inlX11 (by decide) rfl rfl xrM_272_30 xw_234 dX11_hoursOn_29 ?_
        refine lv_iload_n hx hb dX11_hoursOn_32 rfl (lv_at hl 1 rfl) ?_
        refine lv_dup2_11 hx hb dX11_hoursOn_33 rfl rfl ?_
        have c11 := h.1
        have h := h.2
        refine x_iald C hw (xoM_283 hM) c11 dX11_hoursOn_34 ?_
        refine lv_iconst (v := 1) hx hb dX11_hoursOn_35 (by decide) ?_
        refine lv_iadd hx hb dX11_hoursOn_36 ?_
        have c12 := h.1
        have h := h.2
        obtain ⟨u13, eu13⟩ : ∃ q : xM, q = si u3 283 v1.toNatClampNeg ((gi u3 283 v1.toNatClampNeg) + (1 : Int32)) := ⟨_, rfl⟩
        have h := h u13 eu13
        refine x_iast C hw (xoM_283 hM) c12 dX11_hoursOn_37 eu13 (fun H locs hw => ?_)
        refine lv_iconst (v := 1) hx hb dX11_hoursOn_38 (by decide) ?_
        exact x_zret true C hw h rfl dX11_hoursOn_39
set_option maxHeartbeats 4000000 in
set_option maxRecDepth 100000 in
theorem s_X11_hoursOn {Qf : Bool → xM → Prop} (C : x_C p s m args meth c g RX11 cX11_hoursOn 2 (some .boolean)) (hM : xpM g) {u : xM} {H : Heap} {locs : List Loc} {ls : Array Slot} (hw : x_W g s.heap H locs u) (hl : lv_has ls 2 [(0, .ref (xad g 272))]) (h : p_X11_hoursOn  u Qf) : W p l e (x_rm 1 22) s m args below meth c H locs 0 0 (MQ below (x_Qz g Qf) args s 0 0 (x_A g)) (F0 m 0 ls []) := by
  unfold p_X11_hoursOn at h
  have hx := C.1
  have hb := C.2.1
  refine lv_aload_n hx hb dX11_hoursOn_0 rfl (lv_at hl 0 rfl) ?_
  refine x_getr (ci := 11) C hw 0 (xoM_272 hM) rfl inlX11 (by decide) rfl rfl xrM_272_0 xw_219 dX11_hoursOn_1 ?_
  refine lv_iconst (v := 2) hx hb dX11_hoursOn_4 (by decide) ?_
  have c1 := h.1
  have h := h.2
  refine x_iald C hw (xoM_273 hM) c1 dX11_hoursOn_5 ?_
  refine lv_iconst (v := 1) hx hb dX11_hoursOn_6 (by decide) ?_
  refine lv_isub hx hb dX11_hoursOn_7 ?_
  refine lv_topi (fun x2 ex2 => ?_)
  have h := h x2 ex2
  refine lv_istore_n (lv' := [(1, .int x2), (0, .ref (xad g 272))]) hx hb dX11_hoursOn_8 rfl hl (by decide) rfl (fun ls hl => ?_)
  obtain ⟨n9, h⟩ := h
  exact s_X11_hoursOn_L9 C hM n9 hw (lv_sub hl [1, 0] rfl) h
set_option maxHeartbeats 4000000 in
set_option maxRecDepth 100000 in
theorem m_X11_hoursOn (l : Launch) {g : xG} (hD : x_D g) (hM : xpM g) {u : xM} {Qf : Bool → xM → Prop} (h : p_X11_hoursOn  u Qf) : Met l yX11_hoursOn (Cond.code yX11_hoursOn cX11_hoursOn 2 (some .boolean) :: wsL_law) (x_rm 1 22) (va_Pc [.ref (xad g 272)] (x_B g u)) (x_Qz g Qf) 0 0 (x_A g) := by
  refine Met.ofW (cc := cX11_hoursOn) (maxL := 2) (ret := (some .boolean)) (by decide) rfl ?_
  intro p e s m args below meth c s₁ B hml hv
  obtain ⟨rfl, hB⟩ := hv
  obtain ⟨C, hw⟩ := x_start B hml hD hB
  have hl := lv_entry [.ref (xad g 272)] (n := 2) (Nat.le_of_ble_eq_true rfl)
  rw [lg_entry_eq]
  exact s_X11_hoursOn C hM hw hl h
set_option maxHeartbeats 4000000 in
set_option maxRecDepth 100000 in
theorem s_X11_plans_L184 {Qf : xM → Prop} {K46 : Bool → xM → Prop} (C : x_C p s m args meth c g RX11 cX11_plans 5 none) (hM : xpM g) (hK46 : ∀ {v1 : Bool} {u : xM} {H : Heap} {locs : List Loc} {ls : Array Slot}, x_W g s.heap H locs u → lv_has ls 5 [(0, .ref (xad g 272)), (1, .int (xb v1))] → K46 v1 u → W p l e (x_rm 8 176) s m args below meth c H locs 0 0 (MQ below (x_Qv g Qf) args s 0 0 (x_A g)) (F0 m 46 ls [])) : ∀ (nn : Nat) {v4 : Int32} {u : xM} {H : Heap} {locs : List Loc} {ls : Array Slot} (hw : x_W g s.heap H locs u) (hl : lv_has ls 5 [(0, .ref (xad g 272)), (4, .int v4)]) (h : p_X11_plans_L184 Qf K46 nn v4 u), W p l e (x_rm 8 176) s m args below meth c H locs 0 0 (MQ below (x_Qv g Qf) args s 0 0 (x_A g)) (F0 m 184 ls []) := by
  intro nn
  induction nn with
  | zero => intro v4 u H locs ls hw hl h; exact h.elim
  | succ nn ih =>
    intro v4 u H locs ls hw hl h
    unfold p_X11_plans_L184 at h
    have hx := C.1
    have hb := C.2.1
    refine lv_iload hx hb dX11_plans_184 (lv_at hl 1 rfl) ?_
    refine lv_aload_n hx hb dX11_plans_186 rfl (lv_at hl 0 rfl) ?_
    refine x_getr (ci := 11) C hw 0 (xoM_272 hM) rfl inlX11 (by decide) rfl rfl xrM_272_0 xw_219 dX11_plans_187 ?_
    refine lv_iconst (v := 2) hx hb dX11_plans_190 (by decide) ?_
    have c1 := h.1
    have h := h.2
    refine x_iald C hw (xoM_273 hM) c1 dX11_plans_191 ?_
    refine lv_icmp_ge (tgt := 215) hx hb dX11_plans_192 (by decide) (fun c2 => ?_) (fun c2 => ?_)
    · have h := h.1 c2
      refine lv_aload_n hx hb dX11_plans_215 rfl (lv_at hl 0 rfl) ?_
      refine x_callz hw (x_runV (ci := 11) C hw (m_X11_hoursOn l C.2.2.2.2.2.2.2.2.1 hM h) (xoM_272 hM) rfl (x_gV xw_1651 xw_1652 xw_1653 xw_5 xw_1654) rfl rfl qX11_hoursOn ⟨(Nat.le_of_ble_eq_true rfl), (Nat.le_of_ble_eq_true rfl)⟩ rfl hl.1 rfl (Nat.le_of_ble_eq_true rfl) dX11_plans_216) (fun r4 u3 H locs hw h => ?_)
      refine lv_istore_n (lv' := [(1, .int (xb r4)), (0, .ref (xad g 272)), (4, .int v4)]) hx hb dX11_plans_219 rfl hl (by decide) rfl (fun ls hl => ?_)
      refine lv_goto (tgt := 46) hx hb dX11_plans_220 (by decide) ?_
      exact hK46 hw (lv_sub hl [1, 0] rfl) h
    · have h := h.2 c2
      refine lv_aload_n hx hb dX11_plans_195 rfl (lv_at hl 0 rfl) ?_
      refine x_getr (ci := 11) C hw 31 (xoM_272 hM) rfl inlX11 (by decide) rfl rfl xrM_272_31 xw_235 dX11_plans_196 ?_
      refine lv_iload hx hb dX11_plans_199 (lv_at hl 1 rfl) ?_
      refine lv_aload_n hx hb dX11_plans_201 rfl (lv_at hl 0 rfl) ?_
      refine x_getr (ci := 11) C hw 30 (xoM_272 hM) rfl inlX11 (by decide) rfl rfl xrM_272_30 xw_234 dX11_plans_202 ?_
      refine lv_iload hx hb dX11_plans_205 (lv_at hl 1 rfl) ?_
      have c5 := h.1
      have h := h.2
      refine x_iald C hw (xoM_283 hM) c5 dX11_plans_207 ?_
      have c6 := h.1
      have h := h.2
      obtain ⟨u7, eu7⟩ : ∃ q : xM, q = si u 284 v4.toNatClampNeg (gi u 283 v4.toNatClampNeg) := ⟨_, rfl⟩
      have h := h u7 eu7
      refine x_iast C hw (xoM_284 hM) c6 dX11_plans_208 eu7 (fun H locs hw => ?_)
      obtain ⟨x8, ex8⟩ : ∃ y : Int32, y = v4 + 1 := ⟨_, rfl⟩
      have h := h x8 ex8
      refine lv_iinc (v := x8) (lv' := [(4, .int x8), (0, .ref (xad g 272))]) hx hb dX11_plans_209 hl (k := 1) rfl (by rw [ex8]; rfl) (by decide) rfl (fun ls hl => ?_)
      refine lv_goto (tgt := 184) hx hb dX11_plans_212 (by decide) ?_
      exact ih hw (lv_sub hl [1, 0] rfl) h
set_option maxHeartbeats 4000000 in
set_option maxRecDepth 100000 in
theorem s_X11_plans_L171 {Qf : xM → Prop} {K46 : Bool → xM → Prop} (C : x_C p s m args meth c g RX11 cX11_plans 5 none) (hM : xpM g) (hK46 : ∀ {v1 : Bool} {u : xM} {H : Heap} {locs : List Loc} {ls : Array Slot}, x_W g s.heap H locs u → lv_has ls 5 [(0, .ref (xad g 272)), (1, .int (xb v1))] → K46 v1 u → W p l e (x_rm 8 176) s m args below meth c H locs 0 0 (MQ below (x_Qv g Qf) args s 0 0 (x_A g)) (F0 m 46 ls [])) {v2 : Int32} {v3 : Int32} {u : xM} {H : Heap} {locs : List Loc} {ls : Array Slot} (hw : x_W g s.heap H locs u) (hl : lv_has ls 5 [(0, .ref (xad g 272)), (2, .int v2), (3, .int v3)]) (h : p_X11_plans_L171 Qf K46 v2 v3 u) : W p l e (x_rm 8 176) s m args below meth c H locs 0 0 (MQ below (x_Qv g Qf) args s 0 0 (x_A g)) (F0 m 171 ls []) := by
  unfold p_X11_plans_L171 at h
  have hx := C.1
  have hb := C.2.1
  refine lv_aload_n hx hb dX11_plans_171 rfl (lv_at hl 0 rfl) ?_
  refine lv_iload_n hx hb dX11_plans_172 rfl (lv_at hl 1 rfl) ?_
  obtain ⟨u1, eu1⟩ : ∃ q : xM, q = si u 272 32 v2 := ⟨_, rfl⟩
  have h := h u1 eu1
  refine x_puti (ci := 11) (ty := .int) C hw 32 (xoM_272 hM) rfl inlX11 tyX11_ok nmX11 (by decide) rfl rfl xw_1641 rfl (by decide +kernel) rfl rfl dX11_plans_173 eu1 (fun H locs hw => ?_)
  refine lv_aload_n hx hb dX11_plans_176 rfl (lv_at hl 0 rfl) ?_
  refine lv_iload_n hx hb dX11_plans_177 rfl (lv_at hl 2 rfl) ?_
  obtain ⟨u2, eu2⟩ : ∃ q : xM, q = si u1 272 33 v3 := ⟨_, rfl⟩
  have h := h u2 eu2
  refine x_puti (ci := 11) (ty := .int) C hw 33 (xoM_272 hM) rfl inlX11 tyX11_ok nmX11 (by decide) rfl rfl xw_1642 rfl (by decide +kernel) rfl rfl dX11_plans_178 eu2 (fun H locs hw => ?_)
  refine lv_iconst (v := 0) hx hb dX11_plans_181 (by decide) ?_
  refine lv_istore (lv' := [(4, .int 0), (0, .ref (xad g 272)), (2, .int v2), (3, .int v3)]) hx hb dX11_plans_182 hl (by decide) rfl (fun ls hl => ?_)
  obtain ⟨n9, h⟩ := h
  exact s_X11_plans_L184 C hM hK46 n9 hw (lv_sub hl [1, 0] rfl) h
set_option maxHeartbeats 4000000 in
set_option maxRecDepth 100000 in
theorem s_X11_plans_L65 {Qf : xM → Prop} {K46 : Bool → xM → Prop} {K52 : Int32 → xM → Prop} (C : x_C p s m args meth c g RX11 cX11_plans 5 none) (hM : xpM g) (hK46 : ∀ {v1 : Bool} {u : xM} {H : Heap} {locs : List Loc} {ls : Array Slot}, x_W g s.heap H locs u → lv_has ls 5 [(0, .ref (xad g 272)), (1, .int (xb v1))] → K46 v1 u → W p l e (x_rm 8 176) s m args below meth c H locs 0 0 (MQ below (x_Qv g Qf) args s 0 0 (x_A g)) (F0 m 46 ls [])) (hK52 : ∀ {v2 : Int32} {u : xM} {H : Heap} {locs : List Loc} {ls : Array Slot}, x_W g s.heap H locs u → lv_has ls 5 [(0, .ref (xad g 272)), (2, .int v2)] → K52 v2 u → W p l e (x_rm 8 176) s m args below meth c H locs 0 0 (MQ below (x_Qv g Qf) args s 0 0 (x_A g)) (F0 m 52 ls [])) : ∀ (nn : Nat) {v2 : Int32} {v3 : Int32} {u : xM} {H : Heap} {locs : List Loc} {ls : Array Slot} (hw : x_W g s.heap H locs u) (hl : lv_has ls 5 [(0, .ref (xad g 272)), (2, .int v2), (3, .int v3)]) (h : p_X11_plans_L65 Qf K46 K52 nn v2 v3 u), W p l e (x_rm 8 176) s m args below meth c H locs 0 0 (MQ below (x_Qv g Qf) args s 0 0 (x_A g)) (F0 m 65 ls []) := by
  intro nn
  induction nn with
  | zero => intro v2 v3 u H locs ls hw hl h; exact h.elim
  | succ nn ih =>
    intro v2 v3 u H locs ls hw hl h
    unfold p_X11_plans_L65 at h
    have hx := C.1
    have hb := C.2.1
    refine lv_iload_n hx hb dX11_plans_65 rfl (lv_at hl 2 rfl) ?_
    refine lv_aload_n hx hb dX11_plans_66 rfl (lv_at hl 0 rfl) ?_
    refine x_getr (ci := 11) C hw 0 (xoM_272 hM) rfl inlX11 (by decide) rfl rfl xrM_272_0 xw_219 dX11_plans_67 ?_
    refine lv_iconst (v := 2) hx hb dX11_plans_70 (by decide) ?_
    have c1 := h.1
    have h := h.2
    refine x_iald C hw (xoM_273 hM) c1 dX11_plans_71 ?_
    refine lv_icmp_ge (tgt := 115) hx hb dX11_plans_72 (by decide) (fun c2 => ?_) (fun c2 => ?_)
    · have h := h.1 c2
      refine lv_aload_n hx hb dX11_plans_115 rfl (lv_at hl 0 rfl) ?_
      refine x_calli hw (x_runV (ci := 11) C hw (m_X11_goesBy l C.2.2.2.2.2.2.2.2.1 hM h) (xoM_272 hM) rfl (x_gV xw_1204 xw_1205 xw_1206 xw_5 xw_1207) rfl rfl qX11_goesBy ⟨(Nat.le_of_ble_eq_true rfl), (Nat.le_of_ble_eq_true rfl)⟩ rfl hl.1 rfl (Nat.le_of_ble_eq_true rfl) dX11_plans_116) (fun r4 u3 H locs hw h => ?_)
      refine lv_pop hx hb dX11_plans_119 rfl ?_
      obtain ⟨x5, ex5⟩ : ∃ y : Int32, y = v2 + 1 := ⟨_, rfl⟩
      have h := h x5 ex5
      refine lv_iinc (v := x5) (lv' := [(2, .int x5), (0, .ref (xad g 272)), (3, .int v3)]) hx hb dX11_plans_120 hl (k := 1) rfl (by rw [ex5]; rfl) (by decide) rfl (fun ls hl => ?_)
      refine lv_goto (tgt := 52) hx hb dX11_plans_123 (by decide) ?_
      exact hK52 hw (lv_sub hl [1, 0] rfl) h
    · have h := h.2 c2
      refine lv_aload_n hx hb dX11_plans_75 rfl (lv_at hl 0 rfl) ?_
      refine lv_dup hx hb dX11_plans_76 rfl ?_
      refine x_geti (ci := 11) C hw 24 (xoM_272 hM) rfl inlX11 (by decide) rfl rfl xw_231 dX11_plans_77 ?_
      refine lv_aload_n hx hb dX11_plans_80 rfl (lv_at hl 0 rfl) ?_
      refine x_getr (ci := 11) C hw 30 (xoM_272 hM) rfl inlX11 (by decide) rfl rfl xrM_272_30 xw_234 dX11_plans_81 ?_
      refine lv_iload_n hx hb dX11_plans_84 rfl (lv_at hl 2 rfl) ?_
      have c6 := h.1
      have h := h.2
      refine x_iald C hw (xoM_283 hM) c6 dX11_plans_85 ?_
      refine lv_aload_n hx hb dX11_plans_86 rfl (lv_at hl 0 rfl) ?_
      refine x_calli hw (x_runV (ci := 11) C hw (m_X11_now l C.2.2.2.2.2.2.2.2.1 hM h) (xoM_272 hM) rfl (x_gV xw_922 xw_923 xw_924 xw_5 xw_925) rfl rfl qX11_now ⟨(Nat.le_of_ble_eq_true rfl), (Nat.le_of_ble_eq_true rfl)⟩ rfl hl.1 rfl (Nat.le_of_ble_eq_true rfl) dX11_plans_87) (fun r8 u7 H locs hw h => ?_)
      refine lv_icmp_ne (tgt := 104) hx hb dX11_plans_90 (by decide) (fun c9 => ?_) (fun c9 => ?_)
      · have h := h.1 c9
        refine lv_iconst (v := 0) hx hb dX11_plans_104 (by decide) ?_
        refine lv_ior hx hb dX11_plans_105 ?_
        obtain ⟨u10, eu10⟩ : ∃ q : xM, q = si u7 272 24 ((gi u 272 24) ||| (0 : Int32)) := ⟨_, rfl⟩
        have h := h u10 eu10
        refine x_puti (ci := 11) (ty := .int) C hw 24 (xoM_272 hM) rfl inlX11 tyX11_ok nmX11 (by decide) rfl rfl xw_231 rfl (by decide +kernel) rfl rfl dX11_plans_106 eu10 (fun H locs hw => ?_)
        obtain ⟨x11, ex11⟩ : ∃ y : Int32, y = v3 + 1 := ⟨_, rfl⟩
        have h := h x11 ex11
        refine lv_iinc (v := x11) (lv' := [(3, .int x11), (0, .ref (xad g 272)), (2, .int v2)]) hx hb dX11_plans_109 hl (k := 2) rfl (by rw [ex11]; rfl) (by decide) rfl (fun ls hl => ?_)
        refine lv_goto (tgt := 65) hx hb dX11_plans_112 (by decide) ?_
        exact ih hw (lv_sub hl [1, 2, 0] rfl) h
      · have h := h.2 c9
        refine lv_iconst (v := 1) hx hb dX11_plans_93 (by decide) ?_
        refine lv_aload_n hx hb dX11_plans_94 rfl (lv_at hl 0 rfl) ?_
        refine lv_iload_n hx hb dX11_plans_95 rfl (lv_at hl 2 rfl) ?_
        refine lv_iconst (v := 0) hx hb dX11_plans_96 (by decide) ?_
        refine x_calli hw (x_runV (ci := 11) C hw (m_X11_errandOf l C.2.2.2.2.2.2.2.2.1 hM h) (xoM_272 hM) rfl (x_gV xw_1647 xw_1648 xw_1649 xw_5 xw_1650) rfl rfl qX11_errandOf ⟨(Nat.le_of_ble_eq_true rfl), (Nat.le_of_ble_eq_true rfl)⟩ rfl hl.1 rfl (Nat.le_of_ble_eq_true rfl) dX11_plans_97) (fun r13 u12 H locs hw h => ?_)
        refine lv_ishl hx hb dX11_plans_100 ?_
        refine lv_goto (tgt := 105) hx hb dX11_plans_101 (by decide) ?_
        refine lv_ior hx hb dX11_plans_105 ?_
        obtain ⟨u14, eu14⟩ : ∃ q : xM, q = si u12 272 24 ((gi u 272 24) ||| ((1 : Int32) <<< (r13 &&& 31))) := ⟨_, rfl⟩
        have h := h u14 eu14
        refine x_puti (ci := 11) (ty := .int) C hw 24 (xoM_272 hM) rfl inlX11 tyX11_ok nmX11 (by decide) rfl rfl xw_231 rfl (by decide +kernel) rfl rfl dX11_plans_106 eu14 (fun H locs hw => ?_)
        obtain ⟨x15, ex15⟩ : ∃ y : Int32, y = v3 + 1 := ⟨_, rfl⟩
        have h := h x15 ex15
        refine lv_iinc (v := x15) (lv' := [(3, .int x15), (0, .ref (xad g 272)), (2, .int v2)]) hx hb dX11_plans_109 hl (k := 2) rfl (by rw [ex15]; rfl) (by decide) rfl (fun ls hl => ?_)
        refine lv_goto (tgt := 65) hx hb dX11_plans_112 (by decide) ?_
        exact ih hw (lv_sub hl [1, 2, 0] rfl) h
set_option maxHeartbeats 4000000 in
set_option maxRecDepth 100000 in
theorem s_X11_plans_L52 {Qf : xM → Prop} {K46 : Bool → xM → Prop} (C : x_C p s m args meth c g RX11 cX11_plans 5 none) (hM : xpM g) (hK46 : ∀ {v1 : Bool} {u : xM} {H : Heap} {locs : List Loc} {ls : Array Slot}, x_W g s.heap H locs u → lv_has ls 5 [(0, .ref (xad g 272)), (1, .int (xb v1))] → K46 v1 u → W p l e (x_rm 8 176) s m args below meth c H locs 0 0 (MQ below (x_Qv g Qf) args s 0 0 (x_A g)) (F0 m 46 ls [])) : ∀ (nn : Nat) {v2 : Int32} {u : xM} {H : Heap} {locs : List Loc} {ls : Array Slot} (hw : x_W g s.heap H locs u) (hl : lv_has ls 5 [(0, .ref (xad g 272)), (2, .int v2)]) (h : p_X11_plans_L52 Qf K46 nn v2 u), W p l e (x_rm 8 176) s m args below meth c H locs 0 0 (MQ below (x_Qv g Qf) args s 0 0 (x_A g)) (F0 m 52 ls []) := by
  intro nn
  induction nn with
  | zero => intro v2 u H locs ls hw hl h; exact h.elim
  | succ nn ih =>
    intro v2 u H locs ls hw hl h
    unfold p_X11_plans_L52 at h
    have hx := C.1
    have hb := C.2.1
    refine lv_iload_n hx hb dX11_plans_52 rfl (lv_at hl 1 rfl) ?_
    refine lv_bipush (v := 12) hx hb dX11_plans_53 (by decide) ?_
    refine lv_icmp_ge (tgt := 126) hx hb dX11_plans_55 (by decide) (fun c1 => ?_) (fun c1 => ?_)
    · have h := h.1 c1
      refine lv_aload_n hx hb dX11_plans_126 rfl (lv_at hl 0 rfl) ?_
      refine lv_iconst (v := 1) hx hb dX11_plans_127 (by decide) ?_
      refine x_calli hw (x_runV (ci := 11) C hw (m_X11_setOf l C.2.2.2.2.2.2.2.2.1 hM h) (xoM_272 hM) rfl (x_gV xw_899 xw_900 xw_901 xw_5 xw_902) rfl rfl qX11_setOf ⟨(Nat.le_of_ble_eq_true rfl), (Nat.le_of_ble_eq_true rfl)⟩ rfl hl.1 rfl (Nat.le_of_ble_eq_true rfl) dX11_plans_128) (fun r3 u2 H locs hw h => ?_)
      refine x_calli hw (x_runS C hw (m_X11_bits l C.2.2.2.2.2.2.2.2.1  h) (x_gS xw_1320 xw_1321 xw_5 xw_1322) rfl rfl qX11_bits ⟨(Nat.le_of_ble_eq_true rfl), (Nat.le_of_ble_eq_true rfl)⟩ rfl hl.1 rfl (Nat.le_of_ble_eq_true rfl) dX11_plans_131) (fun r5 u4 H locs hw h => ?_)
      refine lv_istore_n (lv' := [(2, .int r5), (0, .ref (xad g 272))]) hx hb dX11_plans_134 rfl hl (by decide) rfl (fun ls hl => ?_)
      refine lv_aload_n hx hb dX11_plans_135 rfl (lv_at hl 1 rfl) ?_
      refine x_calli hw (x_runV (ci := 11) C hw (m_X11_allWater l C.2.2.2.2.2.2.2.2.1 hM h) (xoM_272 hM) rfl (x_gV xw_888 xw_889 xw_890 xw_5 xw_891) rfl rfl qX11_allWater ⟨(Nat.le_of_ble_eq_true rfl), (Nat.le_of_ble_eq_true rfl)⟩ rfl hl.1 rfl (Nat.le_of_ble_eq_true rfl) dX11_plans_136) (fun r7 u6 H locs hw h => ?_)
      refine lv_istore_n (lv' := [(3, .int r7), (2, .int r5), (0, .ref (xad g 272))]) hx hb dX11_plans_139 rfl hl (by decide) rfl (fun ls hl => ?_)
      refine lv_aload_n hx hb dX11_plans_140 rfl (lv_at hl 2 rfl) ?_
      refine lv_sipush (v := 3144) hx hb dX11_plans_141 (by decide) ?_
      refine x_callv hw (x_runV (ci := 11) C hw (m_X11_restores l C.2.2.2.2.2.2.2.2.1 hM h) (xoM_272 hM) rfl (x_gV xw_1346 xw_1347 xw_1348 xw_5 xw_1349) rfl rfl qX11_restores ⟨(Nat.le_of_ble_eq_true rfl), (Nat.le_of_ble_eq_true rfl)⟩ rfl hl.1 rfl (Nat.le_of_ble_eq_true rfl) dX11_plans_144) (fun u8 H locs hw h => ?_)
      refine lv_iload_n hx hb dX11_plans_147 rfl (lv_at hl 1 rfl) ?_
      refine lv_aload_n hx hb dX11_plans_148 rfl (lv_at hl 2 rfl) ?_
      refine x_geti (ci := 11) C hw 32 (xoM_272 hM) rfl inlX11 (by decide) rfl rfl xw_1641 dX11_plans_149 ?_
      refine lv_icmp_lt (tgt := 171) hx hb dX11_plans_152 (by decide) (fun c9 => ?_) (fun c9 => ?_)
      · have h := h.1 c9
        exact s_X11_plans_L171 C hM hK46 hw (lv_sub hl [2, 1, 0] rfl) h
      · have h := h.2 c9
        refine lv_iload_n hx hb dX11_plans_155 rfl (lv_at hl 1 rfl) ?_
        refine lv_aload_n hx hb dX11_plans_156 rfl (lv_at hl 2 rfl) ?_
        refine x_geti (ci := 11) C hw 32 (xoM_272 hM) rfl inlX11 (by decide) rfl rfl xw_1641 dX11_plans_157 ?_
        refine lv_icmp_ne (tgt := 215) hx hb dX11_plans_160 (by decide) (fun c10 => ?_) (fun c10 => ?_)
        · have h := h.1 c10
          refine lv_aload_n hx hb dX11_plans_215 rfl (lv_at hl 2 rfl) ?_
          refine x_callz hw (x_runV (ci := 11) C hw (m_X11_hoursOn l C.2.2.2.2.2.2.2.2.1 hM h) (xoM_272 hM) rfl (x_gV xw_1651 xw_1652 xw_1653 xw_5 xw_1654) rfl rfl qX11_hoursOn ⟨(Nat.le_of_ble_eq_true rfl), (Nat.le_of_ble_eq_true rfl)⟩ rfl hl.1 rfl (Nat.le_of_ble_eq_true rfl) dX11_plans_216) (fun r12 u11 H locs hw h => ?_)
          refine lv_istore_n (lv' := [(1, .int (xb r12)), (3, .int r7), (2, .int r5), (0, .ref (xad g 272))]) hx hb dX11_plans_219 rfl hl (by decide) rfl (fun ls hl => ?_)
          refine lv_goto (tgt := 46) hx hb dX11_plans_220 (by decide) ?_
          exact hK46 hw (lv_sub hl [3, 0] rfl) h
        · have h := h.2 c10
          refine lv_iload_n hx hb dX11_plans_163 rfl (lv_at hl 0 rfl) ?_
          refine lv_aload_n hx hb dX11_plans_164 rfl (lv_at hl 2 rfl) ?_
          refine x_geti (ci := 11) C hw 33 (xoM_272 hM) rfl inlX11 (by decide) rfl rfl xw_1642 dX11_plans_165 ?_
          refine lv_icmp_ge (tgt := 215) hx hb dX11_plans_168 (by decide) (fun c13 => ?_) (fun c13 => ?_)
          · have h := h.1 c13
            refine lv_aload_n hx hb dX11_plans_215 rfl (lv_at hl 2 rfl) ?_
            refine x_callz hw (x_runV (ci := 11) C hw (m_X11_hoursOn l C.2.2.2.2.2.2.2.2.1 hM h) (xoM_272 hM) rfl (x_gV xw_1651 xw_1652 xw_1653 xw_5 xw_1654) rfl rfl qX11_hoursOn ⟨(Nat.le_of_ble_eq_true rfl), (Nat.le_of_ble_eq_true rfl)⟩ rfl hl.1 rfl (Nat.le_of_ble_eq_true rfl) dX11_plans_216) (fun r15 u14 H locs hw h => ?_)
            refine lv_istore_n (lv' := [(1, .int (xb r15)), (3, .int r7), (2, .int r5), (0, .ref (xad g 272))]) hx hb dX11_plans_219 rfl hl (by decide) rfl (fun ls hl => ?_)
            refine lv_goto (tgt := 46) hx hb dX11_plans_220 (by decide) ?_
            exact hK46 hw (lv_sub hl [3, 0] rfl) h
          · have h := h.2 c13
            exact s_X11_plans_L171 C hM hK46 hw (lv_sub hl [2, 1, 0] rfl) h
    · have h := h.2 c1
      refine lv_aload_n hx hb dX11_plans_58 rfl (lv_at hl 0 rfl) ?_
      refine lv_iconst (v := 0) hx hb dX11_plans_59 (by decide) ?_
      obtain ⟨u16, eu16⟩ : ∃ q : xM, q = si u 272 24 (0 : Int32) := ⟨_, rfl⟩
      have h := h u16 eu16
      refine x_puti (ci := 11) (ty := .int) C hw 24 (xoM_272 hM) rfl inlX11 tyX11_ok nmX11 (by decide) rfl rfl xw_231 rfl (by decide +kernel) rfl rfl dX11_plans_60 eu16 (fun H locs hw => ?_)
      refine lv_iconst (v := 0) hx hb dX11_plans_63 (by decide) ?_
      refine lv_istore_n (lv' := [(3, .int 0), (0, .ref (xad g 272)), (2, .int v2)]) hx hb dX11_plans_64 rfl hl (by decide) rfl (fun ls hl => ?_)
      obtain ⟨n9, h⟩ := h
      exact s_X11_plans_L65 C hM hK46 (fun hw hl h => ih hw hl h) n9 hw (lv_sub hl [1, 2, 0] rfl) h
set_option maxHeartbeats 4000000 in
set_option maxRecDepth 100000 in
theorem s_X11_plans_L46 {Qf : xM → Prop} (C : x_C p s m args meth c g RX11 cX11_plans 5 none) (hM : xpM g) : ∀ (nn : Nat) {v1 : Bool} {u : xM} {H : Heap} {locs : List Loc} {ls : Array Slot} (hw : x_W g s.heap H locs u) (hl : lv_has ls 5 [(0, .ref (xad g 272)), (1, .int (xb v1))]) (h : p_X11_plans_L46 Qf nn v1 u), W p l e (x_rm 8 176) s m args below meth c H locs 0 0 (MQ below (x_Qv g Qf) args s 0 0 (x_A g)) (F0 m 46 ls []) := by
  intro nn
  induction nn with
  | zero => intro v1 u H locs ls hw hl h; exact h.elim
  | succ nn ih =>
    intro v1 u H locs ls hw hl h
    unfold p_X11_plans_L46 at h
    have hx := C.1
    have hb := C.2.1
    refine lv_iload_n hx hb dX11_plans_46 rfl (lv_at hl 1 rfl) ?_
    refine lv_if_eq (tgt := 223) hx hb dX11_plans_47 (by decide) (fun c1 => ?_) (fun c1 => ?_)
    · have h := h.1 (xb_f c1)
      refine lv_aload_n hx hb dX11_plans_223 rfl (lv_at hl 0 rfl) ?_
      refine lv_iconst (v := -1) hx hb dX11_plans_224 (by decide) ?_
      obtain ⟨u2, eu2⟩ : ∃ q : xM, q = si u 272 24 (-1 : Int32) := ⟨_, rfl⟩
      have h := h u2 eu2
      refine x_puti (ci := 11) (ty := .int) C hw 24 (xoM_272 hM) rfl inlX11 tyX11_ok nmX11 (by decide) rfl rfl xw_231 rfl (by decide +kernel) rfl rfl dX11_plans_225 eu2 (fun H locs hw => ?_)
      exact x_vret C hw h dX11_plans_228
    · have h := h.2 (xb_t c1)
      refine lv_iconst (v := 0) hx hb dX11_plans_50 (by decide) ?_
      refine lv_istore_n (lv' := [(2, .int 0), (0, .ref (xad g 272)), (1, .int (xb v1))]) hx hb dX11_plans_51 rfl hl (by decide) rfl (fun ls hl => ?_)
      obtain ⟨n9, h⟩ := h
      exact s_X11_plans_L52 C hM (fun hw hl h => ih hw hl h) n9 hw (lv_sub hl [1, 0] rfl) h
set_option maxHeartbeats 4000000 in
set_option maxRecDepth 100000 in
theorem s_X11_plans_L9 {Qf : xM → Prop} (C : x_C p s m args meth c g RX11 cX11_plans 5 none) (hM : xpM g) : ∀ (nn : Nat) {v1 : Int32} {u : xM} {H : Heap} {locs : List Loc} {ls : Array Slot} (hw : x_W g s.heap H locs u) (hl : lv_has ls 5 [(0, .ref (xad g 272)), (1, .int v1)]) (h : p_X11_plans_L9 Qf nn v1 u), W p l e (x_rm 8 176) s m args below meth c H locs 0 0 (MQ below (x_Qv g Qf) args s 0 0 (x_A g)) (F0 m 9 ls []) := by
  intro nn
  induction nn with
  | zero => intro v1 u H locs ls hw hl h; exact h.elim
  | succ nn ih =>
    intro v1 u H locs ls hw hl h
    unfold p_X11_plans_L9 at h
    have hx := C.1
    have hb := C.2.1
    refine lv_iload_n hx hb dX11_plans_9 rfl (lv_at hl 1 rfl) ?_
    refine lv_aload_n hx hb dX11_plans_10 rfl (lv_at hl 0 rfl) ?_
    refine x_getr (ci := 11) C hw 0 (xoM_272 hM) rfl inlX11 (by decide) rfl rfl xrM_272_0 xw_219 dX11_plans_11 ?_
    refine lv_iconst (v := 2) hx hb dX11_plans_14 (by decide) ?_
    have c1 := h.1
    have h := h.2
    refine x_iald C hw (xoM_273 hM) c1 dX11_plans_15 ?_
    refine lv_icmp_ge (tgt := 37) hx hb dX11_plans_16 (by decide) (fun c2 => ?_) (fun c2 => ?_)
    · have h := h.1 c2
      refine lv_aload_n hx hb dX11_plans_37 rfl (lv_at hl 0 rfl) ?_
      refine lv_sipush (v := 3144) hx hb dX11_plans_38 (by decide) ?_
      refine x_callv hw (x_runV (ci := 11) C hw (m_X11_keeps l C.2.2.2.2.2.2.2.2.1 hM h) (xoM_272 hM) rfl (x_gV xw_1342 xw_1343 xw_1344 xw_5 xw_1345) rfl rfl qX11_keeps ⟨(Nat.le_of_ble_eq_true rfl), (Nat.le_of_ble_eq_true rfl)⟩ rfl hl.1 rfl (Nat.le_of_ble_eq_true rfl) dX11_plans_41) (fun u3 H locs hw h => ?_)
      refine lv_iconst (v := 1) hx hb dX11_plans_44 (by decide) ?_
      refine lv_istore_n (lv' := [(1, .int 1), (0, .ref (xad g 272))]) hx hb dX11_plans_45 rfl hl (by decide) rfl (fun ls hl => ?_)
      obtain ⟨n9, h⟩ := h
      exact s_X11_plans_L46 C hM n9 hw (lv_sub hl [1, 0] rfl) h
    · have h := h.2 c2
      refine lv_aload_n hx hb dX11_plans_19 rfl (lv_at hl 0 rfl) ?_
      refine x_getr (ci := 11) C hw 30 (xoM_272 hM) rfl inlX11 (by decide) rfl rfl xrM_272_30 xw_234 dX11_plans_20 ?_
      refine lv_iload_n hx hb dX11_plans_23 rfl (lv_at hl 1 rfl) ?_
      refine lv_aload_n hx hb dX11_plans_24 rfl (lv_at hl 0 rfl) ?_
      refine lv_iload_n hx hb dX11_plans_25 rfl (lv_at hl 1 rfl) ?_
      refine lv_iconst (v := 1) hx hb dX11_plans_26 (by decide) ?_
      refine x_calli hw (x_runV (ci := 11) C hw (m_X11_errandOf l C.2.2.2.2.2.2.2.2.1 hM h) (xoM_272 hM) rfl (x_gV xw_1647 xw_1648 xw_1649 xw_5 xw_1650) rfl rfl qX11_errandOf ⟨(Nat.le_of_ble_eq_true rfl), (Nat.le_of_ble_eq_true rfl)⟩ rfl hl.1 rfl (Nat.le_of_ble_eq_true rfl) dX11_plans_27) (fun r5 u4 H locs hw h => ?_)
      have c6 := h.1
      have h := h.2
      obtain ⟨u7, eu7⟩ : ∃ q : xM, q = si u4 283 v1.toNatClampNeg r5 := ⟨_, rfl⟩
      have h := h u7 eu7
      refine x_iast C hw (xoM_283 hM) c6 dX11_plans_30 eu7 (fun H locs hw => ?_)
      obtain ⟨x8, ex8⟩ : ∃ y : Int32, y = v1 + 1 := ⟨_, rfl⟩
      have h := h x8 ex8
      refine lv_iinc (v := x8) (lv' := [(1, .int x8), (0, .ref (xad g 272))]) hx hb dX11_plans_31 hl (k := 1) rfl (by rw [ex8]; rfl) (by decide) rfl (fun ls hl => ?_)
      refine lv_goto (tgt := 9) hx hb dX11_plans_34 (by decide) ?_
      exact ih hw (lv_sub hl [1, 0] rfl) h
set_option maxHeartbeats 4000000 in
set_option maxRecDepth 100000 in
theorem s_X11_plans {Qf : xM → Prop} (C : x_C p s m args meth c g RX11 cX11_plans 5 none) (hM : xpM g) {u : xM} {H : Heap} {locs : List Loc} {ls : Array Slot} (hw : x_W g s.heap H locs u) (hl : lv_has ls 5 [(0, .ref (xad g 272))]) (h : p_X11_plans  u Qf) : W p l e (x_rm 8 176) s m args below meth c H locs 0 0 (MQ below (x_Qv g Qf) args s 0 0 (x_A g)) (F0 m 0 ls []) := by
  unfold p_X11_plans at h
  have hx := C.1
  have hb := C.2.1
  refine lv_aload_n hx hb dX11_plans_0 rfl (lv_at hl 0 rfl) ?_
  refine lv_ldcw (v := 1000000) hx hb C.2.2.2.1 (C.2.2.2.2.1 _ xw_1465) dX11_plans_1 ?_
  obtain ⟨u1, eu1⟩ : ∃ q : xM, q = si u 272 32 (1000000 : Int32) := ⟨_, rfl⟩
  have h := h u1 eu1
  refine x_puti (ci := 11) (ty := .int) C hw 32 (xoM_272 hM) rfl inlX11 tyX11_ok nmX11 (by decide) rfl rfl xw_1641 rfl (by decide +kernel) rfl rfl dX11_plans_4 eu1 (fun H locs hw => ?_)
  refine lv_iconst (v := 0) hx hb dX11_plans_7 (by decide) ?_
  refine lv_istore_n (lv' := [(1, .int 0), (0, .ref (xad g 272))]) hx hb dX11_plans_8 rfl hl (by decide) rfl (fun ls hl => ?_)
  obtain ⟨n9, h⟩ := h
  exact s_X11_plans_L9 C hM n9 hw (lv_sub hl [1, 0] rfl) h
set_option maxHeartbeats 4000000 in
set_option maxRecDepth 100000 in
theorem m_X11_plans (l : Launch) {g : xG} (hD : x_D g) (hM : xpM g) {u : xM} {Qf : xM → Prop} (h : p_X11_plans  u Qf) : Met l yX11_plans (Cond.code yX11_plans cX11_plans 5 none :: wsL_law) (x_rm 8 176) (va_Pc [.ref (xad g 272)] (x_B g u)) (x_Qv g Qf) 0 0 (x_A g) := by
  refine Met.ofW (cc := cX11_plans) (maxL := 5) (ret := none) (by decide) rfl ?_
  intro p e s m args below meth c s₁ B hml hv
  obtain ⟨rfl, hB⟩ := hv
  obtain ⟨C, hw⟩ := x_start B hml hD hB
  have hl := lv_entry [.ref (xad g 272)] (n := 5) (Nat.le_of_ble_eq_true rfl)
  rw [lg_entry_eq]
  exact s_X11_plans C hM hw hl h
set_option maxHeartbeats 4000000 in
set_option maxRecDepth 100000 in
theorem s_X11_plan {Qf : Int32 → xM → Prop} {a1 : Int32} (C : x_C p s m args meth c g RX11 cX11_plan 2 (some .int)) (hM : xpM g) {u : xM} {H : Heap} {locs : List Loc} {ls : Array Slot} (hw : x_W g s.heap H locs u) (hl : lv_has ls 2 [(0, .ref (xad g 272)), (1, .int a1)]) (h : p_X11_plan a1 u Qf) : W p l e (x_rm 9 200) s m args below meth c H locs 0 0 (MQ below (x_Qi g Qf) args s 0 0 (x_A g)) (F0 m 0 ls []) := by
  unfold p_X11_plan at h
  have hx := C.1
  have hb := C.2.1
  refine lv_iload_n hx hb dX11_plan_0 rfl (lv_at hl 1 rfl) ?_
  refine lv_if_lt (tgt := 9) hx hb dX11_plan_1 (by decide) (fun c1 => ?_) (fun c1 => ?_)
  · have h := h.1 c1
    refine lv_aload_n hx hb dX11_plan_9 rfl (lv_at hl 0 rfl) ?_
    refine lv_iconst (v := 1) hx hb dX11_plan_10 (by decide) ?_
    refine x_calli hw (x_runV (ci := 11) C hw (m_X11_refuse l C.2.2.2.2.2.2.2.2.1 hM h) (xoM_272 hM) rfl (x_gV xw_657 xw_658 xw_659 xw_5 xw_660) rfl rfl qX11_refuse ⟨(Nat.le_of_ble_eq_true rfl), (Nat.le_of_ble_eq_true rfl)⟩ rfl hl.1 rfl (Nat.le_of_ble_eq_true rfl) dX11_plan_11) (fun r3 u2 H locs hw h => ?_)
    exact x_iret C hw h dX11_plan_14
  · have h := h.2 c1
    refine lv_iload_n hx hb dX11_plan_4 rfl (lv_at hl 1 rfl) ?_
    refine lv_iconst (v := 1) hx hb dX11_plan_5 (by decide) ?_
    refine lv_icmp_le (tgt := 15) hx hb dX11_plan_6 (by decide) (fun c4 => ?_) (fun c4 => ?_)
    · have h := h.1 c4
      refine lv_aload_n hx hb dX11_plan_15 rfl (lv_at hl 0 rfl) ?_
      refine x_getr (ci := 11) C hw 0 (xoM_272 hM) rfl inlX11 (by decide) rfl rfl xrM_272_0 xw_219 dX11_plan_16 ?_
      refine lv_iconst (v := 2) hx hb dX11_plan_19 (by decide) ?_
      have c5 := h.1
      have h := h.2
      refine x_iald C hw (xoM_273 hM) c5 dX11_plan_20 ?_
      refine lv_if_ne (tgt := 31) hx hb dX11_plan_21 (by decide) (fun c6 => ?_) (fun c6 => ?_)
      · have h := h.1 c6
        refine lv_aload_n hx hb dX11_plan_31 rfl (lv_at hl 0 rfl) ?_
        refine x_callv hw (x_runV (ci := 11) C hw (m_X11_plans l C.2.2.2.2.2.2.2.2.1 hM h) (xoM_272 hM) rfl (x_gV xw_1643 xw_1644 xw_1645 xw_5 xw_1646) rfl rfl qX11_plans ⟨(Nat.le_of_ble_eq_true rfl), (Nat.le_of_ble_eq_true rfl)⟩ rfl hl.1 rfl (Nat.le_of_ble_eq_true rfl) dX11_plan_32) (fun u7 H locs hw h => ?_)
        refine lv_aload_n hx hb dX11_plan_35 rfl (lv_at hl 0 rfl) ?_
        refine lv_iload_n hx hb dX11_plan_36 rfl (lv_at hl 1 rfl) ?_
        refine lv_if_ne (tgt := 47) hx hb dX11_plan_37 (by decide) (fun c8 => ?_) (fun c8 => ?_)
        · have h := h.1 c8
          refine lv_aload_n hx hb dX11_plan_47 rfl (lv_at hl 0 rfl) ?_
          refine x_geti (ci := 11) C hw 33 (xoM_272 hM) rfl inlX11 (by decide) rfl rfl xw_1642 dX11_plan_48 ?_
          refine x_calli hw (x_runV (ci := 11) C hw (m_X11_gives l C.2.2.2.2.2.2.2.2.1 hM h) (xoM_272 hM) rfl (x_gV xw_731 xw_732 xw_733 xw_5 xw_734) rfl rfl qX11_gives ⟨(Nat.le_of_ble_eq_true rfl), (Nat.le_of_ble_eq_true rfl)⟩ rfl hl.1 rfl (Nat.le_of_ble_eq_true rfl) dX11_plan_51) (fun r10 u9 H locs hw h => ?_)
          exact x_iret C hw h dX11_plan_54
        · have h := h.2 c8
          refine lv_aload_n hx hb dX11_plan_40 rfl (lv_at hl 0 rfl) ?_
          refine x_geti (ci := 11) C hw 32 (xoM_272 hM) rfl inlX11 (by decide) rfl rfl xw_1641 dX11_plan_41 ?_
          refine lv_goto (tgt := 51) hx hb dX11_plan_44 (by decide) ?_
          refine x_calli hw (x_runV (ci := 11) C hw (m_X11_gives l C.2.2.2.2.2.2.2.2.1 hM h) (xoM_272 hM) rfl (x_gV xw_731 xw_732 xw_733 xw_5 xw_734) rfl rfl qX11_gives ⟨(Nat.le_of_ble_eq_true rfl), (Nat.le_of_ble_eq_true rfl)⟩ rfl hl.1 rfl (Nat.le_of_ble_eq_true rfl) dX11_plan_51) (fun r12 u11 H locs hw h => ?_)
          exact x_iret C hw h dX11_plan_54
      · have h := h.2 c6
        refine lv_aload_n hx hb dX11_plan_24 rfl (lv_at hl 0 rfl) ?_
        refine lv_bipush (v := 6) hx hb dX11_plan_25 (by decide) ?_
        refine x_calli hw (x_runV (ci := 11) C hw (m_X11_refuse l C.2.2.2.2.2.2.2.2.1 hM h) (xoM_272 hM) rfl (x_gV xw_657 xw_658 xw_659 xw_5 xw_660) rfl rfl qX11_refuse ⟨(Nat.le_of_ble_eq_true rfl), (Nat.le_of_ble_eq_true rfl)⟩ rfl hl.1 rfl (Nat.le_of_ble_eq_true rfl) dX11_plan_27) (fun r14 u13 H locs hw h => ?_)
        exact x_iret C hw h dX11_plan_30
    · have h := h.2 c4
      refine lv_aload_n hx hb dX11_plan_9 rfl (lv_at hl 0 rfl) ?_
      refine lv_iconst (v := 1) hx hb dX11_plan_10 (by decide) ?_
      refine x_calli hw (x_runV (ci := 11) C hw (m_X11_refuse l C.2.2.2.2.2.2.2.2.1 hM h) (xoM_272 hM) rfl (x_gV xw_657 xw_658 xw_659 xw_5 xw_660) rfl rfl qX11_refuse ⟨(Nat.le_of_ble_eq_true rfl), (Nat.le_of_ble_eq_true rfl)⟩ rfl hl.1 rfl (Nat.le_of_ble_eq_true rfl) dX11_plan_11) (fun r16 u15 H locs hw h => ?_)
      exact x_iret C hw h dX11_plan_14
set_option maxHeartbeats 4000000 in
set_option maxRecDepth 100000 in
theorem m_X11_plan (l : Launch) {g : xG} (hD : x_D g) (hM : xpM g) {a1 : Int32} {u : xM} {Qf : Int32 → xM → Prop} (h : p_X11_plan a1 u Qf) : Met l yX11_plan (Cond.code yX11_plan cX11_plan 2 (some .int) :: wsL_law) (x_rm 9 200) (va_Pc [.ref (xad g 272), .int a1] (x_B g u)) (x_Qi g Qf) 0 0 (x_A g) := by
  refine Met.ofW (cc := cX11_plan) (maxL := 2) (ret := (some .int)) (by decide) rfl ?_
  intro p e s m args below meth c s₁ B hml hv
  obtain ⟨rfl, hB⟩ := hv
  obtain ⟨C, hw⟩ := x_start B hml hD hB
  have hl := lv_entry [.ref (xad g 272), .int a1] (n := 2) (Nat.le_of_ble_eq_true rfl)
  rw [lg_entry_eq]
  exact s_X11_plan C hM hw hl h
set_option maxHeartbeats 4000000 in
set_option maxRecDepth 100000 in
theorem s_X11_planned {Qf : Int32 → xM → Prop} {a1 : Int32} (C : x_C p s m args meth c g RX11 cX11_planned 2 (some .int)) (hM : xpM g) {u : xM} {H : Heap} {locs : List Loc} {ls : Array Slot} (hw : x_W g s.heap H locs u) (hl : lv_has ls 2 [(0, .ref (xad g 272)), (1, .int a1)]) (h : p_X11_planned a1 u Qf) : W p l e (x_rm 9 200) s m args below meth c H locs 0 0 (MQ below (x_Qi g Qf) args s 0 0 (x_A g)) (F0 m 0 ls []) := by
  unfold p_X11_planned at h
  have hx := C.1
  have hb := C.2.1
  refine lv_aload_n hx hb dX11_planned_0 rfl (lv_at hl 0 rfl) ?_
  refine lv_iload_n hx hb dX11_planned_1 rfl (lv_at hl 1 rfl) ?_
  refine x_callz hw (x_runV (ci := 11) C hw (m_X11_isErrand l C.2.2.2.2.2.2.2.2.1 hM h) (xoM_272 hM) rfl (x_gV xw_992 xw_993 xw_994 xw_5 xw_995) rfl rfl qX11_isErrand ⟨(Nat.le_of_ble_eq_true rfl), (Nat.le_of_ble_eq_true rfl)⟩ rfl hl.1 rfl (Nat.le_of_ble_eq_true rfl) dX11_planned_2) (fun r2 u1 H locs hw h => ?_)
  refine lv_if_ne (tgt := 14) hx hb dX11_planned_5 (by decide) (fun c3 => ?_) (fun c3 => ?_)
  · have h := h.1 (xb_t c3)
    refine lv_aload_n hx hb dX11_planned_14 rfl (lv_at hl 0 rfl) ?_
    refine x_callv hw (x_runV (ci := 11) C hw (m_X11_plans l C.2.2.2.2.2.2.2.2.1 hM h) (xoM_272 hM) rfl (x_gV xw_1643 xw_1644 xw_1645 xw_5 xw_1646) rfl rfl qX11_plans ⟨(Nat.le_of_ble_eq_true rfl), (Nat.le_of_ble_eq_true rfl)⟩ rfl hl.1 rfl (Nat.le_of_ble_eq_true rfl) dX11_planned_15) (fun u4 H locs hw h => ?_)
    refine lv_aload_n hx hb dX11_planned_18 rfl (lv_at hl 0 rfl) ?_
    refine lv_aload_n hx hb dX11_planned_19 rfl (lv_at hl 0 rfl) ?_
    refine x_getr (ci := 11) C hw 31 (xoM_272 hM) rfl inlX11 (by decide) rfl rfl xrM_272_31 xw_235 dX11_planned_20 ?_
    refine lv_iload_n hx hb dX11_planned_23 rfl (lv_at hl 1 rfl) ?_
    have c5 := h.1
    have h := h.2
    refine x_iald C hw (xoM_284 hM) c5 dX11_planned_24 ?_
    refine x_calli hw (x_runV (ci := 11) C hw (m_X11_gives l C.2.2.2.2.2.2.2.2.1 hM h) (xoM_272 hM) rfl (x_gV xw_731 xw_732 xw_733 xw_5 xw_734) rfl rfl qX11_gives ⟨(Nat.le_of_ble_eq_true rfl), (Nat.le_of_ble_eq_true rfl)⟩ rfl hl.1 rfl (Nat.le_of_ble_eq_true rfl) dX11_planned_25) (fun r7 u6 H locs hw h => ?_)
    exact x_iret C hw h dX11_planned_28
  · have h := h.2 (xb_f c3)
    refine lv_aload_n hx hb dX11_planned_8 rfl (lv_at hl 0 rfl) ?_
    refine lv_iconst (v := 1) hx hb dX11_planned_9 (by decide) ?_
    refine x_calli hw (x_runV (ci := 11) C hw (m_X11_refuse l C.2.2.2.2.2.2.2.2.1 hM h) (xoM_272 hM) rfl (x_gV xw_657 xw_658 xw_659 xw_5 xw_660) rfl rfl qX11_refuse ⟨(Nat.le_of_ble_eq_true rfl), (Nat.le_of_ble_eq_true rfl)⟩ rfl hl.1 rfl (Nat.le_of_ble_eq_true rfl) dX11_planned_10) (fun r9 u8 H locs hw h => ?_)
    exact x_iret C hw h dX11_planned_13
set_option maxHeartbeats 4000000 in
set_option maxRecDepth 100000 in
theorem m_X11_planned (l : Launch) {g : xG} (hD : x_D g) (hM : xpM g) {a1 : Int32} {u : xM} {Qf : Int32 → xM → Prop} (h : p_X11_planned a1 u Qf) : Met l yX11_planned (Cond.code yX11_planned cX11_planned 2 (some .int) :: wsL_law) (x_rm 9 200) (va_Pc [.ref (xad g 272), .int a1] (x_B g u)) (x_Qi g Qf) 0 0 (x_A g) := by
  refine Met.ofW (cc := cX11_planned) (maxL := 2) (ret := (some .int)) (by decide) rfl ?_
  intro p e s m args below meth c s₁ B hml hv
  obtain ⟨rfl, hB⟩ := hv
  obtain ⟨C, hw⟩ := x_start B hml hD hB
  have hl := lv_entry [.ref (xad g 272), .int a1] (n := 2) (Nat.le_of_ble_eq_true rfl)
  rw [lg_entry_eq]
  exact s_X11_planned C hM hw hl h
set_option maxHeartbeats 4000000 in
set_option maxRecDepth 100000 in
theorem s_X11_saveOf_L101 {Qf : Int32 → xM → Prop} {K11 : Int32 → Int32 → Int32 → xM → Prop} (C : x_C p s m args meth c g RX11 cX11_saveOf 5 (some .int)) (hM : xpM g) (hK11 : ∀ {v1 : Int32} {v2 : Int32} {v3 : Int32} {u : xM} {H : Heap} {locs : List Loc} {ls : Array Slot}, x_W g s.heap H locs u → lv_has ls 5 [(0, .ref (xad g 272)), (1, .int v1), (2, .int v2), (3, .int v3)] → K11 v1 v2 v3 u → W p l e (x_rm 8 176) s m args below meth c H locs 0 0 (MQ below (x_Qi g Qf) args s 0 0 (x_A g)) (F0 m 11 ls [])) {v1 : Int32} {v3 : Int32} {v4 : Int32} {u : xM} {H : Heap} {locs : List Loc} {ls : Array Slot} (hw : x_W g s.heap H locs u) (hl : lv_has ls 5 [(0, .ref (xad g 272)), (1, .int v1), (3, .int v3), (4, .int v4)]) (h : p_X11_saveOf_L101 Qf K11 v1 v3 v4 u) : W p l e (x_rm 8 176) s m args below meth c H locs 0 0 (MQ below (x_Qi g Qf) args s 0 0 (x_A g)) (F0 m 101 ls []) := by
  unfold p_X11_saveOf_L101 at h
  have hx := C.1
  have hb := C.2.1
  refine lv_iload_n hx hb dX11_saveOf_101 rfl (lv_at hl 2 rfl) ?_
  refine lv_istore_n (lv' := [(2, .int v3), (0, .ref (xad g 272)), (1, .int v1), (3, .int v3), (4, .int v4)]) hx hb dX11_saveOf_102 rfl hl (by decide) rfl (fun ls hl => ?_)
  refine lv_aload_n hx hb dX11_saveOf_103 rfl (lv_at hl 1 rfl) ?_
  refine lv_iload hx hb dX11_saveOf_104 (lv_at hl 4 rfl) ?_
  obtain ⟨u1, eu1⟩ : ∃ q : xM, q = si u 272 34 v4 := ⟨_, rfl⟩
  have h := h u1 eu1
  refine x_puti (ci := 11) (ty := .int) C hw 34 (xoM_272 hM) rfl inlX11 tyX11_ok nmX11 (by decide) rfl rfl xw_1684 rfl (by decide +kernel) rfl rfl dX11_saveOf_106 eu1 (fun H locs hw => ?_)
  obtain ⟨x2, ex2⟩ : ∃ y : Int32, y = v3 + 1 := ⟨_, rfl⟩
  have h := h x2 ex2
  refine lv_iinc (v := x2) (lv' := [(3, .int x2), (2, .int v3), (0, .ref (xad g 272)), (1, .int v1), (4, .int v4)]) hx hb dX11_saveOf_109 hl (k := 3) rfl (by rw [ex2]; rfl) (by decide) rfl (fun ls hl => ?_)
  refine lv_goto (tgt := 11) hx hb dX11_saveOf_112 (by decide) ?_
  exact hK11 hw (lv_sub hl [2, 3, 1, 0] rfl) h
set_option maxHeartbeats 4000000 in
set_option maxRecDepth 100000 in
theorem s_X11_saveOf_L57 {Qf : Int32 → xM → Prop} {K11 : Int32 → Int32 → Int32 → xM → Prop} {K32 : Int32 → Int32 → Int32 → Int32 → xM → Prop} (C : x_C p s m args meth c g RX11 cX11_saveOf 5 (some .int)) (hM : xpM g) (hK11 : ∀ {v1 : Int32} {v2 : Int32} {v3 : Int32} {u : xM} {H : Heap} {locs : List Loc} {ls : Array Slot}, x_W g s.heap H locs u → lv_has ls 5 [(0, .ref (xad g 272)), (1, .int v1), (2, .int v2), (3, .int v3)] → K11 v1 v2 v3 u → W p l e (x_rm 8 176) s m args below meth c H locs 0 0 (MQ below (x_Qi g Qf) args s 0 0 (x_A g)) (F0 m 11 ls [])) (hK32 : ∀ {v1 : Int32} {v2 : Int32} {v3 : Int32} {v4 : Int32} {u : xM} {H : Heap} {locs : List Loc} {ls : Array Slot}, x_W g s.heap H locs u → lv_has ls 5 [(0, .ref (xad g 272)), (1, .int v1), (2, .int v2), (3, .int v3), (4, .int v4)] → K32 v1 v2 v3 v4 u → W p l e (x_rm 8 176) s m args below meth c H locs 0 0 (MQ below (x_Qi g Qf) args s 0 0 (x_A g)) (F0 m 32 ls [])) {v1 : Int32} {v2 : Int32} {v3 : Int32} {v4 : Int32} {w1 : Bool} {u : xM} {H : Heap} {locs : List Loc} {ls : Array Slot} (hw : x_W g s.heap H locs u) (hl : lv_has ls 5 [(0, .ref (xad g 272)), (1, .int v1), (2, .int v2), (3, .int v3), (4, .int v4)]) (h : p_X11_saveOf_L57 Qf K11 K32 v1 v2 v3 v4 w1 u) : W p l e (x_rm 8 176) s m args below meth c H locs 0 0 (MQ below (x_Qi g Qf) args s 0 0 (x_A g)) (F0 m 57 ls [.int (xb w1), .ref (xad g 272)]) := by
  unfold p_X11_saveOf_L57 at h
  have hx := C.1
  have hb := C.2.1
  obtain ⟨u1, eu1⟩ : ∃ q : xM, q = si u 272 25 (xb w1) := ⟨_, rfl⟩
  have h := h u1 eu1
  refine x_puti (ci := 11) (ty := .boolean) C hw 25 (xoM_272 hM) rfl inlX11 tyX11_ok nmX11 (by decide) rfl rfl xw_1208 rfl (by decide +kernel) (x_nz w1).1 (x_nz w1).2 dX11_saveOf_57 eu1 (fun H locs hw => ?_)
  refine lv_aload_n hx hb dX11_saveOf_60 rfl (lv_at hl 0 rfl) ?_
  refine x_calli hw (x_runV (ci := 11) C hw (m_X11_goesBy l C.2.2.2.2.2.2.2.2.1 hM h) (xoM_272 hM) rfl (x_gV xw_1204 xw_1205 xw_1206 xw_5 xw_1207) rfl rfl qX11_goesBy ⟨(Nat.le_of_ble_eq_true rfl), (Nat.le_of_ble_eq_true rfl)⟩ rfl hl.1 rfl (Nat.le_of_ble_eq_true rfl) dX11_saveOf_61) (fun r3 u2 H locs hw h => ?_)
  refine lv_pop hx hb dX11_saveOf_64 rfl ?_
  obtain ⟨x4, ex4⟩ : ∃ y : Int32, y = v4 + 1 := ⟨_, rfl⟩
  have h := h x4 ex4
  refine lv_iinc (v := x4) (lv' := [(4, .int x4), (0, .ref (xad g 272)), (1, .int v1), (2, .int v2), (3, .int v3)]) hx hb dX11_saveOf_65 hl (k := 4) rfl (by rw [ex4]; rfl) (by decide) rfl (fun ls hl => ?_)
  refine lv_goto (tgt := 32) hx hb dX11_saveOf_68 (by decide) ?_
  exact hK32 hw (lv_sub hl [1, 2, 3, 4, 0] rfl) h
set_option maxHeartbeats 4000000 in
set_option maxRecDepth 100000 in
theorem s_X11_saveOf_L32 {Qf : Int32 → xM → Prop} {K11 : Int32 → Int32 → Int32 → xM → Prop} (C : x_C p s m args meth c g RX11 cX11_saveOf 5 (some .int)) (hM : xpM g) (hK11 : ∀ {v1 : Int32} {v2 : Int32} {v3 : Int32} {u : xM} {H : Heap} {locs : List Loc} {ls : Array Slot}, x_W g s.heap H locs u → lv_has ls 5 [(0, .ref (xad g 272)), (1, .int v1), (2, .int v2), (3, .int v3)] → K11 v1 v2 v3 u → W p l e (x_rm 8 176) s m args below meth c H locs 0 0 (MQ below (x_Qi g Qf) args s 0 0 (x_A g)) (F0 m 11 ls [])) : ∀ (nn : Nat) {v1 : Int32} {v2 : Int32} {v3 : Int32} {v4 : Int32} {u : xM} {H : Heap} {locs : List Loc} {ls : Array Slot} (hw : x_W g s.heap H locs u) (hl : lv_has ls 5 [(0, .ref (xad g 272)), (1, .int v1), (2, .int v2), (3, .int v3), (4, .int v4)]) (h : p_X11_saveOf_L32 Qf K11 nn v1 v2 v3 v4 u), W p l e (x_rm 8 176) s m args below meth c H locs 0 0 (MQ below (x_Qi g Qf) args s 0 0 (x_A g)) (F0 m 32 ls []) := by
  intro nn
  induction nn with
  | zero => intro v1 v2 v3 v4 u H locs ls hw hl h; exact h.elim
  | succ nn ih =>
    intro v1 v2 v3 v4 u H locs ls hw hl h
    unfold p_X11_saveOf_L32 at h
    have hx := C.1
    have hb := C.2.1
    refine lv_iload hx hb dX11_saveOf_32 (lv_at hl 4 rfl) ?_
    refine lv_bipush (v := 12) hx hb dX11_saveOf_34 (by decide) ?_
    refine lv_icmp_ge (tgt := 71) hx hb dX11_saveOf_36 (by decide) (fun c1 => ?_) (fun c1 => ?_)
    · have h := h.1 c1
      refine lv_aload_n hx hb dX11_saveOf_71 rfl (lv_at hl 0 rfl) ?_
      refine x_calli hw (x_runV (ci := 11) C hw (m_X11_allWater l C.2.2.2.2.2.2.2.2.1 hM h) (xoM_272 hM) rfl (x_gV xw_888 xw_889 xw_890 xw_5 xw_891) rfl rfl qX11_allWater ⟨(Nat.le_of_ble_eq_true rfl), (Nat.le_of_ble_eq_true rfl)⟩ rfl hl.1 rfl (Nat.le_of_ble_eq_true rfl) dX11_saveOf_72) (fun r3 u2 H locs hw h => ?_)
      refine lv_istore (lv' := [(4, .int r3), (0, .ref (xad g 272)), (1, .int v1), (2, .int v2), (3, .int v3)]) hx hb dX11_saveOf_75 hl (by decide) rfl (fun ls hl => ?_)
      refine lv_aload_n hx hb dX11_saveOf_77 rfl (lv_at hl 1 rfl) ?_
      refine lv_sipush (v := 3144) hx hb dX11_saveOf_78 (by decide) ?_
      refine x_callv hw (x_runV (ci := 11) C hw (m_X11_restores l C.2.2.2.2.2.2.2.2.1 hM h) (xoM_272 hM) rfl (x_gV xw_1346 xw_1347 xw_1348 xw_5 xw_1349) rfl rfl qX11_restores ⟨(Nat.le_of_ble_eq_true rfl), (Nat.le_of_ble_eq_true rfl)⟩ rfl hl.1 rfl (Nat.le_of_ble_eq_true rfl) dX11_saveOf_81) (fun u4 H locs hw h => ?_)
      refine lv_iload_n hx hb dX11_saveOf_84 rfl (lv_at hl 3 rfl) ?_
      refine lv_iconst (v := -1) hx hb dX11_saveOf_85 (by decide) ?_
      refine lv_icmp_eq (tgt := 101) hx hb dX11_saveOf_86 (by decide) (fun c5 => ?_) (fun c5 => ?_)
      · have h := h.1 c5
        exact s_X11_saveOf_L101 C hM hK11 hw (lv_sub hl [1, 2, 4, 0] rfl) h
      · have h := h.2 c5
        refine lv_iload hx hb dX11_saveOf_89 (lv_at hl 0 rfl) ?_
        refine lv_aload_n hx hb dX11_saveOf_91 rfl (lv_at hl 1 rfl) ?_
        refine x_geti (ci := 11) C hw 34 (xoM_272 hM) rfl inlX11 (by decide) rfl rfl xw_1684 dX11_saveOf_92 ?_
        refine lv_icmp_lt (tgt := 101) hx hb dX11_saveOf_95 (by decide) (fun c6 => ?_) (fun c6 => ?_)
        · have h := h.1 c6
          exact s_X11_saveOf_L101 C hM hK11 hw (lv_sub hl [1, 2, 4, 0] rfl) h
        · have h := h.2 c6
          refine lv_goto (tgt := 109) hx hb dX11_saveOf_98 (by decide) ?_
          obtain ⟨x7, ex7⟩ : ∃ y : Int32, y = v3 + 1 := ⟨_, rfl⟩
          have h := h x7 ex7
          refine lv_iinc (v := x7) (lv' := [(3, .int x7), (4, .int r3), (0, .ref (xad g 272)), (1, .int v1), (2, .int v2)]) hx hb dX11_saveOf_109 hl (k := 4) rfl (by rw [ex7]; rfl) (by decide) rfl (fun ls hl => ?_)
          refine lv_goto (tgt := 11) hx hb dX11_saveOf_112 (by decide) ?_
          exact hK11 hw (lv_sub hl [2, 3, 4, 0] rfl) h
    · have h := h.2 c1
      refine lv_aload_n hx hb dX11_saveOf_39 rfl (lv_at hl 0 rfl) ?_
      refine lv_aload_n hx hb dX11_saveOf_40 rfl (lv_at hl 0 rfl) ?_
      refine lv_iload_n hx hb dX11_saveOf_41 rfl (lv_at hl 3 rfl) ?_
      refine lv_aload_n hx hb dX11_saveOf_42 rfl (lv_at hl 0 rfl) ?_
      refine x_calli hw (x_runV (ci := 11) C hw (m_X11_now l C.2.2.2.2.2.2.2.2.1 hM h) (xoM_272 hM) rfl (x_gV xw_922 xw_923 xw_924 xw_5 xw_925) rfl rfl qX11_now ⟨(Nat.le_of_ble_eq_true rfl), (Nat.le_of_ble_eq_true rfl)⟩ rfl hl.1 rfl (Nat.le_of_ble_eq_true rfl) dX11_saveOf_43) (fun r9 u8 H locs hw h => ?_)
      refine x_callz hw (x_runV (ci := 11) C hw (m_X11_isIn l C.2.2.2.2.2.2.2.2.1 hM h) (xoM_272 hM) rfl (x_gV xw_918 xw_919 xw_920 xw_5 xw_921) rfl rfl qX11_isIn ⟨(Nat.le_of_ble_eq_true rfl), (Nat.le_of_ble_eq_true rfl)⟩ rfl hl.1 rfl (Nat.le_of_ble_eq_true rfl) dX11_saveOf_46) (fun r11 u10 H locs hw h => ?_)
      refine lv_if_ne (tgt := 56) hx hb dX11_saveOf_49 (by decide) (fun c12 => ?_) (fun c12 => ?_)
      · have h := h.1 (xb_t c12)
        refine lv_iconst (v := 0) hx hb dX11_saveOf_56 (by decide) ?_
        exact s_X11_saveOf_L57 C hM hK11 (fun hw hl h => ih hw hl h) hw (lv_sub hl [0, 1, 2, 3, 4] rfl) h
      · have h := h.2 (xb_f c12)
        refine lv_iconst (v := 1) hx hb dX11_saveOf_52 (by decide) ?_
        refine lv_goto (tgt := 57) hx hb dX11_saveOf_53 (by decide) ?_
        exact s_X11_saveOf_L57 C hM hK11 (fun hw hl h => ih hw hl h) hw (lv_sub hl [0, 1, 2, 3, 4] rfl) h
set_option maxHeartbeats 4000000 in
set_option maxRecDepth 100000 in
theorem s_X11_saveOf_L11 {Qf : Int32 → xM → Prop} (C : x_C p s m args meth c g RX11 cX11_saveOf 5 (some .int)) (hM : xpM g) : ∀ (nn : Nat) {v1 : Int32} {v2 : Int32} {v3 : Int32} {u : xM} {H : Heap} {locs : List Loc} {ls : Array Slot} (hw : x_W g s.heap H locs u) (hl : lv_has ls 5 [(0, .ref (xad g 272)), (1, .int v1), (2, .int v2), (3, .int v3)]) (h : p_X11_saveOf_L11 Qf nn v1 v2 v3 u), W p l e (x_rm 8 176) s m args below meth c H locs 0 0 (MQ below (x_Qi g Qf) args s 0 0 (x_A g)) (F0 m 11 ls []) := by
  intro nn
  induction nn with
  | zero => intro v1 v2 v3 u H locs ls hw hl h; exact h.elim
  | succ nn ih =>
    intro v1 v2 v3 u H locs ls hw hl h
    unfold p_X11_saveOf_L11 at h
    have hx := C.1
    have hb := C.2.1
    refine lv_iload_n hx hb dX11_saveOf_11 rfl (lv_at hl 3 rfl) ?_
    refine lv_sipush (v := 4096) hx hb dX11_saveOf_12 (by decide) ?_
    refine lv_icmp_ge (tgt := 115) hx hb dX11_saveOf_15 (by decide) (fun c1 => ?_) (fun c1 => ?_)
    · have h := h.1 c1
      refine lv_aload_n hx hb dX11_saveOf_115 rfl (lv_at hl 0 rfl) ?_
      refine lv_iconst (v := 0) hx hb dX11_saveOf_116 (by decide) ?_
      obtain ⟨u2, eu2⟩ : ∃ q : xM, q = si u 272 25 (0 : Int32) := ⟨_, rfl⟩
      have h := h u2 eu2
      refine x_puti (ci := 11) (ty := .boolean) C hw 25 (xoM_272 hM) rfl inlX11 tyX11_ok nmX11 (by decide) rfl rfl xw_1208 rfl (by decide +kernel) rfl rfl dX11_saveOf_117 eu2 (fun H locs hw => ?_)
      refine lv_iload_n hx hb dX11_saveOf_120 rfl (lv_at hl 2 rfl) ?_
      exact x_iret C hw h dX11_saveOf_121
    · have h := h.2 c1
      refine lv_iload_n hx hb dX11_saveOf_18 rfl (lv_at hl 3 rfl) ?_
      refine x_calli hw (x_runS C hw (m_X11_bits l C.2.2.2.2.2.2.2.2.1  h) (x_gS xw_1320 xw_1321 xw_5 xw_1322) rfl rfl qX11_bits ⟨(Nat.le_of_ble_eq_true rfl), (Nat.le_of_ble_eq_true rfl)⟩ rfl hl.1 rfl (Nat.le_of_ble_eq_true rfl) dX11_saveOf_19) (fun r4 u3 H locs hw h => ?_)
      refine lv_iload_n hx hb dX11_saveOf_22 rfl (lv_at hl 1 rfl) ?_
      refine lv_icmp_eq (tgt := 29) hx hb dX11_saveOf_23 (by decide) (fun c5 => ?_) (fun c5 => ?_)
      · have h := h.1 c5
        refine lv_iconst (v := 0) hx hb dX11_saveOf_29 (by decide) ?_
        refine lv_istore (lv' := [(4, .int 0), (0, .ref (xad g 272)), (1, .int v1), (2, .int v2), (3, .int v3)]) hx hb dX11_saveOf_30 hl (by decide) rfl (fun ls hl => ?_)
        obtain ⟨n9, h⟩ := h
        exact s_X11_saveOf_L32 C hM (fun hw hl h => ih hw hl h) n9 hw (lv_sub hl [1, 2, 3, 4, 0] rfl) h
      · have h := h.2 c5
        refine lv_goto (tgt := 109) hx hb dX11_saveOf_26 (by decide) ?_
        obtain ⟨x6, ex6⟩ : ∃ y : Int32, y = v3 + 1 := ⟨_, rfl⟩
        have h := h x6 ex6
        refine lv_iinc (v := x6) (lv' := [(3, .int x6), (0, .ref (xad g 272)), (1, .int v1), (2, .int v2)]) hx hb dX11_saveOf_109 hl (k := 3) rfl (by rw [ex6]; rfl) (by decide) rfl (fun ls hl => ?_)
        refine lv_goto (tgt := 11) hx hb dX11_saveOf_112 (by decide) ?_
        exact ih hw (lv_sub hl [1, 2, 3, 0] rfl) h
set_option maxHeartbeats 4000000 in
set_option maxRecDepth 100000 in
theorem s_X11_saveOf {Qf : Int32 → xM → Prop} {a1 : Int32} (C : x_C p s m args meth c g RX11 cX11_saveOf 5 (some .int)) (hM : xpM g) {u : xM} {H : Heap} {locs : List Loc} {ls : Array Slot} (hw : x_W g s.heap H locs u) (hl : lv_has ls 5 [(0, .ref (xad g 272)), (1, .int a1)]) (h : p_X11_saveOf a1 u Qf) : W p l e (x_rm 8 176) s m args below meth c H locs 0 0 (MQ below (x_Qi g Qf) args s 0 0 (x_A g)) (F0 m 0 ls []) := by
  unfold p_X11_saveOf at h
  have hx := C.1
  have hb := C.2.1
  refine lv_iconst (v := -1) hx hb dX11_saveOf_0 (by decide) ?_
  refine lv_istore_n (lv' := [(2, .int (-1)), (0, .ref (xad g 272)), (1, .int a1)]) hx hb dX11_saveOf_1 rfl hl (by decide) rfl (fun ls hl => ?_)
  refine lv_aload_n hx hb dX11_saveOf_2 rfl (lv_at hl 1 rfl) ?_
  refine lv_sipush (v := 3144) hx hb dX11_saveOf_3 (by decide) ?_
  refine x_callv hw (x_runV (ci := 11) C hw (m_X11_keeps l C.2.2.2.2.2.2.2.2.1 hM h) (xoM_272 hM) rfl (x_gV xw_1342 xw_1343 xw_1344 xw_5 xw_1345) rfl rfl qX11_keeps ⟨(Nat.le_of_ble_eq_true rfl), (Nat.le_of_ble_eq_true rfl)⟩ rfl hl.1 rfl (Nat.le_of_ble_eq_true rfl) dX11_saveOf_6) (fun u1 H locs hw h => ?_)
  refine lv_iconst (v := 0) hx hb dX11_saveOf_9 (by decide) ?_
  refine lv_istore_n (lv' := [(3, .int 0), (2, .int (-1)), (0, .ref (xad g 272)), (1, .int a1)]) hx hb dX11_saveOf_10 rfl hl (by decide) rfl (fun ls hl => ?_)
  obtain ⟨n9, h⟩ := h
  exact s_X11_saveOf_L11 C hM n9 hw (lv_sub hl [2, 3, 1, 0] rfl) h
set_option maxHeartbeats 4000000 in
set_option maxRecDepth 100000 in
theorem m_X11_saveOf (l : Launch) {g : xG} (hD : x_D g) (hM : xpM g) {a1 : Int32} {u : xM} {Qf : Int32 → xM → Prop} (h : p_X11_saveOf a1 u Qf) : Met l yX11_saveOf (Cond.code yX11_saveOf cX11_saveOf 5 (some .int) :: wsL_law) (x_rm 8 176) (va_Pc [.ref (xad g 272), .int a1] (x_B g u)) (x_Qi g Qf) 0 0 (x_A g) := by
  refine Met.ofW (cc := cX11_saveOf) (maxL := 5) (ret := (some .int)) (by decide) rfl ?_
  intro p e s m args below meth c s₁ B hml hv
  obtain ⟨rfl, hB⟩ := hv
  obtain ⟨C, hw⟩ := x_start B hml hD hB
  have hl := lv_entry [.ref (xad g 272), .int a1] (n := 5) (Nat.le_of_ble_eq_true rfl)
  rw [lg_entry_eq]
  exact s_X11_saveOf C hM hw hl h
set_option maxHeartbeats 4000000 in
set_option maxRecDepth 100000 in
theorem s_X11_save {Qf : Int32 → xM → Prop} {a1 : Int32} (C : x_C p s m args meth c g RX11 cX11_save 2 (some .int)) (hM : xpM g) {u : xM} {H : Heap} {locs : List Loc} {ls : Array Slot} (hw : x_W g s.heap H locs u) (hl : lv_has ls 2 [(0, .ref (xad g 272)), (1, .int a1)]) (h : p_X11_save a1 u Qf) : W p l e (x_rm 9 200) s m args below meth c H locs 0 0 (MQ below (x_Qi g Qf) args s 0 0 (x_A g)) (F0 m 0 ls []) := by
  unfold p_X11_save at h
  have hx := C.1
  have hb := C.2.1
  refine lv_iload_n hx hb dX11_save_0 rfl (lv_at hl 1 rfl) ?_
  refine lv_i2l hx hb dX11_save_1 rfl ?_
  refine lv_lconst (v := 0) hx hb dX11_save_2 (by decide) ?_
  refine lv_ldc2 (v := 12) hx hb C.2.2.2.1 (C.2.2.2.2.1 _ xw_1683) dX11_save_3 ?_
  refine x_callz hw (x_runS C hw (m_X11_isFrom l C.2.2.2.2.2.2.2.2.1  h) (x_gS xw_1197 xw_1198 xw_5 xw_1199) rfl rfl qX11_isFrom ⟨(Nat.le_of_ble_eq_true rfl), (Nat.le_of_ble_eq_true rfl)⟩ rfl hl.1 rfl (Nat.le_of_ble_eq_true rfl) dX11_save_6) (fun r2 u1 H locs hw h => ?_)
  refine lv_if_ne (tgt := 18) hx hb dX11_save_9 (by decide) (fun c3 => ?_) (fun c3 => ?_)
  · have h := h.1 (xb_t c3)
    refine lv_aload_n hx hb dX11_save_18 rfl (lv_at hl 0 rfl) ?_
    refine lv_iload_n hx hb dX11_save_19 rfl (lv_at hl 1 rfl) ?_
    refine x_calli hw (x_runV (ci := 11) C hw (m_X11_saveOf l C.2.2.2.2.2.2.2.2.1 hM h) (xoM_272 hM) rfl (x_gV xw_1685 xw_1686 xw_1687 xw_5 xw_1688) rfl rfl qX11_saveOf ⟨(Nat.le_of_ble_eq_true rfl), (Nat.le_of_ble_eq_true rfl)⟩ rfl hl.1 rfl (Nat.le_of_ble_eq_true rfl) dX11_save_20) (fun r5 u4 H locs hw h => ?_)
    refine lv_pop hx hb dX11_save_23 rfl ?_
    refine lv_aload_n hx hb dX11_save_24 rfl (lv_at hl 0 rfl) ?_
    refine lv_aload_n hx hb dX11_save_25 rfl (lv_at hl 0 rfl) ?_
    refine x_geti (ci := 11) C hw 34 (xoM_272 hM) rfl inlX11 (by decide) rfl rfl xw_1684 dX11_save_26 ?_
    refine x_calli hw (x_runV (ci := 11) C hw (m_X11_gives l C.2.2.2.2.2.2.2.2.1 hM h) (xoM_272 hM) rfl (x_gV xw_731 xw_732 xw_733 xw_5 xw_734) rfl rfl qX11_gives ⟨(Nat.le_of_ble_eq_true rfl), (Nat.le_of_ble_eq_true rfl)⟩ rfl hl.1 rfl (Nat.le_of_ble_eq_true rfl) dX11_save_29) (fun r7 u6 H locs hw h => ?_)
    exact x_iret C hw h dX11_save_32
  · have h := h.2 (xb_f c3)
    refine lv_aload_n hx hb dX11_save_12 rfl (lv_at hl 0 rfl) ?_
    refine lv_iconst (v := 1) hx hb dX11_save_13 (by decide) ?_
    refine x_calli hw (x_runV (ci := 11) C hw (m_X11_refuse l C.2.2.2.2.2.2.2.2.1 hM h) (xoM_272 hM) rfl (x_gV xw_657 xw_658 xw_659 xw_5 xw_660) rfl rfl qX11_refuse ⟨(Nat.le_of_ble_eq_true rfl), (Nat.le_of_ble_eq_true rfl)⟩ rfl hl.1 rfl (Nat.le_of_ble_eq_true rfl) dX11_save_14) (fun r9 u8 H locs hw h => ?_)
    exact x_iret C hw h dX11_save_17
set_option maxHeartbeats 4000000 in
set_option maxRecDepth 100000 in
theorem m_X11_save (l : Launch) {g : xG} (hD : x_D g) (hM : xpM g) {a1 : Int32} {u : xM} {Qf : Int32 → xM → Prop} (h : p_X11_save a1 u Qf) : Met l yX11_save (Cond.code yX11_save cX11_save 2 (some .int) :: wsL_law) (x_rm 9 200) (va_Pc [.ref (xad g 272), .int a1] (x_B g u)) (x_Qi g Qf) 0 0 (x_A g) := by
  refine Met.ofW (cc := cX11_save) (maxL := 2) (ret := (some .int)) (by decide) rfl ?_
  intro p e s m args below meth c s₁ B hml hv
  obtain ⟨rfl, hB⟩ := hv
  obtain ⟨C, hw⟩ := x_start B hml hD hB
  have hl := lv_entry [.ref (xad g 272), .int a1] (n := 2) (Nat.le_of_ble_eq_true rfl)
  rw [lg_entry_eq]
  exact s_X11_save C hM hw hl h
set_option maxHeartbeats 4000000 in
set_option maxRecDepth 100000 in
theorem s_X11_saveSet {Qf : Int32 → xM → Prop} {a1 : Int32} (C : x_C p s m args meth c g RX11 cX11_saveSet 2 (some .int)) (hM : xpM g) {u : xM} {H : Heap} {locs : List Loc} {ls : Array Slot} (hw : x_W g s.heap H locs u) (hl : lv_has ls 2 [(0, .ref (xad g 272)), (1, .int a1)]) (h : p_X11_saveSet a1 u Qf) : W p l e (x_rm 9 200) s m args below meth c H locs 0 0 (MQ below (x_Qi g Qf) args s 0 0 (x_A g)) (F0 m 0 ls []) := by
  unfold p_X11_saveSet at h
  have hx := C.1
  have hb := C.2.1
  refine lv_iload_n hx hb dX11_saveSet_0 rfl (lv_at hl 1 rfl) ?_
  refine lv_i2l hx hb dX11_saveSet_1 rfl ?_
  refine lv_lconst (v := 0) hx hb dX11_saveSet_2 (by decide) ?_
  refine lv_ldc2 (v := 12) hx hb C.2.2.2.1 (C.2.2.2.2.1 _ xw_1683) dX11_saveSet_3 ?_
  refine x_callz hw (x_runS C hw (m_X11_isFrom l C.2.2.2.2.2.2.2.2.1  h) (x_gS xw_1197 xw_1198 xw_5 xw_1199) rfl rfl qX11_isFrom ⟨(Nat.le_of_ble_eq_true rfl), (Nat.le_of_ble_eq_true rfl)⟩ rfl hl.1 rfl (Nat.le_of_ble_eq_true rfl) dX11_saveSet_6) (fun r2 u1 H locs hw h => ?_)
  refine lv_if_eq (tgt := 24) hx hb dX11_saveSet_9 (by decide) (fun c3 => ?_) (fun c3 => ?_)
  · have h := h.1 (xb_f c3)
    refine lv_aload_n hx hb dX11_saveSet_24 rfl (lv_at hl 0 rfl) ?_
    refine lv_iconst (v := 1) hx hb dX11_saveSet_25 (by decide) ?_
    refine x_calli hw (x_runV (ci := 11) C hw (m_X11_refuse l C.2.2.2.2.2.2.2.2.1 hM h) (xoM_272 hM) rfl (x_gV xw_657 xw_658 xw_659 xw_5 xw_660) rfl rfl qX11_refuse ⟨(Nat.le_of_ble_eq_true rfl), (Nat.le_of_ble_eq_true rfl)⟩ rfl hl.1 rfl (Nat.le_of_ble_eq_true rfl) dX11_saveSet_26) (fun r5 u4 H locs hw h => ?_)
    exact x_iret C hw h dX11_saveSet_29
  · have h := h.2 (xb_t c3)
    refine lv_aload_n hx hb dX11_saveSet_12 rfl (lv_at hl 0 rfl) ?_
    refine lv_aload_n hx hb dX11_saveSet_13 rfl (lv_at hl 0 rfl) ?_
    refine lv_iload_n hx hb dX11_saveSet_14 rfl (lv_at hl 1 rfl) ?_
    refine x_calli hw (x_runV (ci := 11) C hw (m_X11_saveOf l C.2.2.2.2.2.2.2.2.1 hM h) (xoM_272 hM) rfl (x_gV xw_1685 xw_1686 xw_1687 xw_5 xw_1688) rfl rfl qX11_saveOf ⟨(Nat.le_of_ble_eq_true rfl), (Nat.le_of_ble_eq_true rfl)⟩ rfl hl.1 rfl (Nat.le_of_ble_eq_true rfl) dX11_saveSet_15) (fun r7 u6 H locs hw h => ?_)
    refine x_calli hw (x_runV (ci := 11) C hw (m_X11_gives l C.2.2.2.2.2.2.2.2.1 hM h) (xoM_272 hM) rfl (x_gV xw_731 xw_732 xw_733 xw_5 xw_734) rfl rfl qX11_gives ⟨(Nat.le_of_ble_eq_true rfl), (Nat.le_of_ble_eq_true rfl)⟩ rfl hl.1 rfl (Nat.le_of_ble_eq_true rfl) dX11_saveSet_18) (fun r9 u8 H locs hw h => ?_)
    refine lv_goto (tgt := 29) hx hb dX11_saveSet_21 (by decide) ?_
    exact x_iret C hw h dX11_saveSet_29
set_option maxHeartbeats 4000000 in
set_option maxRecDepth 100000 in
theorem m_X11_saveSet (l : Launch) {g : xG} (hD : x_D g) (hM : xpM g) {a1 : Int32} {u : xM} {Qf : Int32 → xM → Prop} (h : p_X11_saveSet a1 u Qf) : Met l yX11_saveSet (Cond.code yX11_saveSet cX11_saveSet 2 (some .int) :: wsL_law) (x_rm 9 200) (va_Pc [.ref (xad g 272), .int a1] (x_B g u)) (x_Qi g Qf) 0 0 (x_A g) := by
  refine Met.ofW (cc := cX11_saveSet) (maxL := 2) (ret := (some .int)) (by decide) rfl ?_
  intro p e s m args below meth c s₁ B hml hv
  obtain ⟨rfl, hB⟩ := hv
  obtain ⟨C, hw⟩ := x_start B hml hD hB
  have hl := lv_entry [.ref (xad g 272), .int a1] (n := 2) (Nat.le_of_ble_eq_true rfl)
  rw [lg_entry_eq]
  exact s_X11_saveSet C hM hw hl h
set_option maxHeartbeats 4000000 in
set_option maxRecDepth 100000 in
theorem s_X11_damageOf {Qf : Int32 → xM → Prop} {a1 : Int32} (C : x_C p s m args meth c g RX11 cX11_damageOf 3 (some .int)) (hM : xpM g) {u : xM} {H : Heap} {locs : List Loc} {ls : Array Slot} (hw : x_W g s.heap H locs u) (hl : lv_has ls 3 [(0, .ref (xad g 272)), (1, .int a1)]) (h : p_X11_damageOf a1 u Qf) : W p l e (x_rm 10 222) s m args below meth c H locs 0 0 (MQ below (x_Qi g Qf) args s 0 0 (x_A g)) (F0 m 0 ls []) := by
  unfold p_X11_damageOf at h
  have hx := C.1
  have hb := C.2.1
  refine lv_aload_n hx hb dX11_damageOf_0 rfl (lv_at hl 0 rfl) ?_
  refine lv_iload_n hx hb dX11_damageOf_1 rfl (lv_at hl 1 rfl) ?_
  obtain ⟨u1, eu1⟩ : ∃ q : xM, q = si u 272 23 a1 := ⟨_, rfl⟩
  have h := h u1 eu1
  refine x_puti (ci := 11) (ty := .int) C hw 23 (xoM_272 hM) rfl inlX11 tyX11_ok nmX11 (by decide) rfl rfl xw_230 rfl (by decide +kernel) rfl rfl dX11_damageOf_2 eu1 (fun H locs hw => ?_)
  refine lv_aload_n hx hb dX11_damageOf_5 rfl (lv_at hl 0 rfl) ?_
  refine lv_iconst (v := -1) hx hb dX11_damageOf_6 (by decide) ?_
  refine lv_bipush (v := 12) hx hb dX11_damageOf_7 (by decide) ?_
  refine x_calli hw (x_runV (ci := 11) C hw (m_X11_waterIn l C.2.2.2.2.2.2.2.2.1 hM h) (xoM_272 hM) rfl (x_gV xw_1338 xw_1339 xw_1340 xw_5 xw_1341) rfl rfl qX11_waterIn ⟨(Nat.le_of_ble_eq_true rfl), (Nat.le_of_ble_eq_true rfl)⟩ rfl hl.1 rfl (Nat.le_of_ble_eq_true rfl) dX11_damageOf_9) (fun r3 u2 H locs hw h => ?_)
  refine lv_istore_n (lv' := [(2, .int r3), (0, .ref (xad g 272)), (1, .int a1)]) hx hb dX11_damageOf_12 rfl hl (by decide) rfl (fun ls hl => ?_)
  refine lv_aload_n hx hb dX11_damageOf_13 rfl (lv_at hl 1 rfl) ?_
  refine lv_iconst (v := -1) hx hb dX11_damageOf_14 (by decide) ?_
  obtain ⟨u4, eu4⟩ : ∃ q : xM, q = si u2 272 23 (-1 : Int32) := ⟨_, rfl⟩
  have h := h u4 eu4
  refine x_puti (ci := 11) (ty := .int) C hw 23 (xoM_272 hM) rfl inlX11 tyX11_ok nmX11 (by decide) rfl rfl xw_230 rfl (by decide +kernel) rfl rfl dX11_damageOf_15 eu4 (fun H locs hw => ?_)
  refine lv_iload_n hx hb dX11_damageOf_18 rfl (lv_at hl 0 rfl) ?_
  exact x_iret C hw h dX11_damageOf_19
set_option maxHeartbeats 4000000 in
set_option maxRecDepth 100000 in
theorem m_X11_damageOf (l : Launch) {g : xG} (hD : x_D g) (hM : xpM g) {a1 : Int32} {u : xM} {Qf : Int32 → xM → Prop} (h : p_X11_damageOf a1 u Qf) : Met l yX11_damageOf (Cond.code yX11_damageOf cX11_damageOf 3 (some .int) :: wsL_law) (x_rm 10 222) (va_Pc [.ref (xad g 272), .int a1] (x_B g u)) (x_Qi g Qf) 0 0 (x_A g) := by
  refine Met.ofW (cc := cX11_damageOf) (maxL := 3) (ret := (some .int)) (by decide) rfl ?_
  intro p e s m args below meth c s₁ B hml hv
  obtain ⟨rfl, hB⟩ := hv
  obtain ⟨C, hw⟩ := x_start B hml hD hB
  have hl := lv_entry [.ref (xad g 272), .int a1] (n := 3) (Nat.le_of_ble_eq_true rfl)
  rw [lg_entry_eq]
  exact s_X11_damageOf C hM hw hl h
set_option maxHeartbeats 4000000 in
set_option maxRecDepth 100000 in
theorem s_X11_isSet {Qf : Bool → xM → Prop} {a1 : Int32} (C : x_C p s m args meth c g RX11 cX11_isSet 2 (some .boolean)) (hM : xpM g) {u : xM} {H : Heap} {locs : List Loc} {ls : Array Slot} (hw : x_W g s.heap H locs u) (hl : lv_has ls 2 [(0, .ref (xad g 272)), (1, .int a1)]) (h : p_X11_isSet a1 u Qf) : W p l e (x_rm 1 25) s m args below meth c H locs 0 0 (MQ below (x_Qz g Qf) args s 0 0 (x_A g)) (F0 m 0 ls []) := by
  unfold p_X11_isSet at h
  have hx := C.1
  have hb := C.2.1
  refine lv_iload_n hx hb dX11_isSet_0 rfl (lv_at hl 1 rfl) ?_
  refine lv_i2l hx hb dX11_isSet_1 rfl ?_
  refine lv_lconst (v := 0) hx hb dX11_isSet_2 (by decide) ?_
  refine lv_lconst (v := 1) hx hb dX11_isSet_3 (by decide) ?_
  refine lv_aload_n hx hb dX11_isSet_4 rfl (lv_at hl 0 rfl) ?_
  refine x_getr (ci := 11) C hw 0 (xoM_272 hM) rfl inlX11 (by decide) rfl rfl xrM_272_0 xw_219 dX11_isSet_5 ?_
  refine lv_iconst (v := 1) hx hb dX11_isSet_8 (by decide) ?_
  have c1 := h.1
  have h := h.2
  refine x_iald C hw (xoM_273 hM) c1 dX11_isSet_9 ?_
  refine lv_lshl hx hb dX11_isSet_10 rfl ?_
  refine lv_lconst (v := 1) hx hb dX11_isSet_11 (by decide) ?_
  refine lv_lsub hx hb dX11_isSet_12 ?_
  refine x_callz hw (x_runS C hw (m_X11_isFrom l C.2.2.2.2.2.2.2.2.1  h) (x_gS xw_1197 xw_1198 xw_5 xw_1199) rfl rfl qX11_isFrom ⟨(Nat.le_of_ble_eq_true rfl), (Nat.le_of_ble_eq_true rfl)⟩ rfl hl.1 rfl (Nat.le_of_ble_eq_true rfl) dX11_isSet_13) (fun r3 u2 H locs hw h => ?_)
  exact x_zret _ C hw h rfl dX11_isSet_16
set_option maxHeartbeats 4000000 in
set_option maxRecDepth 100000 in
theorem m_X11_isSet (l : Launch) {g : xG} (hD : x_D g) (hM : xpM g) {a1 : Int32} {u : xM} {Qf : Bool → xM → Prop} (h : p_X11_isSet a1 u Qf) : Met l yX11_isSet (Cond.code yX11_isSet cX11_isSet 2 (some .boolean) :: wsL_law) (x_rm 1 25) (va_Pc [.ref (xad g 272), .int a1] (x_B g u)) (x_Qz g Qf) 0 0 (x_A g) := by
  refine Met.ofW (cc := cX11_isSet) (maxL := 2) (ret := (some .boolean)) (by decide) rfl ?_
  intro p e s m args below meth c s₁ B hml hv
  obtain ⟨rfl, hB⟩ := hv
  obtain ⟨C, hw⟩ := x_start B hml hD hB
  have hl := lv_entry [.ref (xad g 272), .int a1] (n := 2) (Nat.le_of_ble_eq_true rfl)
  rw [lg_entry_eq]
  exact s_X11_isSet C hM hw hl h
set_option maxHeartbeats 4000000 in
set_option maxRecDepth 100000 in
theorem s_X11_damage {Qf : Int32 → xM → Prop} {a1 : Int32} (C : x_C p s m args meth c g RX11 cX11_damage 2 (some .int)) (hM : xpM g) {u : xM} {H : Heap} {locs : List Loc} {ls : Array Slot} (hw : x_W g s.heap H locs u) (hl : lv_has ls 2 [(0, .ref (xad g 272)), (1, .int a1)]) (h : p_X11_damage a1 u Qf) : W p l e (x_rm 11 244) s m args below meth c H locs 0 0 (MQ below (x_Qi g Qf) args s 0 0 (x_A g)) (F0 m 0 ls []) := by
  unfold p_X11_damage at h
  have hx := C.1
  have hb := C.2.1
  refine lv_aload_n hx hb dX11_damage_0 rfl (lv_at hl 0 rfl) ?_
  refine lv_iload_n hx hb dX11_damage_1 rfl (lv_at hl 1 rfl) ?_
  refine x_callz hw (x_runV (ci := 11) C hw (m_X11_isSet l C.2.2.2.2.2.2.2.2.1 hM h) (xoM_272 hM) rfl (x_gV xw_1718 xw_1719 xw_1720 xw_5 xw_1721) rfl rfl qX11_isSet ⟨(Nat.le_of_ble_eq_true rfl), (Nat.le_of_ble_eq_true rfl)⟩ rfl hl.1 rfl (Nat.le_of_ble_eq_true rfl) dX11_damage_2) (fun r2 u1 H locs hw h => ?_)
  refine lv_if_eq (tgt := 20) hx hb dX11_damage_5 (by decide) (fun c3 => ?_) (fun c3 => ?_)
  · have h := h.1 (xb_f c3)
    refine lv_aload_n hx hb dX11_damage_20 rfl (lv_at hl 0 rfl) ?_
    refine lv_iconst (v := 1) hx hb dX11_damage_21 (by decide) ?_
    refine x_calli hw (x_runV (ci := 11) C hw (m_X11_refuse l C.2.2.2.2.2.2.2.2.1 hM h) (xoM_272 hM) rfl (x_gV xw_657 xw_658 xw_659 xw_5 xw_660) rfl rfl qX11_refuse ⟨(Nat.le_of_ble_eq_true rfl), (Nat.le_of_ble_eq_true rfl)⟩ rfl hl.1 rfl (Nat.le_of_ble_eq_true rfl) dX11_damage_22) (fun r5 u4 H locs hw h => ?_)
    exact x_iret C hw h dX11_damage_25
  · have h := h.2 (xb_t c3)
    refine lv_aload_n hx hb dX11_damage_8 rfl (lv_at hl 0 rfl) ?_
    refine lv_aload_n hx hb dX11_damage_9 rfl (lv_at hl 0 rfl) ?_
    refine lv_iload_n hx hb dX11_damage_10 rfl (lv_at hl 1 rfl) ?_
    refine x_calli hw (x_runV (ci := 11) C hw (m_X11_damageOf l C.2.2.2.2.2.2.2.2.1 hM h) (xoM_272 hM) rfl (x_gV xw_1722 xw_1723 xw_1724 xw_5 xw_1725) rfl rfl qX11_damageOf ⟨(Nat.le_of_ble_eq_true rfl), (Nat.le_of_ble_eq_true rfl)⟩ rfl hl.1 rfl (Nat.le_of_ble_eq_true rfl) dX11_damage_11) (fun r7 u6 H locs hw h => ?_)
    refine x_calli hw (x_runV (ci := 11) C hw (m_X11_gives l C.2.2.2.2.2.2.2.2.1 hM h) (xoM_272 hM) rfl (x_gV xw_731 xw_732 xw_733 xw_5 xw_734) rfl rfl qX11_gives ⟨(Nat.le_of_ble_eq_true rfl), (Nat.le_of_ble_eq_true rfl)⟩ rfl hl.1 rfl (Nat.le_of_ble_eq_true rfl) dX11_damage_14) (fun r9 u8 H locs hw h => ?_)
    refine lv_goto (tgt := 25) hx hb dX11_damage_17 (by decide) ?_
    exact x_iret C hw h dX11_damage_25
set_option maxHeartbeats 4000000 in
set_option maxRecDepth 100000 in
theorem m_X11_damage (l : Launch) {g : xG} (hD : x_D g) (hM : xpM g) {a1 : Int32} {u : xM} {Qf : Int32 → xM → Prop} (h : p_X11_damage a1 u Qf) : Met l yX11_damage (Cond.code yX11_damage cX11_damage 2 (some .int) :: wsL_law) (x_rm 11 244) (va_Pc [.ref (xad g 272), .int a1] (x_B g u)) (x_Qi g Qf) 0 0 (x_A g) := by
  refine Met.ofW (cc := cX11_damage) (maxL := 2) (ret := (some .int)) (by decide) rfl ?_
  intro p e s m args below meth c s₁ B hml hv
  obtain ⟨rfl, hB⟩ := hv
  obtain ⟨C, hw⟩ := x_start B hml hD hB
  have hl := lv_entry [.ref (xad g 272), .int a1] (n := 2) (Nat.le_of_ble_eq_true rfl)
  rw [lg_entry_eq]
  exact s_X11_damage C hM hw hl h
set_option maxHeartbeats 4000000 in
set_option maxRecDepth 100000 in
theorem s_X11_orders_L4 {Qf : Int64 → xM → Prop} (C : x_C p s m args meth c g RX11 cX11_orders 4 (some .long)) : ∀ (nn : Nat) {v0 : Int32} {v1 : Int64} {v3 : Int32} {u : xM} {H : Heap} {locs : List Loc} {ls : Array Slot} (hw : x_W g s.heap H locs u) (hl : lv_has ls 4 [(0, .int v0), (1, .long v1), (3, .int v3)]) (h : p_X11_orders_L4 Qf nn v0 v1 v3 u), W p l e (x_rm 0 0) s m args below meth c H locs 0 0 (MQ below (x_Ql g Qf) args s 0 0 (x_A g)) (F0 m 4 ls []) := by
  intro nn
  induction nn with
  | zero => intro v0 v1 v3 u H locs ls hw hl h; exact h.elim
  | succ nn ih =>
    intro v0 v1 v3 u H locs ls hw hl h
    unfold p_X11_orders_L4 at h
    have hx := C.1
    have hb := C.2.1
    refine lv_iload_n hx hb dX11_orders_4 rfl (lv_at hl 2 rfl) ?_
    refine lv_iload_n hx hb dX11_orders_5 rfl (lv_at hl 0 rfl) ?_
    refine lv_icmp_gt (tgt := 20) hx hb dX11_orders_6 (by decide) (fun c1 => ?_) (fun c1 => ?_)
    · have h := h.1 c1
      refine lv_lload_n hx hb dX11_orders_20 rfl (lv_at hl 1 rfl) ?_
      exact x_lret C hw h dX11_orders_21
    · have h := h.2 c1
      refine lv_lload_n hx hb dX11_orders_9 rfl (lv_at hl 1 rfl) ?_
      refine lv_iload_n hx hb dX11_orders_10 rfl (lv_at hl 2 rfl) ?_
      refine lv_i2l hx hb dX11_orders_11 rfl ?_
      refine lv_lmul hx hb dX11_orders_12 ?_
      refine lv_topl (fun x2 ex2 => ?_)
      have h := h x2 ex2
      refine lv_lstore_n (lv' := [(1, .long x2), (0, .int v0), (3, .int v3)]) hx hb dX11_orders_13 rfl hl (by decide) rfl (fun ls hl => ?_)
      obtain ⟨x3, ex3⟩ : ∃ y : Int32, y = v3 + 1 := ⟨_, rfl⟩
      have h := h x3 ex3
      refine lv_iinc (v := x3) (lv' := [(3, .int x3), (1, .long x2), (0, .int v0)]) hx hb dX11_orders_14 hl (k := 2) rfl (by rw [ex3]; rfl) (by decide) rfl (fun ls hl => ?_)
      refine lv_goto (tgt := 4) hx hb dX11_orders_17 (by decide) ?_
      exact ih hw (lv_sub hl [2, 1, 0] rfl) h
set_option maxHeartbeats 4000000 in
set_option maxRecDepth 100000 in
theorem s_X11_orders {Qf : Int64 → xM → Prop} {a1 : Int32} (C : x_C p s m args meth c g RX11 cX11_orders 4 (some .long)) {u : xM} {H : Heap} {locs : List Loc} {ls : Array Slot} (hw : x_W g s.heap H locs u) (hl : lv_has ls 4 [(0, .int a1)]) (h : p_X11_orders a1 u Qf) : W p l e (x_rm 0 0) s m args below meth c H locs 0 0 (MQ below (x_Ql g Qf) args s 0 0 (x_A g)) (F0 m 0 ls []) := by
  unfold p_X11_orders at h
  have hx := C.1
  have hb := C.2.1
  refine lv_lconst (v := 1) hx hb dX11_orders_0 (by decide) ?_
  refine lv_lstore_n (lv' := [(1, .long 1), (0, .int a1)]) hx hb dX11_orders_1 rfl hl (by decide) rfl (fun ls hl => ?_)
  refine lv_iconst (v := 2) hx hb dX11_orders_2 (by decide) ?_
  refine lv_istore_n (lv' := [(3, .int 2), (1, .long 1), (0, .int a1)]) hx hb dX11_orders_3 rfl hl (by decide) rfl (fun ls hl => ?_)
  obtain ⟨n9, h⟩ := h
  exact s_X11_orders_L4 C n9 hw (lv_sub hl [2, 1, 0] rfl) h
set_option maxHeartbeats 4000000 in
set_option maxRecDepth 100000 in
theorem m_X11_orders (l : Launch) {g : xG} (hD : x_D g) {a1 : Int32} {u : xM} {Qf : Int64 → xM → Prop} (h : p_X11_orders a1 u Qf) : Met l yX11_orders (Cond.code yX11_orders cX11_orders 4 (some .long) :: wsL_law) (x_rm 0 0) (va_Pc [.int a1] (x_B g u)) (x_Ql g Qf) 0 0 (x_A g) := by
  refine Met.ofW (cc := cX11_orders) (maxL := 4) (ret := (some .long)) (by decide) rfl ?_
  intro p e s m args below meth c s₁ B hml hv
  obtain ⟨rfl, hB⟩ := hv
  obtain ⟨C, hw⟩ := x_start B hml hD hB
  have hl := lv_entry [.int a1] (n := 4) (Nat.le_of_ble_eq_true rfl)
  rw [lg_entry_eq]
  exact s_X11_orders C hw hl h
set_option maxHeartbeats 4000000 in
set_option maxRecDepth 100000 in
theorem s_X11_guilt_L50 {Qf : Bool → xM → Prop} (C : x_C p s m args meth c g RX11 cX11_guilt 7 (some .boolean)) (hM : xpM g) : ∀ (nn : Nat) {v1 : Int32} {v2 : Int32} {v3 : Int32} {v4 : Int64} {v6 : Int32} {u : xM} {H : Heap} {locs : List Loc} {ls : Array Slot} (hw : x_W g s.heap H locs u) (hl : lv_has ls 7 [(0, .ref (xad g 272)), (1, .int v1), (2, .int v2), (3, .int v3), (4, .long v4), (6, .int v6)]) (h : p_X11_guilt_L50 Qf nn v1 v2 v3 v4 v6 u), W p l e (x_rm 11 244) s m args below meth c H locs 0 0 (MQ below (x_Qz g Qf) args s 0 0 (x_A g)) (F0 m 50 ls []) := by
  intro nn
  induction nn with
  | zero => intro v1 v2 v3 v4 v6 u H locs ls hw hl h; exact h.elim
  | succ nn ih =>
    intro v1 v2 v3 v4 v6 u H locs ls hw hl h
    unfold p_X11_guilt_L50 at h
    have hx := C.1
    have hb := C.2.1
    refine lv_iload hx hb dX11_guilt_50 (lv_at hl 5 rfl) ?_
    refine lv_iload_n hx hb dX11_guilt_52 rfl (lv_at hl 2 rfl) ?_
    refine lv_icmp_gt (tgt := 126) hx hb dX11_guilt_53 (by decide) (fun c1 => ?_) (fun c1 => ?_)
    · have h := h.1 c1
      refine lv_aload_n hx hb dX11_guilt_126 rfl (lv_at hl 0 rfl) ?_
      refine lv_lload hx hb dX11_guilt_127 (lv_at hl 4 rfl) ?_
      refine lv_iload_n hx hb dX11_guilt_129 rfl (lv_at hl 3 rfl) ?_
      refine x_calll hw (x_runS C hw (m_X11_orders l C.2.2.2.2.2.2.2.2.1  h) (x_gS xw_1751 xw_1752 xw_5 xw_1753) rfl rfl qX11_orders ⟨(Nat.le_of_ble_eq_true rfl), (Nat.le_of_ble_eq_true rfl)⟩ rfl hl.1 rfl (Nat.le_of_ble_eq_true rfl) dX11_guilt_130) (fun r3 u2 H locs hw h => ?_)
      refine x_callz hw (x_runV (ci := 11) C hw (m_X11_tellsBy l C.2.2.2.2.2.2.2.2.1 hM h) (xoM_272 hM) rfl (x_gV xw_1754 xw_1755 xw_1756 xw_5 xw_1757) rfl rfl qX11_tellsBy ⟨(Nat.le_of_ble_eq_true rfl), (Nat.le_of_ble_eq_true rfl)⟩ rfl hl.1 rfl (Nat.le_of_ble_eq_true rfl) dX11_guilt_133) (fun r5 u4 H locs hw h => ?_)
      exact x_zret _ C hw h rfl dX11_guilt_136
    · have h := h.2 c1
      refine lv_iload hx hb dX11_guilt_56 (lv_at hl 5 rfl) ?_
      refine lv_iload_n hx hb dX11_guilt_58 rfl (lv_at hl 2 rfl) ?_
      refine lv_iconst (v := -1) hx hb dX11_guilt_59 (by decide) ?_
      refine lv_ixor hx hb dX11_guilt_60 ?_
      refine lv_iand hx hb dX11_guilt_61 ?_
      refine lv_if_ne (tgt := 120) hx hb dX11_guilt_62 (by decide) (fun c6 => ?_) (fun c6 => ?_)
      · have h := h.1 c6
        obtain ⟨x7, ex7⟩ : ∃ y : Int32, y = v6 + 1 := ⟨_, rfl⟩
        have h := h x7 ex7
        refine lv_iinc (v := x7) (lv' := [(6, .int x7), (0, .ref (xad g 272)), (1, .int v1), (2, .int v2), (3, .int v3), (4, .long v4)]) hx hb dX11_guilt_120 hl (k := 5) rfl (by rw [ex7]; rfl) (by decide) rfl (fun ls hl => ?_)
        refine lv_goto (tgt := 50) hx hb dX11_guilt_123 (by decide) ?_
        exact ih hw (lv_sub hl [1, 2, 3, 4, 5, 0] rfl) h
      · have h := h.2 c6
        refine lv_aload_n hx hb dX11_guilt_65 rfl (lv_at hl 0 rfl) ?_
        refine lv_iload hx hb dX11_guilt_66 (lv_at hl 5 rfl) ?_
        refine lv_iload_n hx hb dX11_guilt_68 rfl (lv_at hl 1 rfl) ?_
        refine x_callz hw (x_runV (ci := 11) C hw (m_X11_isIn l C.2.2.2.2.2.2.2.2.1 hM h) (xoM_272 hM) rfl (x_gV xw_918 xw_919 xw_920 xw_5 xw_921) rfl rfl qX11_isIn ⟨(Nat.le_of_ble_eq_true rfl), (Nat.le_of_ble_eq_true rfl)⟩ rfl hl.1 rfl (Nat.le_of_ble_eq_true rfl) dX11_guilt_69) (fun r9 u8 H locs hw h => ?_)
        refine lv_if_ne (tgt := 120) hx hb dX11_guilt_72 (by decide) (fun c10 => ?_) (fun c10 => ?_)
        · have h := h.1 (xb_t c10)
          obtain ⟨x11, ex11⟩ : ∃ y : Int32, y = v6 + 1 := ⟨_, rfl⟩
          have h := h x11 ex11
          refine lv_iinc (v := x11) (lv' := [(6, .int x11), (0, .ref (xad g 272)), (1, .int v1), (2, .int v2), (3, .int v3), (4, .long v4)]) hx hb dX11_guilt_120 hl (k := 5) rfl (by rw [ex11]; rfl) (by decide) rfl (fun ls hl => ?_)
          refine lv_goto (tgt := 50) hx hb dX11_guilt_123 (by decide) ?_
          exact ih hw (lv_sub hl [1, 2, 3, 4, 5, 0] rfl) h
        · have h := h.2 (xb_f c10)
          refine lv_lload hx hb dX11_guilt_75 (lv_at hl 4 rfl) ?_
          refine lv_iload hx hb dX11_guilt_77 (lv_at hl 5 rfl) ?_
          refine x_calli hw (x_runS C hw (m_X11_bits l C.2.2.2.2.2.2.2.2.1  h) (x_gS xw_1320 xw_1321 xw_5 xw_1322) rfl rfl qX11_bits ⟨(Nat.le_of_ble_eq_true rfl), (Nat.le_of_ble_eq_true rfl)⟩ rfl hl.1 rfl (Nat.le_of_ble_eq_true rfl) dX11_guilt_79) (fun r13 u12 H locs hw h => ?_)
          refine x_calll hw (x_runS C hw (m_X11_orders l C.2.2.2.2.2.2.2.2.1  h) (x_gS xw_1751 xw_1752 xw_5 xw_1753) rfl rfl qX11_orders ⟨(Nat.le_of_ble_eq_true rfl), (Nat.le_of_ble_eq_true rfl)⟩ rfl hl.1 rfl (Nat.le_of_ble_eq_true rfl) dX11_guilt_82) (fun r15 u14 H locs hw h => ?_)
          refine lv_iload_n hx hb dX11_guilt_85 rfl (lv_at hl 3 rfl) ?_
          refine lv_iload hx hb dX11_guilt_86 (lv_at hl 5 rfl) ?_
          refine x_calli hw (x_runS C hw (m_X11_bits l C.2.2.2.2.2.2.2.2.1  h) (x_gS xw_1320 xw_1321 xw_5 xw_1322) rfl rfl qX11_bits ⟨(Nat.le_of_ble_eq_true rfl), (Nat.le_of_ble_eq_true rfl)⟩ rfl hl.1 rfl (Nat.le_of_ble_eq_true rfl) dX11_guilt_88) (fun r17 u16 H locs hw h => ?_)
          refine lv_isub hx hb dX11_guilt_91 ?_
          refine lv_iconst (v := 1) hx hb dX11_guilt_92 (by decide) ?_
          refine lv_isub hx hb dX11_guilt_93 ?_
          refine x_calll hw (x_runS C hw (m_X11_orders l C.2.2.2.2.2.2.2.2.1  h) (x_gS xw_1751 xw_1752 xw_5 xw_1753) rfl rfl qX11_orders ⟨(Nat.le_of_ble_eq_true rfl), (Nat.le_of_ble_eq_true rfl)⟩ rfl hl.1 rfl (Nat.le_of_ble_eq_true rfl) dX11_guilt_94) (fun r19 u18 H locs hw h => ?_)
          refine lv_lmul hx hb dX11_guilt_97 ?_
          refine lv_aload_n hx hb dX11_guilt_98 rfl (lv_at hl 0 rfl) ?_
          refine lv_iload hx hb dX11_guilt_99 (lv_at hl 5 rfl) ?_
          refine lv_iconst (v := 1) hx hb dX11_guilt_101 (by decide) ?_
          refine lv_iload_n hx hb dX11_guilt_102 rfl (lv_at hl 1 rfl) ?_
          refine lv_ishl hx hb dX11_guilt_103 ?_
          refine lv_ior hx hb dX11_guilt_104 ?_
          refine x_calli hw (x_runV (ci := 11) C hw (m_X11_damageOf l C.2.2.2.2.2.2.2.2.1 hM h) (xoM_272 hM) rfl (x_gV xw_1722 xw_1723 xw_1724 xw_5 xw_1725) rfl rfl qX11_damageOf ⟨(Nat.le_of_ble_eq_true rfl), (Nat.le_of_ble_eq_true rfl)⟩ rfl hl.1 rfl (Nat.le_of_ble_eq_true rfl) dX11_guilt_105) (fun r21 u20 H locs hw h => ?_)
          refine lv_aload_n hx hb dX11_guilt_108 rfl (lv_at hl 0 rfl) ?_
          refine lv_iload hx hb dX11_guilt_109 (lv_at hl 5 rfl) ?_
          refine x_calli hw (x_runV (ci := 11) C hw (m_X11_damageOf l C.2.2.2.2.2.2.2.2.1 hM h) (xoM_272 hM) rfl (x_gV xw_1722 xw_1723 xw_1724 xw_5 xw_1725) rfl rfl qX11_damageOf ⟨(Nat.le_of_ble_eq_true rfl), (Nat.le_of_ble_eq_true rfl)⟩ rfl hl.1 rfl (Nat.le_of_ble_eq_true rfl) dX11_guilt_111) (fun r23 u22 H locs hw h => ?_)
          refine lv_isub hx hb dX11_guilt_114 ?_
          refine lv_i2l hx hb dX11_guilt_115 rfl ?_
          refine lv_lmul hx hb dX11_guilt_116 ?_
          refine lv_ladd hx hb dX11_guilt_117 ?_
          refine lv_topl (fun x24 ex24 => ?_)
          have h := h x24 ex24
          refine lv_lstore (lv' := [(4, .long x24), (0, .ref (xad g 272)), (1, .int v1), (2, .int v2), (3, .int v3), (6, .int v6)]) hx hb dX11_guilt_118 hl (by decide) rfl (fun ls hl => ?_)
          obtain ⟨x25, ex25⟩ : ∃ y : Int32, y = v6 + 1 := ⟨_, rfl⟩
          have h := h x25 ex25
          refine lv_iinc (v := x25) (lv' := [(6, .int x25), (4, .long x24), (0, .ref (xad g 272)), (1, .int v1), (2, .int v2), (3, .int v3)]) hx hb dX11_guilt_120 hl (k := 5) rfl (by rw [ex25]; rfl) (by decide) rfl (fun ls hl => ?_)
          refine lv_goto (tgt := 50) hx hb dX11_guilt_123 (by decide) ?_
          exact ih hw (lv_sub hl [2, 3, 4, 5, 1, 0] rfl) h
set_option maxHeartbeats 4000000 in
set_option maxRecDepth 100000 in
theorem s_X11_guilt {Qf : Bool → xM → Prop} {a1 : Int32} {a2 : Int32} (C : x_C p s m args meth c g RX11 cX11_guilt 7 (some .boolean)) (hM : xpM g) {u : xM} {H : Heap} {locs : List Loc} {ls : Array Slot} (hw : x_W g s.heap H locs u) (hl : lv_has ls 7 [(0, .ref (xad g 272)), (1, .int a1), (2, .int a2)]) (h : p_X11_guilt a1 a2 u Qf) : W p l e (x_rm 11 244) s m args below meth c H locs 0 0 (MQ below (x_Qz g Qf) args s 0 0 (x_A g)) (F0 m 0 ls []) := by
  unfold p_X11_guilt at h
  have hx := C.1
  have hb := C.2.1
  refine lv_aload_n hx hb dX11_guilt_0 rfl (lv_at hl 0 rfl) ?_
  refine lv_iload_n hx hb dX11_guilt_1 rfl (lv_at hl 1 rfl) ?_
  refine x_callz hw (x_runV (ci := 11) C hw (m_X11_isDoor l C.2.2.2.2.2.2.2.2.1 hM h) (xoM_272 hM) rfl (x_gV xw_977 xw_978 xw_979 xw_5 xw_980) rfl rfl qX11_isDoor ⟨(Nat.le_of_ble_eq_true rfl), (Nat.le_of_ble_eq_true rfl)⟩ rfl hl.1 rfl (Nat.le_of_ble_eq_true rfl) dX11_guilt_2) (fun r2 u1 H locs hw h => ?_)
  refine lv_if_eq (tgt := 33) hx hb dX11_guilt_5 (by decide) (fun c3 => ?_) (fun c3 => ?_)
  · have h := h.1 (xb_f c3)
    refine lv_aload_n hx hb dX11_guilt_33 rfl (lv_at hl 0 rfl) ?_
    refine lv_iconst (v := 1) hx hb dX11_guilt_34 (by decide) ?_
    refine x_callz hw (x_runV (ci := 11) C hw (m_X11_is l C.2.2.2.2.2.2.2.2.1 hM h) (xoM_272 hM) rfl (x_gV xw_303 xw_304 xw_305 xw_5 xw_306) rfl rfl qX11_is ⟨(Nat.le_of_ble_eq_true rfl), (Nat.le_of_ble_eq_true rfl)⟩ rfl hl.1 rfl (Nat.le_of_ble_eq_true rfl) dX11_guilt_35) (fun r5 u4 H locs hw h => ?_)
    exact x_zret _ C hw h rfl dX11_guilt_38
  · have h := h.2 (xb_t c3)
    refine lv_aload_n hx hb dX11_guilt_8 rfl (lv_at hl 0 rfl) ?_
    refine lv_iload_n hx hb dX11_guilt_9 rfl (lv_at hl 2 rfl) ?_
    refine x_callz hw (x_runV (ci := 11) C hw (m_X11_isSet l C.2.2.2.2.2.2.2.2.1 hM h) (xoM_272 hM) rfl (x_gV xw_1718 xw_1719 xw_1720 xw_5 xw_1721) rfl rfl qX11_isSet ⟨(Nat.le_of_ble_eq_true rfl), (Nat.le_of_ble_eq_true rfl)⟩ rfl hl.1 rfl (Nat.le_of_ble_eq_true rfl) dX11_guilt_10) (fun r7 u6 H locs hw h => ?_)
    refine lv_if_eq (tgt := 33) hx hb dX11_guilt_13 (by decide) (fun c8 => ?_) (fun c8 => ?_)
    · have h := h.1 (xb_f c8)
      refine lv_aload_n hx hb dX11_guilt_33 rfl (lv_at hl 0 rfl) ?_
      refine lv_iconst (v := 1) hx hb dX11_guilt_34 (by decide) ?_
      refine x_callz hw (x_runV (ci := 11) C hw (m_X11_is l C.2.2.2.2.2.2.2.2.1 hM h) (xoM_272 hM) rfl (x_gV xw_303 xw_304 xw_305 xw_5 xw_306) rfl rfl qX11_is ⟨(Nat.le_of_ble_eq_true rfl), (Nat.le_of_ble_eq_true rfl)⟩ rfl hl.1 rfl (Nat.le_of_ble_eq_true rfl) dX11_guilt_35) (fun r10 u9 H locs hw h => ?_)
      exact x_zret _ C hw h rfl dX11_guilt_38
    · have h := h.2 (xb_t c8)
      refine lv_aload_n hx hb dX11_guilt_16 rfl (lv_at hl 0 rfl) ?_
      refine lv_iload_n hx hb dX11_guilt_17 rfl (lv_at hl 2 rfl) ?_
      refine lv_iload_n hx hb dX11_guilt_18 rfl (lv_at hl 1 rfl) ?_
      refine x_callz hw (x_runV (ci := 11) C hw (m_X11_isIn l C.2.2.2.2.2.2.2.2.1 hM h) (xoM_272 hM) rfl (x_gV xw_918 xw_919 xw_920 xw_5 xw_921) rfl rfl qX11_isIn ⟨(Nat.le_of_ble_eq_true rfl), (Nat.le_of_ble_eq_true rfl)⟩ rfl hl.1 rfl (Nat.le_of_ble_eq_true rfl) dX11_guilt_19) (fun r12 u11 H locs hw h => ?_)
      refine lv_if_eq (tgt := 33) hx hb dX11_guilt_22 (by decide) (fun c13 => ?_) (fun c13 => ?_)
      · have h := h.1 (xb_f c13)
        refine lv_aload_n hx hb dX11_guilt_33 rfl (lv_at hl 0 rfl) ?_
        refine lv_iconst (v := 1) hx hb dX11_guilt_34 (by decide) ?_
        refine x_callz hw (x_runV (ci := 11) C hw (m_X11_is l C.2.2.2.2.2.2.2.2.1 hM h) (xoM_272 hM) rfl (x_gV xw_303 xw_304 xw_305 xw_5 xw_306) rfl rfl qX11_is ⟨(Nat.le_of_ble_eq_true rfl), (Nat.le_of_ble_eq_true rfl)⟩ rfl hl.1 rfl (Nat.le_of_ble_eq_true rfl) dX11_guilt_35) (fun r15 u14 H locs hw h => ?_)
        exact x_zret _ C hw h rfl dX11_guilt_38
      · have h := h.2 (xb_t c13)
        refine lv_iload_n hx hb dX11_guilt_25 rfl (lv_at hl 2 rfl) ?_
        refine x_calli hw (x_runS C hw (m_X11_bits l C.2.2.2.2.2.2.2.2.1  h) (x_gS xw_1320 xw_1321 xw_5 xw_1322) rfl rfl qX11_bits ⟨(Nat.le_of_ble_eq_true rfl), (Nat.le_of_ble_eq_true rfl)⟩ rfl hl.1 rfl (Nat.le_of_ble_eq_true rfl) dX11_guilt_26) (fun r17 u16 H locs hw h => ?_)
        refine lv_iconst (v := 5) hx hb dX11_guilt_29 (by decide) ?_
        refine lv_icmp_le (tgt := 39) hx hb dX11_guilt_30 (by decide) (fun c18 => ?_) (fun c18 => ?_)
        · have h := h.1 c18
          refine lv_iload_n hx hb dX11_guilt_39 rfl (lv_at hl 2 rfl) ?_
          refine x_calli hw (x_runS C hw (m_X11_bits l C.2.2.2.2.2.2.2.2.1  h) (x_gS xw_1320 xw_1321 xw_5 xw_1322) rfl rfl qX11_bits ⟨(Nat.le_of_ble_eq_true rfl), (Nat.le_of_ble_eq_true rfl)⟩ rfl hl.1 rfl (Nat.le_of_ble_eq_true rfl) dX11_guilt_40) (fun r20 u19 H locs hw h => ?_)
          refine lv_istore_n (lv' := [(3, .int r20), (0, .ref (xad g 272)), (1, .int a1), (2, .int a2)]) hx hb dX11_guilt_43 rfl hl (by decide) rfl (fun ls hl => ?_)
          refine lv_lconst (v := 0) hx hb dX11_guilt_44 (by decide) ?_
          refine lv_lstore (lv' := [(4, .long 0), (3, .int r20), (0, .ref (xad g 272)), (1, .int a1), (2, .int a2)]) hx hb dX11_guilt_45 hl (by decide) rfl (fun ls hl => ?_)
          refine lv_iconst (v := 0) hx hb dX11_guilt_47 (by decide) ?_
          refine lv_istore (lv' := [(6, .int 0), (4, .long 0), (3, .int r20), (0, .ref (xad g 272)), (1, .int a1), (2, .int a2)]) hx hb dX11_guilt_48 hl (by decide) rfl (fun ls hl => ?_)
          obtain ⟨n9, h⟩ := h
          exact s_X11_guilt_L50 C hM n9 hw (lv_sub hl [3, 4, 5, 2, 1, 0] rfl) h
        · have h := h.2 c18
          refine lv_aload_n hx hb dX11_guilt_33 rfl (lv_at hl 0 rfl) ?_
          refine lv_iconst (v := 1) hx hb dX11_guilt_34 (by decide) ?_
          refine x_callz hw (x_runV (ci := 11) C hw (m_X11_is l C.2.2.2.2.2.2.2.2.1 hM h) (xoM_272 hM) rfl (x_gV xw_303 xw_304 xw_305 xw_5 xw_306) rfl rfl qX11_is ⟨(Nat.le_of_ble_eq_true rfl), (Nat.le_of_ble_eq_true rfl)⟩ rfl hl.1 rfl (Nat.le_of_ble_eq_true rfl) dX11_guilt_35) (fun r22 u21 H locs hw h => ?_)
          exact x_zret _ C hw h rfl dX11_guilt_38
set_option maxHeartbeats 4000000 in
set_option maxRecDepth 100000 in
theorem m_X11_guilt (l : Launch) {g : xG} (hD : x_D g) (hM : xpM g) {a1 : Int32} {a2 : Int32} {u : xM} {Qf : Bool → xM → Prop} (h : p_X11_guilt a1 a2 u Qf) : Met l yX11_guilt (Cond.code yX11_guilt cX11_guilt 7 (some .boolean) :: wsL_law) (x_rm 11 244) (va_Pc [.ref (xad g 272), .int a1, .int a2] (x_B g u)) (x_Qz g Qf) 0 0 (x_A g) := by
  refine Met.ofW (cc := cX11_guilt) (maxL := 7) (ret := (some .boolean)) (by decide) rfl ?_
  intro p e s m args below meth c s₁ B hml hv
  obtain ⟨rfl, hB⟩ := hv
  obtain ⟨C, hw⟩ := x_start B hml hD hB
  have hl := lv_entry [.ref (xad g 272), .int a1, .int a2] (n := 7) (Nat.le_of_ble_eq_true rfl)
  rw [lg_entry_eq]
  exact s_X11_guilt C hM hw hl h
end
